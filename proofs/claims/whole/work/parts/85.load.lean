theorem cd_P_grow {D : va_G} {ad : Nat → Nat} {N : Nat} {A : Nat → Prop} {w : Nat → va_E} {H H1 : Heap} (h : cd_P D ad N A w H) (hq : ∀ q, q < H.size → H1[q]? = H[q]?) : cd_P D ad N A w H1 := ⟨fun k q hk => (h.1 k q hk).kept (hq q.1 (h.1 k q hk).lt), h.2⟩
/-- load, where the tape's bytes are a core -/
theorem c_Desk_load (l : Launch) (D : va_G) (tt : Nat → ClassId) (ad : Nat → Nat) (N : Nat) (A : Nat → Prop) (zs : Nat → Nat) (w0 : Nat → va_E) (q : Nat) (u : cd_Has) (up : cd_Row) (uc uc' : cd_Tc) (uh uh' : cd_Tt) (vm vm' : cd_Mem) (vt vt' : cd_Tt) (hR0 : cd_DeskAt N tt ad w0 q u) (hR1 : cd_RowAt N tt ad w0 (q + 21) 8192 up) (hR2 : cd_TcAt N tt ad w0 (q + 23) (q + 21) uc) (hR3 : cd_TtAt N tt ad w0 (q + 24) uh) (hR4 : cd_MemAt N tt ad w0 (q + 27) vm) (hR5 : cd_TtAt N tt ad w0 (q + 41) vt) (ho1 : o_Tc_passes (uc, uh) 8192 up) (hf1 : f_Tc_passes (uc, uh) 8192 up = (1, uc', uh')) (ho2 : o_Desk_takeCore (u, vm, vt) up uc' uh') (hf2 : f_Desk_takeCore (u, vm, vt) up uc' uh' = (1, vm', vt')) : Met l y_Desk_load w_Desk_load ({ frames := 6, cells := 0, slots := 0, locals := 140 }) (va_Pc [.ref (ad q)] (cd_U D tt ad N A zs w0)) (va_Qi (fun r w' => f_Mem_count vm' = r ∧ cd_DeskAt N tt ad w' q 1 ∧ cd_TcAt N tt ad w' (q + 23) (q + 21) uc' ∧ cd_TtAt N tt ad w' (q + 24) uh' ∧ cd_MemAt N tt ad w' (q + 27) vm' ∧ cd_TtAt N tt ad w' (q + 41) vt' ∧ ∀ k : Nat, (k < q ∨ q + 1 ≤ k) ∧ (k < q + 23 ∨ q + 44 ≤ k) → w' k = w0 k) (fun w' t => cd_P D ad N A w' t.heap) A) 0 0 A := by
  refine Met.ofW (cc := b_Desk_load) (maxL := 1) (ret := (some .int)) (by decide) rfl ?_
  intro p e s m args below meth c s₁ B hml hv
  obtain ⟨rfl, hP, hK, hZ⟩ := hv
  have hx := B.exec
  have hb := B.bytes
  have hr := B.returns
  have hA : ∀ w ∈ cd_AW, w.before _ s = true := fun w h => atoms_spec (ws := w_Desk_load) B.pre w (List.mem_cons_of_mem _ h)
  have hown : s.vm.findClass R_Desk = some m.cls := findClass_of_methodNamed B.named
  have hlocks := B.notSynchronized
  have hS : va_S A s.heap s.heap [] := va_S.rf
  have hl := lv_entry ([.ref (ad q)]) (n := 1) (Nat.le_of_ble_eq_true rfl)
  rw [lg_entry_eq]
  generalize (lg_sl ([.ref (ad q)]) ++ List.replicate (1 - (lg_sl ([.ref (ad q)])).length) Slot.unset).toArray = ls at hl ⊢
  have hl : lv_has ls 1 [(0, .ref (ad q))] := hl
  obtain ⟨hn1, fa2⟩ := hR0
  refine lv_aload_n hx hb d_Desk_load_0 rfl (lv_at hl 0 rfl) ?_
  refine g_get (ci := 6) (C := R_Desk) (T := F_Desk) (Nf := 9) (v := .ref (ad (q + 23))) hx hb hA in_Desk hown hK hP (k := q) (by omega) fa2 rfl 5 (by decide) (hA _ aw_105) (fun _ h9 => h9) rfl d_Desk_load_1 ?_
  obtain ⟨hn3, fa4⟩ := hR2
  refine va_calli (va_runV (As := []) (rest := []) ⟨hx, hb, hml, hown, hA⟩ (c_Tc_passes l D tt ad N A zs w0 (q + 23) (q + 21) (uc, uh) 8192 up ⟨hn3, fa4⟩ hR1 hR3 (by omega) ho1) (cwV 0 hA (cd_gV aw_391 aw_392 aw_393 aw_7 aw_394) rfl rfl rfl ⟨rfl, by decide, by decide, by decide +kernel⟩ ⟨Nat.le_of_ble_eq_true rfl, Nat.le_of_ble_eq_true rfl⟩) ⟨cd_blind, cd_recv hK hP (k := (q + 23)) (by omega) fa4 rfl, fun U hU hW => ⟨rfl, cd_pre hK hP hZ hS U hU hW⟩⟩ rfl rfl hl.1 rfl (lv_room (Nat.le_of_ble_eq_true rfl)) d_Desk_load_4 ⟨Nat.zero_le _, Nat.zero_le _⟩) hS (fun _ _ h => h) (fun _ h => h) (fun r5 w1 tE H locs ht hvm hr6 hP hz1 hk1 hS => ?_)
  have hP := cd_Pf ht hP
  obtain ⟨hr7, -, at8, at9, e1⟩ := hr6
  rw [hf1] at hr7 at8 at9
  have hr7 : (1 : Int32) = r5 := hr7
  subst hr7
  refine lv_if_ne (tgt := 18) hx hb d_Desk_load_7 (by decide) (fun hc3 => ?_) (fun hc3 => absurd hc3 (by decide))
  have fa10 := (e1 q (by omega)).trans fa2
  have at11 := cd_RowAt_keep hR1 (fun k h1 h2 => e1 k (by omega))
  have at12 := cd_MemAt_keep hR4 (fun k h1 h2 => e1 k (by omega))
  have at13 := cd_TtAt_keep hR5 (fun k h1 h2 => e1 k (by omega))
  refine lv_aload_n hx hb d_Desk_load_18 rfl (lv_at hl 0 rfl) ?_
  refine va_callv (va_runV (As := []) (rest := []) ⟨hx, hb, hml, hown, hA⟩ (c_Desk_takeCore l D tt ad N A zs w1 q (u, vm, vt) up uc' uh' ⟨hn1, fa10⟩ at11 at8 at9 at12 at13 ho2) (cwV 0 hA (cd_gV aw_507 aw_508 aw_783 aw_1 aw_509) rfl rfl rfl ⟨rfl, by decide, by decide, by decide +kernel⟩ ⟨Nat.le_of_ble_eq_true rfl, Nat.le_of_ble_eq_true rfl⟩) ⟨cd_blind, cd_recv hK hP (k := q) (by omega) fa10 rfl, fun U hU hW => ⟨rfl, cd_pre hK hP hZ hS U hU hW⟩⟩ rfl rfl hl.1 rfl (lv_room (Nat.le_of_ble_eq_true rfl)) d_Desk_load_19 ⟨Nat.zero_le _, Nat.zero_le _⟩) hS (fun _ _ h => h) (fun _ h => h) (fun w2 tE H locs ht hvm hr14 hP hz1 hk1 hS => ?_)
  have hP := cd_Pf ht hP
  rw [hf2] at hr14
  obtain ⟨at15, at16, at17, e2⟩ := hr14
  obtain ⟨hn18, fa19⟩ := at15
  obtain ⟨hn20, fa21, fa22, fa23⟩ := at16
  have at24 := cd_TcAt_keep at8 (fun k h1 h2 => e2 k (by omega))
  have at25 := cd_TtAt_keep at9 (fun k h1 h2 => e2 k (by omega))
  refine lv_aload_n hx hb d_Desk_load_22 rfl (lv_at hl 0 rfl) ?_
  refine g_get (ci := 6) (C := R_Desk) (T := F_Desk) (Nf := 9) (v := .ref (ad (q + 27))) hx hb hA in_Desk hown hK hP (k := q) (by omega) fa19 rfl 6 (by decide) (hA _ aw_106) (fun _ h9 => h9) rfl d_Desk_load_23 ?_
  refine va_calli (va_runV (As := []) (rest := []) ⟨hx, hb, hml, hown, hA⟩ (c_Mem_count l D tt ad N A zs w2 (q + 27) vm' ⟨hn20, fa21, fa22, fa23⟩) (cwV 0 hA (cd_gV aw_335 aw_226 aw_227 aw_2 aw_228) rfl rfl rfl ⟨rfl, by decide, by decide, by decide +kernel⟩ ⟨Nat.le_of_ble_eq_true rfl, Nat.le_of_ble_eq_true rfl⟩) ⟨cd_blind, cd_recv hK hP (k := (q + 27)) (by omega) fa21 rfl, fun U hU hW => ⟨rfl, cd_pre hK hP hZ hS U hU hW⟩⟩ rfl rfl hl.1 rfl (lv_room (Nat.le_of_ble_eq_true rfl)) d_Desk_load_26 ⟨Nat.zero_le _, Nat.zero_le _⟩) hS (fun _ _ h => h) (fun _ h => h) (fun r26 w3 tE H locs ht hvm hr27 hP hz1 hk1 hS => ?_)
  have hP := cd_Pf ht hP
  obtain ⟨rfl, rfl⟩ := hr27
  exact W.iret (v := (f_Mem_count vm')) hx hb hr (fun tE ht _ => ⟨⟨_, w2, rfl, ⟨rfl, ⟨hn18, fa19⟩, at24, at25, ⟨hn20, fa21, fa22, fa23⟩, at17, fun k hk => (e2 k (by omega)).trans (e1 k (by omega))⟩, cd_Pt ht hP⟩, hS.F ht⟩) hS.2.2 d_Desk_load_29
/-- register, where there is one -/
theorem c_Desk_register (l : Launch) (D : va_G) (tt : Nat → ClassId) (ad : Nat → Nat) (N : Nat) (A : Nat → Prop) (zs : Nat → Nat) (w0 : Nat → va_E) (q : Nat) (u : cd_Has) (vt : cd_Tt) (k x : Int32) (hR0 : cd_DeskAt N tt ad w0 q u) (hR1 : cd_TtAt N tt ad w0 (q + 41) vt) (h1 : f_Tt_has vt k = 1) (h2 : x = 8 ∨ (¬ x < 0 ∧ ¬ (8 : Int32) ≤ x)) (ho1 : o_Tt_id vt k) (ho2 : ¬ x = 8 → o_Tt_read vt k x) : Met l y_Desk_register w_Desk_register ({ frames := 3, cells := 0, slots := 0, locals := 70 }) (va_Pc [.ref (ad q), .int k, .int x] (cd_U D tt ad N A zs w0)) (va_Qi (fun r w' => (if x = 8 then f_Tt_id vt k else f_Tt_read vt k x) = r ∧ w0 = w') (fun w' t => cd_P D ad N A w' t.heap) A) 0 0 A := by
  refine Met.ofW (cc := b_Desk_register) (maxL := 3) (ret := (some .int)) (by decide) rfl ?_
  intro p e s m args below meth c s₁ B hml hv
  obtain ⟨rfl, hP, hK, hZ⟩ := hv
  have hx := B.exec
  have hb := B.bytes
  have hr := B.returns
  have hA : ∀ w ∈ cd_AW, w.before _ s = true := fun w h => atoms_spec (ws := w_Desk_register) B.pre w (List.mem_cons_of_mem _ h)
  have hown : s.vm.findClass R_Desk = some m.cls := findClass_of_methodNamed B.named
  have hlocks := B.notSynchronized
  have hS : va_S A s.heap s.heap [] := va_S.rf
  have hl := lv_entry ([.ref (ad q), .int k, .int x]) (n := 3) (Nat.le_of_ble_eq_true rfl)
  rw [lg_entry_eq]
  generalize (lg_sl ([.ref (ad q), .int k, .int x]) ++ List.replicate (3 - (lg_sl ([.ref (ad q), .int k, .int x])).length) Slot.unset).toArray = ls at hl ⊢
  have hl : lv_has ls 3 [(0, .ref (ad q)), (1, .int k), (2, .int x)] := hl
  obtain ⟨hn1, fa2⟩ := hR0
  obtain ⟨hn3, fa4, fa5, fa6⟩ := hR1
  refine lv_aload_n hx hb d_Desk_register_0 rfl (lv_at hl 0 rfl) ?_
  refine g_get (ci := 6) (C := R_Desk) (T := F_Desk) (Nf := 9) (v := .ref (ad (q + 41))) hx hb hA in_Desk hown hK hP (k := q) (by omega) fa2 rfl 7 (by decide) (hA _ aw_107) (fun _ h9 => h9) rfl d_Desk_register_1 ?_
  refine lv_iload_n hx hb d_Desk_register_4 rfl (lv_at hl 1 rfl) ?_
  refine va_calli (va_runV (As := [.int k]) (rest := []) ⟨hx, hb, hml, hown, hA⟩ (c_Tt_has l D tt ad N A zs w0 (q + 41) vt k ⟨hn3, fa4, fa5, fa6⟩) (cwV 1 hA (cd_gV aw_373 aw_204 aw_205 aw_4 aw_206) rfl rfl rfl ⟨rfl, by decide, by decide, by decide +kernel⟩ ⟨Nat.le_of_ble_eq_true rfl, Nat.le_of_ble_eq_true rfl⟩) ⟨cd_blind, cd_recv hK hP (k := (q + 41)) (by omega) fa4 rfl, fun U hU hW => ⟨rfl, cd_pre hK hP hZ hS U hU hW⟩⟩ rfl rfl hl.1 rfl (lv_room (Nat.le_of_ble_eq_true rfl)) d_Desk_register_5 ⟨Nat.zero_le _, Nat.zero_le _⟩) hS (fun _ _ h => h) (fun _ h => h) (fun r5 w1 tE H locs ht hvm hr6 hP hz1 hk1 hS => ?_)
  have hP := cd_Pf ht hP
  obtain ⟨hr7, -, rfl⟩ := hr6
  rw [h1] at hr7
  subst hr7
  refine lv_if_eq (tgt := 46) hx hb d_Desk_register_8 (by decide) (fun hc3 => absurd hc3 (by decide)) (fun hc3 => ?_)
  refine lv_iload_n hx hb d_Desk_register_11 rfl (lv_at hl 2 rfl) ?_
  refine lv_bipush (v := (8 : Int32)) hx hb d_Desk_register_12 (by decide) ?_
  refine lv_icmp_ne (tgt := 26) hx hb d_Desk_register_14 (by decide) (fun hc8 => ?_) (fun hc8 => ?_)
  · have h2' : ¬ x < 0 ∧ ¬ (8 : Int32) ≤ x := h2.resolve_left hc8
    refine lv_iload_n hx hb d_Desk_register_26 rfl (lv_at hl 2 rfl) ?_
    refine lv_if_lt (tgt := 46) hx hb d_Desk_register_27 (by decide) (fun hc9 => absurd hc9 h2'.1) (fun hc9 => ?_)
    refine lv_iload_n hx hb d_Desk_register_30 rfl (lv_at hl 2 rfl) ?_
    refine lv_bipush (v := (8 : Int32)) hx hb d_Desk_register_31 (by decide) ?_
    refine lv_icmp_ge (tgt := 46) hx hb d_Desk_register_33 (by decide) (fun hc10 => absurd hc10 h2'.2) (fun hc10 => ?_)
    refine lv_aload_n hx hb d_Desk_register_36 rfl (lv_at hl 0 rfl) ?_
    refine g_get (ci := 6) (C := R_Desk) (T := F_Desk) (Nf := 9) (v := .ref (ad (q + 41))) hx hb hA in_Desk hown hK hP (k := q) (by omega) fa2 rfl 7 (by decide) (hA _ aw_107) (fun _ h9 => h9) rfl d_Desk_register_37 ?_
    refine lv_iload_n hx hb d_Desk_register_40 rfl (lv_at hl 1 rfl) ?_
    refine lv_iload_n hx hb d_Desk_register_41 rfl (lv_at hl 2 rfl) ?_
    refine va_calli (va_runV (As := [.int k, .int x]) (rest := []) ⟨hx, hb, hml, hown, hA⟩ (c_Tt_read l D tt ad N A zs w0 (q + 41) vt k x ⟨hn3, fa4, fa5, fa6⟩ (ho2 hc8)) (cwV 2 hA (cd_gV aw_374 aw_274 aw_275 aw_4 aw_276) rfl rfl rfl ⟨rfl, by decide, by decide, by decide +kernel⟩ ⟨Nat.le_of_ble_eq_true rfl, Nat.le_of_ble_eq_true rfl⟩) ⟨cd_blind, cd_recv hK hP (k := (q + 41)) (by omega) fa4 rfl, fun U hU hW => ⟨rfl, cd_pre hK hP hZ hS U hU hW⟩⟩ rfl rfl hl.1 rfl (lv_room (Nat.le_of_ble_eq_true rfl)) d_Desk_register_42 ⟨Nat.zero_le _, Nat.zero_le _⟩) hS (fun _ _ h => h) (fun _ h => h) (fun r11 w1 tE H locs ht hvm hr12 hP hz1 hk1 hS => ?_)
    have hP := cd_Pf ht hP
    obtain ⟨rfl, rfl⟩ := hr12
    exact W.iret (v := (f_Tt_read vt k x)) hx hb hr (fun tE ht _ => ⟨⟨_, w0, rfl, ⟨if_neg hc8, rfl⟩, cd_Pt ht hP⟩, hS.F ht⟩) hS.2.2 d_Desk_register_45
  · refine lv_aload_n hx hb d_Desk_register_17 rfl (lv_at hl 0 rfl) ?_
    refine g_get (ci := 6) (C := R_Desk) (T := F_Desk) (Nf := 9) (v := .ref (ad (q + 41))) hx hb hA in_Desk hown hK hP (k := q) (by omega) fa2 rfl 7 (by decide) (hA _ aw_107) (fun _ h9 => h9) rfl d_Desk_register_18 ?_
    refine lv_iload_n hx hb d_Desk_register_21 rfl (lv_at hl 1 rfl) ?_
    refine va_calli (va_runV (As := [.int k]) (rest := []) ⟨hx, hb, hml, hown, hA⟩ (c_Tt_id l D tt ad N A zs w0 (q + 41) vt k ⟨hn3, fa4, fa5, fa6⟩ ho1) (cwV 1 hA (cd_gV aw_540 aw_270 aw_271 aw_4 aw_272) rfl rfl rfl ⟨rfl, by decide, by decide, by decide +kernel⟩ ⟨Nat.le_of_ble_eq_true rfl, Nat.le_of_ble_eq_true rfl⟩) ⟨cd_blind, cd_recv hK hP (k := (q + 41)) (by omega) fa4 rfl, fun U hU hW => ⟨rfl, cd_pre hK hP hZ hS U hU hW⟩⟩ rfl rfl hl.1 rfl (lv_room (Nat.le_of_ble_eq_true rfl)) d_Desk_register_22 ⟨Nat.zero_le _, Nat.zero_le _⟩) hS (fun _ _ h => h) (fun _ h => h) (fun r11 w1 tE H locs ht hvm hr12 hP hz1 hk1 hS => ?_)
    have hP := cd_Pf ht hP
    obtain ⟨rfl, rfl⟩ := hr12
    exact W.iret (v := (f_Tt_id vt k)) hx hb hr (fun tE ht _ => ⟨⟨_, w0, rfl, ⟨if_pos hc8, rfl⟩, cd_Pt ht hP⟩, hS.F ht⟩) hS.2.2 d_Desk_register_25
