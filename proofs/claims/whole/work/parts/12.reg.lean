def f_Reg_begin (u : cd_Reg) (k : Int32) (x : Int32) (y : Int32) : cd_Reg := (k, x, y, (f_Arr_fillB 1024 u.2.2.2 (0 : Int32)))
def o_Reg_begin (u : cd_Reg) (k : Int32) (x : Int32) (y : Int32) : Prop := (o_Arr_fillB 1024 u.2.2.2 (0 : Int32))
set_option maxHeartbeats 4000000 in
set_option maxRecDepth 100000 in
theorem c_Reg_begin (l : Launch) (D : va_G) (tt : Nat → ClassId) (ad : Nat → Nat) (N : Nat) (A : Nat → Prop) (zs : Nat → Nat) (w0 : Nat → va_E) (q : Nat) (u : cd_Reg) (k : Int32) (x : Int32) (y : Int32) (hR0 : cd_RegAt N tt ad w0 q u) (ho : o_Reg_begin u k x y) : Met l y_Reg_begin w_Reg_begin ({ frames := 1, cells := 0, slots := 0, locals := 23 }) (va_Pc [.ref (ad q), .int k, .int x, .int y] (cd_U D tt ad N A zs w0)) (va_Qv (fun w' => cd_RegAt N tt ad w' q (f_Reg_begin u k x y) ∧ (∀ k : Nat, (k < q ∨ q + 2 ≤ k) → w' k = w0 k)) (fun w' t => cd_P D ad N A w' t.heap) A) 0 0 A := by
  refine Met.ofW (cc := b_Reg_begin) (maxL := 4) (ret := none) (by decide) rfl ?_
  intro p e s m args below meth c s₁ B hml hv
  obtain ⟨rfl, hP, hK, hZ⟩ := hv
  have hx := B.exec
  have hb := B.bytes
  have hr := B.returns
  have hA : ∀ w ∈ cd_AW, w.before _ s = true := fun w h => atoms_spec (ws := w_Reg_begin) B.pre w (List.mem_cons_of_mem _ h)
  have hown : s.vm.findClass R_Reg = some m.cls := findClass_of_methodNamed B.named
  have hlocks := B.notSynchronized
  have hS : va_S A s.heap s.heap [] := va_S.rf
  have hl := lv_entry ([.ref (ad q), .int k, .int x, .int y]) (n := 4) (Nat.le_of_ble_eq_true rfl)
  rw [lg_entry_eq]
  generalize (lg_sl ([.ref (ad q), .int k, .int x, .int y]) ++ List.replicate (4 - (lg_sl ([.ref (ad q), .int k, .int x, .int y])).length) Slot.unset).toArray = ls at hl ⊢
  have hl : lv_has ls 4 [(0, .ref (ad q)), (1, .int k), (2, .int x), (3, .int y)] := hl
  have ho : (o_Arr_fillB 1024 u.2.2.2 (0 : Int32)) := ho
  obtain ⟨hn1, fa2, fa3⟩ := hR0
  refine lv_aload_n hx hb d_Reg_begin_0 rfl (lv_at hl 0 rfl) ?_
  refine lv_iload_n hx hb d_Reg_begin_1 rfl (lv_at hl 1 rfl) ?_
  refine g_put (ci := 1) (C := R_Reg) (T := F_Reg) (Nf := 4) (v := .int k) (ty := .int) hx hb hA in_Reg t_Reg t_Reg_ok n_Reg hown hK hP hS (k := q) (by omega) fa2 rfl 1 (by decide) (hA _ aw_37) (fun _ h9 => h9) rfl (by decide +kernel) rfl rfl (Nat.le_of_ble_eq_true rfl) d_Reg_begin_2 (fun H locs w1 fa4 e1 hP hS => ?_)
  have fa4 : w1 q = .inr (1, [.ref (ad (q + 1)), .int k, .int u.2.1, .int u.2.2.1]) := fa4
  have fa5 := (e1 (q + 1) (by omega)).trans fa3
  refine lv_aload_n hx hb d_Reg_begin_5 rfl (lv_at hl 0 rfl) ?_
  refine lv_iload_n hx hb d_Reg_begin_6 rfl (lv_at hl 2 rfl) ?_
  refine g_put (ci := 1) (C := R_Reg) (T := F_Reg) (Nf := 4) (v := .int x) (ty := .int) hx hb hA in_Reg t_Reg t_Reg_ok n_Reg hown hK hP hS (k := q) (by omega) fa4 rfl 2 (by decide) (hA _ aw_38) (fun _ h9 => h9) rfl (by decide +kernel) rfl rfl (Nat.le_of_ble_eq_true rfl) d_Reg_begin_7 (fun H locs w2 fa6 e2 hP hS => ?_)
  have fa6 : w2 q = .inr (1, [.ref (ad (q + 1)), .int k, .int x, .int u.2.2.1]) := fa6
  have fa7 := (e2 (q + 1) (by omega)).trans fa5
  refine lv_aload_n hx hb d_Reg_begin_10 rfl (lv_at hl 0 rfl) ?_
  refine lv_iload_n hx hb d_Reg_begin_11 rfl (lv_at hl 3 rfl) ?_
  refine g_put (ci := 1) (C := R_Reg) (T := F_Reg) (Nf := 4) (v := .int y) (ty := .int) hx hb hA in_Reg t_Reg t_Reg_ok n_Reg hown hK hP hS (k := q) (by omega) fa6 rfl 3 (by decide) (hA _ aw_39) (fun _ h9 => h9) rfl (by decide +kernel) rfl rfl (Nat.le_of_ble_eq_true rfl) d_Reg_begin_12 (fun H locs w3 fa8 e3 hP hS => ?_)
  have fa8 : w3 q = .inr (1, [.ref (ad (q + 1)), .int k, .int x, .int y]) := fa8
  have fa9 := (e3 (q + 1) (by omega)).trans fa7
  refine lv_aload_n hx hb d_Reg_begin_15 rfl (lv_at hl 0 rfl) ?_
  refine g_get (ci := 1) (C := R_Reg) (T := F_Reg) (Nf := 4) (v := .ref (ad (q + 1))) hx hb hA in_Reg hown hK hP (k := q) (by omega) fa8 rfl 0 (by decide) (hA _ aw_36) (fun _ h9 => h9) rfl d_Reg_begin_16 ?_
  refine lv_iconst (v := (0 : Int32)) hx hb d_Reg_begin_19 (by decide) ?_
  refine va_callv (va_runS (As := [.ref (ad (q + 1)), .int (0 : Int32)]) (rest := []) ⟨hx, hb, hml, hown, hA⟩ (c_Arr_fillB l D tt ad N A zs w3 (q + 1) 1024 u.2.2.2 (0 : Int32) (⟨by omega, fa9⟩) (ho)) (va_cwS 2 hA (cd_gSx aw_137 aw_138 aw_9 aw_139) rfl rfl rfl ⟨by decide, by decide, by decide +kernel⟩ ⟨Nat.le_of_ble_eq_true rfl, Nat.le_of_ble_eq_true rfl⟩) ⟨cd_blind, fun U hU hW => ⟨rfl, cd_pre hK hP hZ hS U hU hW⟩⟩ rfl rfl hl.1 rfl (lv_room (Nat.le_of_ble_eq_true rfl)) d_Reg_begin_20 ⟨Nat.zero_le _, Nat.zero_le _⟩) hS (fun _ _ h => h) (fun _ h => h) (fun w4 tE H locs ht hvm hr11 hP hz1 hk1 hS => ?_)
  have hP := cd_Pf ht hP
  obtain ⟨at13, e4⟩ := hr11
  have fa14 := at13.2
  have fa15 := (e4 q (by omega)).trans fa8
  have hf16 : (f_Reg_begin u k x y) = (k, x, y, (f_Arr_fillB 1024 u.2.2.2 (0 : Int32))) := by rw [f_Reg_begin]
  exact W.vret hx hb hr (fun tE ht _ => ⟨⟨w4, rfl, ⟨(by rw [hf16]; exact ⟨hn1, fa15, fa14⟩), (fun k hk => ((e4 k (by omega)).trans ((e3 k (by omega)).trans ((e2 k (by omega)).trans (e1 k (by omega))))))⟩, cd_Pt ht hP⟩, hS.F ht⟩) hS.2.2 d_Reg_begin_23
def f_Reg_has (u : cd_Reg) (k : Int32) : Int32 := (if k < u.1 then (0 : Int32) else (if u.2.1 ≤ (k - u.1) then (0 : Int32) else (1 : Int32)))
set_option maxHeartbeats 4000000 in
set_option maxRecDepth 100000 in
theorem c_Reg_has (l : Launch) (D : va_G) (tt : Nat → ClassId) (ad : Nat → Nat) (N : Nat) (A : Nat → Prop) (zs : Nat → Nat) (w0 : Nat → va_E) (q : Nat) (u : cd_Reg) (k : Int32) (hR0 : cd_RegAt N tt ad w0 q u) : Met l y_Reg_has w_Reg_has ({ frames := 0, cells := 0, slots := 0, locals := 0 }) (va_Pc [.ref (ad q), .int k] (cd_U D tt ad N A zs w0)) (va_Qi (fun r w' => (f_Reg_has u k) = r ∧ (r = 0 ∨ r = 1) ∧ w0 = w') (fun w' t => cd_P D ad N A w' t.heap) A) 0 0 A := by
  refine Met.ofW (cc := b_Reg_has) (maxL := 2) (ret := (some .boolean)) (by decide) rfl ?_
  intro p e s m args below meth c s₁ B hml hv
  obtain ⟨rfl, hP, hK, hZ⟩ := hv
  have hx := B.exec
  have hb := B.bytes
  have hr := B.returns
  have hA : ∀ w ∈ cd_AW, w.before _ s = true := fun w h => atoms_spec (ws := w_Reg_has) B.pre w (List.mem_cons_of_mem _ h)
  have hown : s.vm.findClass R_Reg = some m.cls := findClass_of_methodNamed B.named
  have hlocks := B.notSynchronized
  have hS : va_S A s.heap s.heap [] := va_S.rf
  have hl := lv_entry ([.ref (ad q), .int k]) (n := 2) (Nat.le_of_ble_eq_true rfl)
  rw [lg_entry_eq]
  generalize (lg_sl ([.ref (ad q), .int k]) ++ List.replicate (2 - (lg_sl ([.ref (ad q), .int k])).length) Slot.unset).toArray = ls at hl ⊢
  have hl : lv_has ls 2 [(0, .ref (ad q)), (1, .int k)] := hl
  obtain ⟨hn1, fa2, fa3⟩ := hR0
  refine lv_iload_n hx hb d_Reg_has_0 rfl (lv_at hl 1 rfl) ?_
  refine lv_aload_n hx hb d_Reg_has_1 rfl (lv_at hl 0 rfl) ?_
  refine g_get (ci := 1) (C := R_Reg) (T := F_Reg) (Nf := 4) (v := .int u.1) hx hb hA in_Reg hown hK hP (k := q) (by omega) fa2 rfl 1 (by decide) (hA _ aw_37) (fun _ h9 => h9) rfl d_Reg_has_2 ?_
  refine lv_icmp_lt (tgt := 25) hx hb d_Reg_has_5 (by decide) (fun hc4 => ?_) (fun hc4 => ?_)
  · refine lv_iconst (v := (0 : Int32)) hx hb d_Reg_has_25 (by decide) ?_
    have hf5 : (f_Reg_has u k) = (0 : Int32) := by rw [f_Reg_has, if_pos hc4]
    exact W.zret (ty := .boolean) (v := (0 : Int32)) hx hb hr rfl (fun tE ht _ => ⟨⟨_, w0, rfl, ⟨hf5, (Or.inl rfl), rfl⟩, cd_Pt ht hP⟩, hS.F ht⟩) hS.2.2 d_Reg_has_26
  · refine lv_iload_n hx hb d_Reg_has_8 rfl (lv_at hl 1 rfl) ?_
    refine lv_aload_n hx hb d_Reg_has_9 rfl (lv_at hl 0 rfl) ?_
    refine g_get (ci := 1) (C := R_Reg) (T := F_Reg) (Nf := 4) (v := .int u.1) hx hb hA in_Reg hown hK hP (k := q) (by omega) fa2 rfl 1 (by decide) (hA _ aw_37) (fun _ h9 => h9) rfl d_Reg_has_10 ?_
    refine lv_isub hx hb d_Reg_has_13 ?_
    refine lv_aload_n hx hb d_Reg_has_14 rfl (lv_at hl 0 rfl) ?_
    refine g_get (ci := 1) (C := R_Reg) (T := F_Reg) (Nf := 4) (v := .int u.2.1) hx hb hA in_Reg hown hK hP (k := q) (by omega) fa2 rfl 2 (by decide) (hA _ aw_38) (fun _ h9 => h9) rfl d_Reg_has_15 ?_
    refine lv_icmp_ge (tgt := 25) hx hb d_Reg_has_18 (by decide) (fun hc6 => ?_) (fun hc6 => ?_)
    · refine lv_iconst (v := (0 : Int32)) hx hb d_Reg_has_25 (by decide) ?_
      have hf7 : (f_Reg_has u k) = (0 : Int32) := by rw [f_Reg_has, if_neg hc4, if_pos hc6]
      exact W.zret (ty := .boolean) (v := (0 : Int32)) hx hb hr rfl (fun tE ht _ => ⟨⟨_, w0, rfl, ⟨hf7, (Or.inl rfl), rfl⟩, cd_Pt ht hP⟩, hS.F ht⟩) hS.2.2 d_Reg_has_26
    · refine lv_iconst (v := (1 : Int32)) hx hb d_Reg_has_21 (by decide) ?_
      refine lv_goto (tgt := 26) hx hb d_Reg_has_22 (by decide) ?_
      have hf8 : (f_Reg_has u k) = (1 : Int32) := by rw [f_Reg_has, if_neg hc4, if_neg hc6]
      exact W.zret (ty := .boolean) (v := (1 : Int32)) hx hb hr rfl (fun tE ht _ => ⟨⟨_, w0, rfl, ⟨hf8, (Or.inr rfl), rfl⟩, cd_Pt ht hP⟩, hS.F ht⟩) hS.2.2 d_Reg_has_26
def f_Reg_read (u : cd_Reg) (k : Int32) : Int32 := (if k < 0 then (-1 : Int32) else (if k < (1024 : Int32) then ((u.2.2.2 k.toNatClampNeg) &&& (255 : Int32)) else (-1 : Int32)))
def o_Reg_read (u : cd_Reg) (k : Int32) : Prop := (¬ k < 0 → k < (1024 : Int32) → vp_in k 1024)
set_option maxHeartbeats 4000000 in
set_option maxRecDepth 100000 in
theorem c_Reg_read (l : Launch) (D : va_G) (tt : Nat → ClassId) (ad : Nat → Nat) (N : Nat) (A : Nat → Prop) (zs : Nat → Nat) (w0 : Nat → va_E) (q : Nat) (u : cd_Reg) (k : Int32) (hR0 : cd_RegAt N tt ad w0 q u) (ho : o_Reg_read u k) : Met l y_Reg_read w_Reg_read ({ frames := 0, cells := 0, slots := 0, locals := 0 }) (va_Pc [.ref (ad q), .int k] (cd_U D tt ad N A zs w0)) (va_Qi (fun r w' => (f_Reg_read u k) = r ∧ w0 = w') (fun w' t => cd_P D ad N A w' t.heap) A) 0 0 A := by
  refine Met.ofW (cc := b_Reg_read) (maxL := 2) (ret := (some .int)) (by decide) rfl ?_
  intro p e s m args below meth c s₁ B hml hv
  obtain ⟨rfl, hP, hK, hZ⟩ := hv
  have hx := B.exec
  have hb := B.bytes
  have hr := B.returns
  have hA : ∀ w ∈ cd_AW, w.before _ s = true := fun w h => atoms_spec (ws := w_Reg_read) B.pre w (List.mem_cons_of_mem _ h)
  have hown : s.vm.findClass R_Reg = some m.cls := findClass_of_methodNamed B.named
  have hlocks := B.notSynchronized
  have hS : va_S A s.heap s.heap [] := va_S.rf
  have hl := lv_entry ([.ref (ad q), .int k]) (n := 2) (Nat.le_of_ble_eq_true rfl)
  rw [lg_entry_eq]
  generalize (lg_sl ([.ref (ad q), .int k]) ++ List.replicate (2 - (lg_sl ([.ref (ad q), .int k])).length) Slot.unset).toArray = ls at hl ⊢
  have hl : lv_has ls 2 [(0, .ref (ad q)), (1, .int k)] := hl
  have ho : (¬ k < 0 → k < (1024 : Int32) → vp_in k 1024) := ho
  obtain ⟨hn1, fa2, fa3⟩ := hR0
  refine lv_iload_n hx hb d_Reg_read_0 rfl (lv_at hl 1 rfl) ?_
  refine lv_if_lt (tgt := 13) hx hb d_Reg_read_1 (by decide) (fun hc4 => ?_) (fun hc4 => ?_)
  · refine lv_iconst (v := (-1 : Int32)) hx hb d_Reg_read_13 (by decide) ?_
    refine lv_goto (tgt := 27) hx hb d_Reg_read_14 (by decide) ?_
    have hf5 : (f_Reg_read u k) = (-1 : Int32) := by rw [f_Reg_read, if_pos hc4]
    exact W.iret (v := (-1 : Int32)) hx hb hr (fun tE ht _ => ⟨⟨_, w0, rfl, ⟨hf5, rfl⟩, cd_Pt ht hP⟩, hS.F ht⟩) hS.2.2 d_Reg_read_27
  · refine lv_iload_n hx hb d_Reg_read_4 rfl (lv_at hl 1 rfl) ?_
    refine lv_aload_n hx hb d_Reg_read_5 rfl (lv_at hl 0 rfl) ?_
    refine g_get (ci := 1) (C := R_Reg) (T := F_Reg) (Nf := 4) (v := .ref (ad (q + 1))) hx hb hA in_Reg hown hK hP (k := q) (by omega) fa2 rfl 0 (by decide) (hA _ aw_36) (fun _ h9 => h9) rfl d_Reg_read_6 ?_
    refine g_alen (v := (1024 : Int32)) hx hb hK hP (k := (q + 1)) (by omega) fa3 (t0 := 0) rfl (show Int32.ofNat 1024 = (1024 : Int32) by decide) d_Reg_read_9 ?_
    refine lv_icmp_lt (tgt := 17) hx hb d_Reg_read_10 (by decide) (fun hc6 => ?_) (fun hc6 => ?_)
    · refine lv_aload_n hx hb d_Reg_read_17 rfl (lv_at hl 0 rfl) ?_
      refine g_get (ci := 1) (C := R_Reg) (T := F_Reg) (Nf := 4) (v := .ref (ad (q + 1))) hx hb hA in_Reg hown hK hP (k := q) (by omega) fa2 rfl 0 (by decide) (hA _ aw_36) (fun _ h9 => h9) rfl d_Reg_read_18 ?_
      refine lv_iload_n hx hb d_Reg_read_21 rfl (lv_at hl 1 rfl) ?_
      refine g_bald hx hb hK hP (k := (q + 1)) (by omega) fa3 rfl (ho hc4 hc6) d_Reg_read_22 ?_
      refine lv_sipush (v := (255 : Int32)) hx hb d_Reg_read_23 (by decide) ?_
      refine lv_iand hx hb d_Reg_read_26 ?_
      have hf7 : (f_Reg_read u k) = ((u.2.2.2 k.toNatClampNeg) &&& (255 : Int32)) := by rw [f_Reg_read, if_neg hc4, if_pos hc6]
      exact W.iret (v := ((u.2.2.2 k.toNatClampNeg) &&& (255 : Int32))) hx hb hr (fun tE ht _ => ⟨⟨_, w0, rfl, ⟨hf7, rfl⟩, cd_Pt ht hP⟩, hS.F ht⟩) hS.2.2 d_Reg_read_27
    · refine lv_iconst (v := (-1 : Int32)) hx hb d_Reg_read_13 (by decide) ?_
      refine lv_goto (tgt := 27) hx hb d_Reg_read_14 (by decide) ?_
      have hf8 : (f_Reg_read u k) = (-1 : Int32) := by rw [f_Reg_read, if_neg hc4, if_neg hc6]
      exact W.iret (v := (-1 : Int32)) hx hb hr (fun tE ht _ => ⟨⟨_, w0, rfl, ⟨hf8, rfl⟩, cd_Pt ht hP⟩, hS.F ht⟩) hS.2.2 d_Reg_read_27
def f_Reg_write (u : cd_Reg) (k : Int32) (v : Int32) : cd_Reg := (if k < 0 then u else (if (1024 : Int32) ≤ k then u else (u.1, u.2.1, u.2.2.1, (upd u.2.2.2 k.toNatClampNeg (vp_nar .byte v.toInt8.toInt32)))))
def o_Reg_write (u : cd_Reg) (k : Int32) (v : Int32) : Prop := (¬ k < 0 → ¬ (1024 : Int32) ≤ k → vp_in k 1024)
set_option maxHeartbeats 4000000 in
set_option maxRecDepth 100000 in
theorem c_Reg_write (l : Launch) (D : va_G) (tt : Nat → ClassId) (ad : Nat → Nat) (N : Nat) (A : Nat → Prop) (zs : Nat → Nat) (w0 : Nat → va_E) (q : Nat) (u : cd_Reg) (k : Int32) (v : Int32) (hR0 : cd_RegAt N tt ad w0 q u) (ho : o_Reg_write u k v) : Met l y_Reg_write w_Reg_write ({ frames := 0, cells := 0, slots := 0, locals := 0 }) (va_Pc [.ref (ad q), .int k, .int v] (cd_U D tt ad N A zs w0)) (va_Qv (fun w' => cd_RegAt N tt ad w' q (f_Reg_write u k v) ∧ (∀ k : Nat, (k < q ∨ q + 2 ≤ k) → w' k = w0 k)) (fun w' t => cd_P D ad N A w' t.heap) A) 0 0 A := by
  refine Met.ofW (cc := b_Reg_write) (maxL := 3) (ret := none) (by decide) rfl ?_
  intro p e s m args below meth c s₁ B hml hv
  obtain ⟨rfl, hP, hK, hZ⟩ := hv
  have hx := B.exec
  have hb := B.bytes
  have hr := B.returns
  have hA : ∀ w ∈ cd_AW, w.before _ s = true := fun w h => atoms_spec (ws := w_Reg_write) B.pre w (List.mem_cons_of_mem _ h)
  have hown : s.vm.findClass R_Reg = some m.cls := findClass_of_methodNamed B.named
  have hlocks := B.notSynchronized
  have hS : va_S A s.heap s.heap [] := va_S.rf
  have hl := lv_entry ([.ref (ad q), .int k, .int v]) (n := 3) (Nat.le_of_ble_eq_true rfl)
  rw [lg_entry_eq]
  generalize (lg_sl ([.ref (ad q), .int k, .int v]) ++ List.replicate (3 - (lg_sl ([.ref (ad q), .int k, .int v])).length) Slot.unset).toArray = ls at hl ⊢
  have hl : lv_has ls 3 [(0, .ref (ad q)), (1, .int k), (2, .int v)] := hl
  have ho : (¬ k < 0 → ¬ (1024 : Int32) ≤ k → vp_in k 1024) := ho
  obtain ⟨hn1, fa2, fa3⟩ := hR0
  refine lv_iload_n hx hb d_Reg_write_0 rfl (lv_at hl 1 rfl) ?_
  refine lv_if_lt (tgt := 21) hx hb d_Reg_write_1 (by decide) (fun hc4 => ?_) (fun hc4 => ?_)
  · have hf5 : (f_Reg_write u k v) = u := by rw [f_Reg_write, if_pos hc4]
    exact W.vret hx hb hr (fun tE ht _ => ⟨⟨w0, rfl, ⟨(by rw [hf5]; exact ⟨hn1, fa2, fa3⟩), (fun _ _ => rfl)⟩, cd_Pt ht hP⟩, hS.F ht⟩) hS.2.2 d_Reg_write_21
  · refine lv_iload_n hx hb d_Reg_write_4 rfl (lv_at hl 1 rfl) ?_
    refine lv_aload_n hx hb d_Reg_write_5 rfl (lv_at hl 0 rfl) ?_
    refine g_get (ci := 1) (C := R_Reg) (T := F_Reg) (Nf := 4) (v := .ref (ad (q + 1))) hx hb hA in_Reg hown hK hP (k := q) (by omega) fa2 rfl 0 (by decide) (hA _ aw_36) (fun _ h9 => h9) rfl d_Reg_write_6 ?_
    refine g_alen (v := (1024 : Int32)) hx hb hK hP (k := (q + 1)) (by omega) fa3 (t0 := 0) rfl (show Int32.ofNat 1024 = (1024 : Int32) by decide) d_Reg_write_9 ?_
    refine lv_icmp_ge (tgt := 21) hx hb d_Reg_write_10 (by decide) (fun hc6 => ?_) (fun hc6 => ?_)
    · have hf7 : (f_Reg_write u k v) = u := by rw [f_Reg_write, if_neg hc4, if_pos hc6]
      exact W.vret hx hb hr (fun tE ht _ => ⟨⟨w0, rfl, ⟨(by rw [hf7]; exact ⟨hn1, fa2, fa3⟩), (fun _ _ => rfl)⟩, cd_Pt ht hP⟩, hS.F ht⟩) hS.2.2 d_Reg_write_21
    · refine lv_aload_n hx hb d_Reg_write_13 rfl (lv_at hl 0 rfl) ?_
      refine g_get (ci := 1) (C := R_Reg) (T := F_Reg) (Nf := 4) (v := .ref (ad (q + 1))) hx hb hA in_Reg hown hK hP (k := q) (by omega) fa2 rfl 0 (by decide) (hA _ aw_36) (fun _ h9 => h9) rfl d_Reg_write_14 ?_
      refine lv_iload_n hx hb d_Reg_write_17 rfl (lv_at hl 1 rfl) ?_
      refine lv_iload_n hx hb d_Reg_write_18 rfl (lv_at hl 2 rfl) ?_
      refine lv_i2b hx hb d_Reg_write_19 rfl ?_
      refine g_bast hx hb hK hP hS (k := (q + 1)) (by omega) fa3 rfl (ho hc4 hc6) d_Reg_write_20 (fun H locs w1 fa8 e1 hP hS => ?_)
      have fa9 := (e1 q (by omega)).trans fa2
      have hf10 : (f_Reg_write u k v) = (u.1, u.2.1, u.2.2.1, (upd u.2.2.2 k.toNatClampNeg (vp_nar .byte v.toInt8.toInt32))) := by rw [f_Reg_write, if_neg hc4, if_neg hc6]
      exact W.vret hx hb hr (fun tE ht _ => ⟨⟨w1, rfl, ⟨(by rw [hf10]; exact ⟨hn1, fa9, fa8⟩), (fun k hk => (e1 k (by omega)))⟩, cd_Pt ht hP⟩, hS.F ht⟩) hS.2.2 d_Reg_write_21
def f_Reg_numberAt (u : cd_Reg) (k : Int32) : Int32 := ((((f_Reg_read u k) ||| ((f_Reg_read u (k + (1 : Int32))) <<< ((8 : Int32) &&& 31))) ||| ((f_Reg_read u (k + (2 : Int32))) <<< ((16 : Int32) &&& 31))) ||| ((f_Reg_read u (k + (3 : Int32))) <<< ((24 : Int32) &&& 31)))
def o_Reg_numberAt (u : cd_Reg) (k : Int32) : Prop := (o_Reg_read u k) ∧ (o_Reg_read u (k + (1 : Int32))) ∧ (o_Reg_read u (k + (2 : Int32))) ∧ (o_Reg_read u (k + (3 : Int32)))
set_option maxHeartbeats 4000000 in
set_option maxRecDepth 100000 in
theorem c_Reg_numberAt (l : Launch) (D : va_G) (tt : Nat → ClassId) (ad : Nat → Nat) (N : Nat) (A : Nat → Prop) (zs : Nat → Nat) (w0 : Nat → va_E) (q : Nat) (u : cd_Reg) (k : Int32) (hR0 : cd_RegAt N tt ad w0 q u) (ho : o_Reg_numberAt u k) : Met l y_Reg_numberAt w_Reg_numberAt ({ frames := 1, cells := 0, slots := 0, locals := 21 }) (va_Pc [.ref (ad q), .int k] (cd_U D tt ad N A zs w0)) (va_Qi (fun r w' => (f_Reg_numberAt u k) = r ∧ w0 = w') (fun w' t => cd_P D ad N A w' t.heap) A) 0 0 A := by
  refine Met.ofW (cc := b_Reg_numberAt) (maxL := 2) (ret := (some .int)) (by decide) rfl ?_
  intro p e s m args below meth c s₁ B hml hv
  obtain ⟨rfl, hP, hK, hZ⟩ := hv
  have hx := B.exec
  have hb := B.bytes
  have hr := B.returns
  have hA : ∀ w ∈ cd_AW, w.before _ s = true := fun w h => atoms_spec (ws := w_Reg_numberAt) B.pre w (List.mem_cons_of_mem _ h)
  have hown : s.vm.findClass R_Reg = some m.cls := findClass_of_methodNamed B.named
  have hlocks := B.notSynchronized
  have hS : va_S A s.heap s.heap [] := va_S.rf
  have hl := lv_entry ([.ref (ad q), .int k]) (n := 2) (Nat.le_of_ble_eq_true rfl)
  rw [lg_entry_eq]
  generalize (lg_sl ([.ref (ad q), .int k]) ++ List.replicate (2 - (lg_sl ([.ref (ad q), .int k])).length) Slot.unset).toArray = ls at hl ⊢
  have hl : lv_has ls 2 [(0, .ref (ad q)), (1, .int k)] := hl
  have ho : (o_Reg_read u k) ∧ (o_Reg_read u (k + (1 : Int32))) ∧ (o_Reg_read u (k + (2 : Int32))) ∧ (o_Reg_read u (k + (3 : Int32))) := ho
  obtain ⟨hn1, fa2, fa3⟩ := hR0
  refine lv_aload_n hx hb d_Reg_numberAt_0 rfl (lv_at hl 0 rfl) ?_
  refine lv_iload_n hx hb d_Reg_numberAt_1 rfl (lv_at hl 1 rfl) ?_
  refine va_calli (va_runV (As := [.int k]) (rest := []) ⟨hx, hb, hml, hown, hA⟩ (c_Reg_read l D tt ad N A zs w0 q u k (⟨hn1, fa2, fa3⟩) (ho.1)) (cwV 1 hA (cd_gV aw_258 aw_259 aw_260 aw_3 aw_261) rfl rfl rfl ⟨rfl, by decide, by decide, by decide +kernel⟩ ⟨Nat.le_of_ble_eq_true rfl, Nat.le_of_ble_eq_true rfl⟩) ⟨cd_blind, cd_recv hK hP (k := q) (by omega) fa2 rfl, fun U hU hW => ⟨rfl, cd_pre hK hP hZ hS U hU hW⟩⟩ rfl rfl hl.1 rfl (lv_room (Nat.le_of_ble_eq_true rfl)) d_Reg_numberAt_2 ⟨Nat.zero_le _, Nat.zero_le _⟩) hS (fun _ _ h => h) (fun _ h => h) (fun r4 w1 tE H locs ht hvm hr5 hP hz1 hk1 hS => ?_)
  have hP := cd_Pf ht hP
  obtain ⟨rfl, rfl⟩ := hr5
  refine lv_aload_n hx hb d_Reg_numberAt_5 rfl (lv_at hl 0 rfl) ?_
  refine lv_iload_n hx hb d_Reg_numberAt_6 rfl (lv_at hl 1 rfl) ?_
  refine lv_iconst (v := (1 : Int32)) hx hb d_Reg_numberAt_7 (by decide) ?_
  refine lv_iadd hx hb d_Reg_numberAt_8 ?_
  refine va_calli (va_runV (As := [.int (k + (1 : Int32))]) (rest := [.int (f_Reg_read u k)]) ⟨hx, hb, hml, hown, hA⟩ (c_Reg_read l D tt ad N A zs w0 q u (k + (1 : Int32)) (⟨hn1, fa2, fa3⟩) (ho.2.1)) (cwV 1 hA (cd_gV aw_258 aw_259 aw_260 aw_3 aw_261) rfl rfl rfl ⟨rfl, by decide, by decide, by decide +kernel⟩ ⟨Nat.le_of_ble_eq_true rfl, Nat.le_of_ble_eq_true rfl⟩) ⟨cd_blind, cd_recv hK hP (k := q) (by omega) fa2 rfl, fun U hU hW => ⟨rfl, cd_pre hK hP hZ hS U hU hW⟩⟩ rfl rfl hl.1 rfl (lv_room (Nat.le_of_ble_eq_true rfl)) d_Reg_numberAt_9 ⟨Nat.zero_le _, Nat.zero_le _⟩) hS (fun _ _ h => h) (fun _ h => h) (fun r7 w2 tE H locs ht hvm hr8 hP hz1 hk1 hS => ?_)
  have hP := cd_Pf ht hP
  obtain ⟨rfl, rfl⟩ := hr8
  refine lv_bipush (v := (8 : Int32)) hx hb d_Reg_numberAt_12 (by decide) ?_
  refine lv_ishl hx hb d_Reg_numberAt_14 ?_
  refine lv_ior hx hb d_Reg_numberAt_15 ?_
  refine lv_aload_n hx hb d_Reg_numberAt_16 rfl (lv_at hl 0 rfl) ?_
  refine lv_iload_n hx hb d_Reg_numberAt_17 rfl (lv_at hl 1 rfl) ?_
  refine lv_iconst (v := (2 : Int32)) hx hb d_Reg_numberAt_18 (by decide) ?_
  refine lv_iadd hx hb d_Reg_numberAt_19 ?_
  refine va_calli (va_runV (As := [.int (k + (2 : Int32))]) (rest := [.int ((f_Reg_read u k) ||| ((f_Reg_read u (k + (1 : Int32))) <<< ((8 : Int32) &&& 31)))]) ⟨hx, hb, hml, hown, hA⟩ (c_Reg_read l D tt ad N A zs w0 q u (k + (2 : Int32)) (⟨hn1, fa2, fa3⟩) (ho.2.2.1)) (cwV 1 hA (cd_gV aw_258 aw_259 aw_260 aw_3 aw_261) rfl rfl rfl ⟨rfl, by decide, by decide, by decide +kernel⟩ ⟨Nat.le_of_ble_eq_true rfl, Nat.le_of_ble_eq_true rfl⟩) ⟨cd_blind, cd_recv hK hP (k := q) (by omega) fa2 rfl, fun U hU hW => ⟨rfl, cd_pre hK hP hZ hS U hU hW⟩⟩ rfl rfl hl.1 rfl (lv_room (Nat.le_of_ble_eq_true rfl)) d_Reg_numberAt_20 ⟨Nat.zero_le _, Nat.zero_le _⟩) hS (fun _ _ h => h) (fun _ h => h) (fun r10 w3 tE H locs ht hvm hr11 hP hz1 hk1 hS => ?_)
  have hP := cd_Pf ht hP
  obtain ⟨rfl, rfl⟩ := hr11
  refine lv_bipush (v := (16 : Int32)) hx hb d_Reg_numberAt_23 (by decide) ?_
  refine lv_ishl hx hb d_Reg_numberAt_25 ?_
  refine lv_ior hx hb d_Reg_numberAt_26 ?_
  refine lv_aload_n hx hb d_Reg_numberAt_27 rfl (lv_at hl 0 rfl) ?_
  refine lv_iload_n hx hb d_Reg_numberAt_28 rfl (lv_at hl 1 rfl) ?_
  refine lv_iconst (v := (3 : Int32)) hx hb d_Reg_numberAt_29 (by decide) ?_
  refine lv_iadd hx hb d_Reg_numberAt_30 ?_
  refine va_calli (va_runV (As := [.int (k + (3 : Int32))]) (rest := [.int (((f_Reg_read u k) ||| ((f_Reg_read u (k + (1 : Int32))) <<< ((8 : Int32) &&& 31))) ||| ((f_Reg_read u (k + (2 : Int32))) <<< ((16 : Int32) &&& 31)))]) ⟨hx, hb, hml, hown, hA⟩ (c_Reg_read l D tt ad N A zs w0 q u (k + (3 : Int32)) (⟨hn1, fa2, fa3⟩) (ho.2.2.2)) (cwV 1 hA (cd_gV aw_258 aw_259 aw_260 aw_3 aw_261) rfl rfl rfl ⟨rfl, by decide, by decide, by decide +kernel⟩ ⟨Nat.le_of_ble_eq_true rfl, Nat.le_of_ble_eq_true rfl⟩) ⟨cd_blind, cd_recv hK hP (k := q) (by omega) fa2 rfl, fun U hU hW => ⟨rfl, cd_pre hK hP hZ hS U hU hW⟩⟩ rfl rfl hl.1 rfl (lv_room (Nat.le_of_ble_eq_true rfl)) d_Reg_numberAt_31 ⟨Nat.zero_le _, Nat.zero_le _⟩) hS (fun _ _ h => h) (fun _ h => h) (fun r13 w4 tE H locs ht hvm hr14 hP hz1 hk1 hS => ?_)
  have hP := cd_Pf ht hP
  obtain ⟨rfl, rfl⟩ := hr14
  refine lv_bipush (v := (24 : Int32)) hx hb d_Reg_numberAt_34 (by decide) ?_
  refine lv_ishl hx hb d_Reg_numberAt_36 ?_
  refine lv_ior hx hb d_Reg_numberAt_37 ?_
  have hf16 : (f_Reg_numberAt u k) = ((((f_Reg_read u k) ||| ((f_Reg_read u (k + (1 : Int32))) <<< ((8 : Int32) &&& 31))) ||| ((f_Reg_read u (k + (2 : Int32))) <<< ((16 : Int32) &&& 31))) ||| ((f_Reg_read u (k + (3 : Int32))) <<< ((24 : Int32) &&& 31))) := by rw [f_Reg_numberAt]
  exact W.iret (v := ((((f_Reg_read u k) ||| ((f_Reg_read u (k + (1 : Int32))) <<< ((8 : Int32) &&& 31))) ||| ((f_Reg_read u (k + (2 : Int32))) <<< ((16 : Int32) &&& 31))) ||| ((f_Reg_read u (k + (3 : Int32))) <<< ((24 : Int32) &&& 31)))) hx hb hr (fun tE ht _ => ⟨⟨_, w0, rfl, ⟨hf16, rfl⟩, cd_Pt ht hP⟩, hS.F ht⟩) hS.2.2 d_Reg_numberAt_38
def f_Reg_usedBytes_L7 (u : cd_Reg) : Nat → Int32 → Int32
  | 0, _ => default
  | gn + 1, i => (if i < 0 then (0 : Int32) else (if (f_Reg_read u i) = 0 then (f_Reg_usedBytes_L7 u gn (i + (-1 : Int32))) else (((i / (64 : Int32)) + (1 : Int32)) * (64 : Int32))))
def f_Reg_usedBytes (u : cd_Reg) : Int32 := (f_Reg_usedBytes_L7 u 1025 (u.2.1 - (1 : Int32)))
def o_Reg_usedBytes_L7 (u : cd_Reg) : Nat → Int32 → Prop
  | 0, _ => False
  | gn + 1, i => (¬ i < 0 → o_Reg_read u i) ∧ (¬ i < 0 → (f_Reg_read u i) = 0 → o_Reg_usedBytes_L7 u gn (i + (-1 : Int32)))
def o_Reg_usedBytes (u : cd_Reg) : Prop := (o_Reg_usedBytes_L7 u 1025 (u.2.1 - (1 : Int32)))
set_option maxHeartbeats 4000000 in
set_option maxRecDepth 100000 in
theorem c_Reg_usedBytes (l : Launch) (D : va_G) (tt : Nat → ClassId) (ad : Nat → Nat) (N : Nat) (A : Nat → Prop) (zs : Nat → Nat) (w0 : Nat → va_E) (q : Nat) (u : cd_Reg) (hR0 : cd_RegAt N tt ad w0 q u) (ho : o_Reg_usedBytes u) : Met l y_Reg_usedBytes w_Reg_usedBytes ({ frames := 1, cells := 0, slots := 0, locals := 21 }) (va_Pc [.ref (ad q)] (cd_U D tt ad N A zs w0)) (va_Qi (fun r w' => (f_Reg_usedBytes u) = r ∧ w0 = w') (fun w' t => cd_P D ad N A w' t.heap) A) 0 0 A := by
  refine Met.ofW (cc := b_Reg_usedBytes) (maxL := 2) (ret := (some .int)) (by decide) rfl ?_
  intro p e s m args below meth c s₁ B hml hv
  obtain ⟨rfl, hP, hK, hZ⟩ := hv
  have hx := B.exec
  have hb := B.bytes
  have hr := B.returns
  have hA : ∀ w ∈ cd_AW, w.before _ s = true := fun w h => atoms_spec (ws := w_Reg_usedBytes) B.pre w (List.mem_cons_of_mem _ h)
  have hown : s.vm.findClass R_Reg = some m.cls := findClass_of_methodNamed B.named
  have hlocks := B.notSynchronized
  have L7 : ∀ (gn : Nat) (i : Int32) (H : Heap) (locs : List Loc) (ls : Array Slot), lv_has ls 2 [(0, .ref (ad q)), (1, .int i)] → (f_Reg_usedBytes u) = f_Reg_usedBytes_L7 u gn i → cd_RegAt N tt ad w0 q u → cd_P D ad N A w0 H → va_S A s.heap H locs → o_Reg_usedBytes_L7 u gn i → W p l e (headSpec w_Reg_usedBytes ({ frames := 1, cells := 0, slots := 0, locals := 21 })).room s m [.ref (ad q)].toArray below meth c H locs 0 0 (MQ below (va_Qi (fun r w' => (f_Reg_usedBytes u) = r ∧ w0 = w') (fun w' t => cd_P D ad N A w' t.heap) A) [.ref (ad q)].toArray s 0 0 A) (F0 m 7 ls []) := by
    intro gn
    induction gn with
    | zero => intro i H locs ls hl he hL0 hP hS ho; exact ho.elim
    | succ gn ih =>
      intro i H locs ls hl he hL0 hP hS ho
      have ho : (¬ i < 0 → o_Reg_read u i) ∧ (¬ i < 0 → (f_Reg_read u i) = 0 → o_Reg_usedBytes_L7 u gn (i + (-1 : Int32))) := ho
      obtain ⟨hn1, fa2, fa3⟩ := hL0
      refine lv_iload_n hx hb d_Reg_usedBytes_7 rfl (lv_at hl 1 rfl) ?_
      refine lv_if_lt (tgt := 35) hx hb d_Reg_usedBytes_8 (by decide) (fun hc4 => ?_) (fun hc4 => ?_)
      · refine lv_iconst (v := (0 : Int32)) hx hb d_Reg_usedBytes_35 (by decide) ?_
        have hf5 : (f_Reg_usedBytes u) = (0 : Int32) := by rw [he, f_Reg_usedBytes_L7, if_pos hc4]
        exact W.iret (v := (0 : Int32)) hx hb hr (fun tE ht _ => ⟨⟨_, w0, rfl, ⟨hf5, rfl⟩, cd_Pt ht hP⟩, hS.F ht⟩) hS.2.2 d_Reg_usedBytes_36
      · refine lv_aload_n hx hb d_Reg_usedBytes_11 rfl (lv_at hl 0 rfl) ?_
        refine lv_iload_n hx hb d_Reg_usedBytes_12 rfl (lv_at hl 1 rfl) ?_
        refine va_calli (va_runV (As := [.int i]) (rest := []) ⟨hx, hb, hml, hown, hA⟩ (c_Reg_read l D tt ad N A zs w0 q u i (⟨hn1, fa2, fa3⟩) (ho.1 hc4)) (cwV 1 hA (cd_gV aw_258 aw_259 aw_260 aw_3 aw_261) rfl rfl rfl ⟨rfl, by decide, by decide, by decide +kernel⟩ ⟨Nat.le_of_ble_eq_true rfl, Nat.le_of_ble_eq_true rfl⟩) ⟨cd_blind, cd_recv hK hP (k := q) (by omega) fa2 rfl, fun U hU hW => ⟨rfl, cd_pre hK hP hZ hS U hU hW⟩⟩ rfl rfl hl.1 rfl (lv_room (Nat.le_of_ble_eq_true rfl)) d_Reg_usedBytes_13 ⟨Nat.zero_le _, Nat.zero_le _⟩) hS (fun _ _ h => h) (fun _ h => h) (fun r6 w1 tE H locs ht hvm hr7 hP hz1 hk1 hS => ?_)
        have hP := cd_Pf ht hP
        obtain ⟨rfl, rfl⟩ := hr7
        refine lv_if_eq (tgt := 29) hx hb d_Reg_usedBytes_16 (by decide) (fun hc9 => ?_) (fun hc9 => ?_)
        · refine lv_iinc (k := 1) (v := (i + (-1 : Int32))) (lv' := [(1, .int (i + (-1 : Int32))), (0, .ref (ad q))]) hx hb d_Reg_usedBytes_29 hl rfl (cd_inc _ _ _ (by decide)) (by decide) rfl (fun ls hl => ?_)
          refine lv_goto (tgt := 7) hx hb d_Reg_usedBytes_32 (by decide) ?_
          exact ih (i + (-1 : Int32)) H locs ls (lv_sub hl [1, 0] rfl) (show (f_Reg_usedBytes u) = f_Reg_usedBytes_L7 u gn (i + (-1 : Int32)) by rw [he, f_Reg_usedBytes_L7, if_neg hc4, if_pos hc9]) (⟨hn1, fa2, fa3⟩) hP hS (ho.2 hc4 hc9)
        · refine lv_iload_n hx hb d_Reg_usedBytes_19 rfl (lv_at hl 1 rfl) ?_
          refine lv_bipush (v := (64 : Int32)) hx hb d_Reg_usedBytes_20 (by decide) ?_
          refine lv_idiv hx hb d_Reg_usedBytes_22 (by decide) ?_
          refine lv_iconst (v := (1 : Int32)) hx hb d_Reg_usedBytes_23 (by decide) ?_
          refine lv_iadd hx hb d_Reg_usedBytes_24 ?_
          refine lv_bipush (v := (64 : Int32)) hx hb d_Reg_usedBytes_25 (by decide) ?_
          refine lv_imul hx hb d_Reg_usedBytes_27 ?_
          have hf10 : (f_Reg_usedBytes u) = (((i / (64 : Int32)) + (1 : Int32)) * (64 : Int32)) := by rw [he, f_Reg_usedBytes_L7, if_neg hc4, if_neg hc9]
          exact W.iret (v := (((i / (64 : Int32)) + (1 : Int32)) * (64 : Int32))) hx hb hr (fun tE ht _ => ⟨⟨_, w0, rfl, ⟨hf10, rfl⟩, cd_Pt ht hP⟩, hS.F ht⟩) hS.2.2 d_Reg_usedBytes_28
  have hS : va_S A s.heap s.heap [] := va_S.rf
  have hl := lv_entry ([.ref (ad q)]) (n := 2) (Nat.le_of_ble_eq_true rfl)
  rw [lg_entry_eq]
  generalize (lg_sl ([.ref (ad q)]) ++ List.replicate (2 - (lg_sl ([.ref (ad q)])).length) Slot.unset).toArray = ls at hl ⊢
  have hl : lv_has ls 2 [(0, .ref (ad q))] := hl
  have ho : (o_Reg_usedBytes_L7 u 1025 (u.2.1 - (1 : Int32))) := ho
  obtain ⟨hn11, fa12, fa13⟩ := hR0
  refine lv_aload_n hx hb d_Reg_usedBytes_0 rfl (lv_at hl 0 rfl) ?_
  refine g_get (ci := 1) (C := R_Reg) (T := F_Reg) (Nf := 4) (v := .int u.2.1) hx hb hA in_Reg hown hK hP (k := q) (by omega) fa12 rfl 2 (by decide) (hA _ aw_38) (fun _ h9 => h9) rfl d_Reg_usedBytes_1 ?_
  refine lv_iconst (v := (1 : Int32)) hx hb d_Reg_usedBytes_4 (by decide) ?_
  refine lv_isub hx hb d_Reg_usedBytes_5 ?_
  refine lv_istore_n (lv' := [(1, .int (u.2.1 - (1 : Int32))), (0, .ref (ad q))]) hx hb d_Reg_usedBytes_6 rfl hl (by decide) rfl (fun ls hl => ?_)
  exact L7 1025 (u.2.1 - (1 : Int32)) s.heap [] ls (lv_sub hl [1, 0] rfl) (show (f_Reg_usedBytes u) = f_Reg_usedBytes_L7 u 1025 (u.2.1 - (1 : Int32)) by rw [f_Reg_usedBytes]) (⟨hn11, fa12, fa13⟩) hP hS (ho)
def f_Reg_search_L22 (u : cd_Reg) (v : Int32) (x : Int32) : Nat → Int32 → Int32
  | 0, _ => default
  | gn + 1, i => (if (u.2.1 - (4 : Int32)) < i then (-1 : Int32) else (if (f_Reg_numberAt u i) = v then (u.1 + i) else (f_Reg_search_L22 u v x gn (i + (1 : Int32)))))
def f_Reg_search (u : cd_Reg) (v : Int32) (x : Int32) : Int32 := (if x ≤ u.1 then (f_Reg_search_L22 u v x 1025 (0 : Int32)) else (f_Reg_search_L22 u v x 1025 (x - u.1)))
def o_Reg_search_L22 (u : cd_Reg) (v : Int32) (x : Int32) : Nat → Int32 → Prop
  | 0, _ => False
  | gn + 1, i => (¬ (u.2.1 - (4 : Int32)) < i → o_Reg_numberAt u i) ∧ (¬ (u.2.1 - (4 : Int32)) < i → ¬ (f_Reg_numberAt u i) = v → o_Reg_search_L22 u v x gn (i + (1 : Int32)))
def o_Reg_search (u : cd_Reg) (v : Int32) (x : Int32) : Prop := (x ≤ u.1 → o_Reg_search_L22 u v x 1025 (0 : Int32)) ∧ (¬ x ≤ u.1 → o_Reg_search_L22 u v x 1025 (x - u.1))
set_option maxHeartbeats 4000000 in
set_option maxRecDepth 100000 in
theorem c_Reg_search (l : Launch) (D : va_G) (tt : Nat → ClassId) (ad : Nat → Nat) (N : Nat) (A : Nat → Prop) (zs : Nat → Nat) (w0 : Nat → va_E) (q : Nat) (u : cd_Reg) (v : Int32) (x : Int32) (hR0 : cd_RegAt N tt ad w0 q u) (ho : o_Reg_search u v x) : Met l y_Reg_search w_Reg_search ({ frames := 2, cells := 0, slots := 0, locals := 42 }) (va_Pc [.ref (ad q), .int v, .int x] (cd_U D tt ad N A zs w0)) (va_Qi (fun r w' => (f_Reg_search u v x) = r ∧ w0 = w') (fun w' t => cd_P D ad N A w' t.heap) A) 0 0 A := by
  refine Met.ofW (cc := b_Reg_search) (maxL := 5) (ret := (some .int)) (by decide) rfl ?_
  intro p e s m args below meth c s₁ B hml hv
  obtain ⟨rfl, hP, hK, hZ⟩ := hv
  have hx := B.exec
  have hb := B.bytes
  have hr := B.returns
  have hA : ∀ w ∈ cd_AW, w.before _ s = true := fun w h => atoms_spec (ws := w_Reg_search) B.pre w (List.mem_cons_of_mem _ h)
  have hown : s.vm.findClass R_Reg = some m.cls := findClass_of_methodNamed B.named
  have hlocks := B.notSynchronized
  have L22 : ∀ (gn : Nat) (i : Int32) (H : Heap) (locs : List Loc) (ls : Array Slot), lv_has ls 5 [(0, .ref (ad q)), (1, .int v), (2, .int x), (4, .int i)] → (f_Reg_search u v x) = f_Reg_search_L22 u v x gn i → cd_RegAt N tt ad w0 q u → cd_P D ad N A w0 H → va_S A s.heap H locs → o_Reg_search_L22 u v x gn i → W p l e (headSpec w_Reg_search ({ frames := 2, cells := 0, slots := 0, locals := 42 })).room s m [.ref (ad q), .int v, .int x].toArray below meth c H locs 0 0 (MQ below (va_Qi (fun r w' => (f_Reg_search u v x) = r ∧ w0 = w') (fun w' t => cd_P D ad N A w' t.heap) A) [.ref (ad q), .int v, .int x].toArray s 0 0 A) (F0 m 22 ls []) := by
    intro gn
    induction gn with
    | zero => intro i H locs ls hl he hL0 hP hS ho; exact ho.elim
    | succ gn ih =>
      intro i H locs ls hl he hL0 hP hS ho
      have ho : (¬ (u.2.1 - (4 : Int32)) < i → o_Reg_numberAt u i) ∧ (¬ (u.2.1 - (4 : Int32)) < i → ¬ (f_Reg_numberAt u i) = v → o_Reg_search_L22 u v x gn (i + (1 : Int32))) := ho
      obtain ⟨hn1, fa2, fa3⟩ := hL0
      refine lv_iload hx hb d_Reg_search_22 (lv_at hl 3 rfl) ?_
      refine lv_aload_n hx hb d_Reg_search_24 rfl (lv_at hl 0 rfl) ?_
      refine g_get (ci := 1) (C := R_Reg) (T := F_Reg) (Nf := 4) (v := .int u.2.1) hx hb hA in_Reg hown hK hP (k := q) (by omega) fa2 rfl 2 (by decide) (hA _ aw_38) (fun _ h9 => h9) rfl d_Reg_search_25 ?_
      refine lv_iconst (v := (4 : Int32)) hx hb d_Reg_search_28 (by decide) ?_
      refine lv_isub hx hb d_Reg_search_29 ?_
      refine lv_icmp_gt (tgt := 57) hx hb d_Reg_search_30 (by decide) (fun hc4 => ?_) (fun hc4 => ?_)
      · refine lv_iconst (v := (-1 : Int32)) hx hb d_Reg_search_57 (by decide) ?_
        have hf5 : (f_Reg_search u v x) = (-1 : Int32) := by rw [he, f_Reg_search_L22, if_pos hc4]
        exact W.iret (v := (-1 : Int32)) hx hb hr (fun tE ht _ => ⟨⟨_, w0, rfl, ⟨hf5, rfl⟩, cd_Pt ht hP⟩, hS.F ht⟩) hS.2.2 d_Reg_search_58
      · refine lv_aload_n hx hb d_Reg_search_33 rfl (lv_at hl 0 rfl) ?_
        refine lv_iload hx hb d_Reg_search_34 (lv_at hl 3 rfl) ?_
        refine va_calli (va_runV (As := [.int i]) (rest := []) ⟨hx, hb, hml, hown, hA⟩ (c_Reg_numberAt l D tt ad N A zs w0 q u i (⟨hn1, fa2, fa3⟩) (ho.1 hc4)) (cwV 1 hA (cd_gV aw_366 aw_367 aw_765 aw_3 aw_368) rfl rfl rfl ⟨rfl, by decide, by decide, by decide +kernel⟩ ⟨Nat.le_of_ble_eq_true rfl, Nat.le_of_ble_eq_true rfl⟩) ⟨cd_blind, cd_recv hK hP (k := q) (by omega) fa2 rfl, fun U hU hW => ⟨rfl, cd_pre hK hP hZ hS U hU hW⟩⟩ rfl rfl hl.1 rfl (lv_room (Nat.le_of_ble_eq_true rfl)) d_Reg_search_36 ⟨Nat.zero_le _, Nat.zero_le _⟩) hS (fun _ _ h => h) (fun _ h => h) (fun r6 w1 tE H locs ht hvm hr7 hP hz1 hk1 hS => ?_)
        have hP := cd_Pf ht hP
        obtain ⟨rfl, rfl⟩ := hr7
        refine lv_iload_n hx hb d_Reg_search_39 rfl (lv_at hl 1 rfl) ?_
        refine lv_icmp_ne (tgt := 51) hx hb d_Reg_search_40 (by decide) (fun hc9 => ?_) (fun hc9 => ?_)
        · refine lv_iinc (k := 3) (v := (i + (1 : Int32))) (lv' := [(4, .int (i + (1 : Int32))), (0, .ref (ad q)), (1, .int v), (2, .int x)]) hx hb d_Reg_search_51 hl rfl (cd_inc _ _ _ (by decide)) (by decide) rfl (fun ls hl => ?_)
          refine lv_goto (tgt := 22) hx hb d_Reg_search_54 (by decide) ?_
          exact ih (i + (1 : Int32)) H locs ls (lv_sub hl [1, 2, 3, 0] rfl) (show (f_Reg_search u v x) = f_Reg_search_L22 u v x gn (i + (1 : Int32)) by rw [he, f_Reg_search_L22, if_neg hc4, if_neg hc9]) (⟨hn1, fa2, fa3⟩) hP hS (ho.2 hc4 hc9)
        · refine lv_aload_n hx hb d_Reg_search_43 rfl (lv_at hl 0 rfl) ?_
          refine g_get (ci := 1) (C := R_Reg) (T := F_Reg) (Nf := 4) (v := .int u.1) hx hb hA in_Reg hown hK hP (k := q) (by omega) fa2 rfl 1 (by decide) (hA _ aw_37) (fun _ h9 => h9) rfl d_Reg_search_44 ?_
          refine lv_iload hx hb d_Reg_search_47 (lv_at hl 3 rfl) ?_
          refine lv_iadd hx hb d_Reg_search_49 ?_
          have hf10 : (f_Reg_search u v x) = (u.1 + i) := by rw [he, f_Reg_search_L22, if_neg hc4, if_pos hc9]
          exact W.iret (v := (u.1 + i)) hx hb hr (fun tE ht _ => ⟨⟨_, w0, rfl, ⟨hf10, rfl⟩, cd_Pt ht hP⟩, hS.F ht⟩) hS.2.2 d_Reg_search_50
  have hS : va_S A s.heap s.heap [] := va_S.rf
  have hl := lv_entry ([.ref (ad q), .int v, .int x]) (n := 5) (Nat.le_of_ble_eq_true rfl)
  rw [lg_entry_eq]
  generalize (lg_sl ([.ref (ad q), .int v, .int x]) ++ List.replicate (5 - (lg_sl ([.ref (ad q), .int v, .int x])).length) Slot.unset).toArray = ls at hl ⊢
  have hl : lv_has ls 5 [(0, .ref (ad q)), (1, .int v), (2, .int x)] := hl
  have ho : (x ≤ u.1 → o_Reg_search_L22 u v x 1025 (0 : Int32)) ∧ (¬ x ≤ u.1 → o_Reg_search_L22 u v x 1025 (x - u.1)) := ho
  obtain ⟨hn11, fa12, fa13⟩ := hR0
  refine lv_iload_n hx hb d_Reg_search_0 rfl (lv_at hl 2 rfl) ?_
  refine lv_aload_n hx hb d_Reg_search_1 rfl (lv_at hl 0 rfl) ?_
  refine g_get (ci := 1) (C := R_Reg) (T := F_Reg) (Nf := 4) (v := .int u.1) hx hb hA in_Reg hown hK hP (k := q) (by omega) fa12 rfl 1 (by decide) (hA _ aw_37) (fun _ h9 => h9) rfl d_Reg_search_2 ?_
  refine lv_icmp_le (tgt := 17) hx hb d_Reg_search_5 (by decide) (fun hc14 => ?_) (fun hc14 => ?_)
  · refine lv_iconst (v := (0 : Int32)) hx hb d_Reg_search_17 (by decide) ?_
    refine lv_istore_n (lv' := [(3, .int (0 : Int32)), (0, .ref (ad q)), (1, .int v), (2, .int x)]) hx hb d_Reg_search_18 rfl hl (by decide) rfl (fun ls hl => ?_)
    refine lv_iload_n hx hb d_Reg_search_19 rfl (lv_at hl 0 rfl) ?_
    refine lv_istore (lv' := [(4, .int (0 : Int32)), (3, .int (0 : Int32)), (0, .ref (ad q)), (1, .int v), (2, .int x)]) hx hb d_Reg_search_20 hl (by decide) rfl (fun ls hl => ?_)
    exact L22 1025 (0 : Int32) s.heap [] ls (lv_sub hl [2, 3, 4, 0] rfl) (show (f_Reg_search u v x) = f_Reg_search_L22 u v x 1025 (0 : Int32) by rw [f_Reg_search, if_pos hc14]) (⟨hn11, fa12, fa13⟩) hP hS (ho.1 hc14)
  · refine lv_iload_n hx hb d_Reg_search_8 rfl (lv_at hl 2 rfl) ?_
    refine lv_aload_n hx hb d_Reg_search_9 rfl (lv_at hl 0 rfl) ?_
    refine g_get (ci := 1) (C := R_Reg) (T := F_Reg) (Nf := 4) (v := .int u.1) hx hb hA in_Reg hown hK hP (k := q) (by omega) fa12 rfl 1 (by decide) (hA _ aw_37) (fun _ h9 => h9) rfl d_Reg_search_10 ?_
    refine lv_isub hx hb d_Reg_search_13 ?_
    refine lv_goto (tgt := 18) hx hb d_Reg_search_14 (by decide) ?_
    refine lv_istore_n (lv' := [(3, .int (x - u.1)), (0, .ref (ad q)), (1, .int v), (2, .int x)]) hx hb d_Reg_search_18 rfl hl (by decide) rfl (fun ls hl => ?_)
    refine lv_iload_n hx hb d_Reg_search_19 rfl (lv_at hl 0 rfl) ?_
    refine lv_istore (lv' := [(4, .int (x - u.1)), (3, .int (x - u.1)), (0, .ref (ad q)), (1, .int v), (2, .int x)]) hx hb d_Reg_search_20 hl (by decide) rfl (fun ls hl => ?_)
    exact L22 1025 (x - u.1) s.heap [] ls (lv_sub hl [2, 3, 4, 0] rfl) (show (f_Reg_search u v x) = f_Reg_search_L22 u v x 1025 (x - u.1) by rw [f_Reg_search, if_neg hc14]) (⟨hn11, fa12, fa13⟩) hP hS (ho.2 hc14)
