/-- the end of a method that throws -/
def tw_Q (below : List Frame) (Qc : Array Value → State → Addr → State → Prop) (a : Array Value) (s : State) (mc ms : Nat) (free : Addr → Prop) : State → Prop := fun t => ∃ x : Addr, t.status = .running ∧ Ended t below (.threw x) ∧ Qc a s x t ∧ s.WarmedH t.vm ∧ ∃ L, s.sameButNew ({ t with vm := s.vm } : State) L mc ms ∧ ∀ q ∈ L, free q.base
/-- a method's contract where it throws -/
def tw_Met (l : Launch) (y : MethodName) (ws : List Cond) (rm : Room) (Pc : Array Value → State → Prop) (Qc : Array Value → State → Addr → State → Prop) (mc ms : Nat) (free : Addr → Prop) : Prop :=
  MetFree l y (headSpec ws rm) Pc (fun _ _ _ _ _ => True) (fun a st o t => ∃ x : Addr, o = .threw x ∧ Qc a st x t ∧ st.WarmedH t.vm ∧ ∃ L, st.sameButNew ({ t with vm := st.vm } : State) L mc ms ∧ ∀ q ∈ L, free q.base)
theorem tw_Met.ofW {l : Launch} {y : MethodName} {ws ws' : List Cond} {rm : Room} {Pc : Array Value → State → Prop} {Qc : Array Value → State → Addr → State → Prop} {mc ms : Nat} {free : Addr → Prop} {cc : ByteArray} {maxL : Nat} {ret : Option FieldType}
    (hy : plainName y.cls = true) (hw : ws = Cond.code y cc maxL ret :: ws')
    (body : ∀ p e s m args below meth c s₁, BodyLoose p l y (headSpec ws rm) cc maxL ret e s m args below meth c s₁ → c.maxLocals = maxL → Pc args s →
      W p l e (headSpec ws rm).room s m args below meth c s.heap [] 0 0 (tw_Q below Qc args s mc ms free) (entryFrame m args maxL)) : tw_Met l y ws rm Pc Qc mc ms free := by
  refine MetFree.of_bodyS (code := cc) (maxLocals := maxL) (ret := ret) hy ?_ ?_
  · intro args s m h hn
    obtain ⟨meth, c, h1, h2, h3, h4, h5, h6, -, -⟩ := Cond.code_spec hn (atoms_spec (ws := ws) h _ (by rw [hw]; exact List.mem_cons_self))
    exact ⟨meth, c, h1, h2, h3, h4, h5, h6⟩
  · intro p e s m args below meth c s₁ B hml hP _
    have hh0 : s₁.heap = s.heap := by rw [B.state]; rfl
    obtain ⟨t, a1, x, b1, b2, b3⟩ := body p e s m args below meth c s₁ B hml hP s₁ hh0 (Stand.of_body B)
    exact ⟨t, .threw x, a1, b1, b2, x, rfl, b3⟩
/-- the exception that was thrown -/
def tw_E (E : String) (st : State) (x : Addr) (t : State) : Prop := ∃ ce : Cell, t.heap[x]? = some ce ∧ ce.vm = .none ∧ st.vm.findClass E = some ce.cls ∧ st.vm.assignable ce.cls ce.cls = true
theorem tw_names : ∀ n ∈ (["java/lang/RuntimeException", "java/lang/Exception"] : List String), Bundle.fit n = true := by decide +kernel
/-- load, where the tape's bytes are no core -/
theorem t_Desk_load (l : Launch) (hfl : l.flags = pinnedFlags ++ [noTraceFlag]) (D : va_G) (tt : Nat → ClassId) (ad : Nat → Nat) (N : Nat) (A : Nat → Prop) (zs : Nat → Nat) (w0 : Nat → va_E) (q : Nat) (u : cd_Has) (up : cd_Row) (uc uc' : cd_Tc) (uh uh' : cd_Tt) (hR0 : cd_DeskAt N tt ad w0 q u) (hR1 : cd_RowAt N tt ad w0 (q + 21) 8192 up) (hR2 : cd_TcAt N tt ad w0 (q + 23) (q + 21) uc) (hR3 : cd_TtAt N tt ad w0 (q + 24) uh) (ho1 : o_Tc_passes (uc, uh) 8192 up) (hf1 : f_Tc_passes (uc, uh) 8192 up = (0, uc', uh')) : tw_Met l y_Desk_load w_Desk_load ({ frames := 6, cells := 1, slots := 6, locals := 140 }) (va_Pc [.ref (ad q)] (fun U => cd_U D tt ad N A zs w0 U ∧ tw_Y A U)) (fun _ st x t => (∃ w', cd_TcAt N tt ad w' (q + 23) (q + 21) uc' ∧ cd_TtAt N tt ad w' (q + 24) uh' ∧ (∀ k : Nat, (k < q + 23 ∨ q + 27 ≤ k) → w' k = w0 k) ∧ cd_P D ad N A w' t.heap) ∧ va_F A st t ∧ tw_E "java/lang/IllegalArgumentException" st x t) 1 6 A := by
  refine tw_Met.ofW (cc := b_Desk_load) (maxL := 1) (ret := (some .int)) (by decide) rfl ?_
  intro p e s m args below meth c s₁ B hml hv
  obtain ⟨rfl, ⟨hP, hK, hZ⟩, hY⟩ := hv
  have hx := B.exec
  have hb := B.bytes
  have hout := B.noHandlers (atoms_spec (ws := w_Desk_load) B.pre _ List.mem_cons_self)
  have htr : e.platform.stackTraces = false := Launch.traces_off hfl (Stand.of_body B).admits
  have hA : ∀ w ∈ cd_AW, w.before _ s = true := fun w h => atoms_spec (ws := w_Desk_load) B.pre w (List.mem_cons_of_mem _ h)
  have hown : s.vm.findClass R_Desk = some m.cls := findClass_of_methodNamed B.named
  have hlocks := B.notSynchronized
  have hS : va_S A s.heap s.heap [] := va_S.rf
  have hl := lv_entry ([.ref (ad q)]) (n := 1) (Nat.le_of_ble_eq_true rfl)
  rw [lg_entry_eq]
  generalize (lg_sl ([.ref (ad q)]) ++ List.replicate (1 - (lg_sl ([.ref (ad q)])).length) Slot.unset).toArray = ls at hl ⊢
  have hl : lv_has ls 1 [(0, .ref (ad q))] := hl
  obtain ⟨hn1, fa2⟩ := hR0
  refine lv_aload_n hx hb d_Desk_load_0 rfl (lv_at hl 0 rfl) ?_
  refine g_get (ci := 6) (C := R_Desk) (T := F_Desk) (Nf := 9) (v := .ref (ad (q + 23))) hx hb hA in_Desk hown hK hP (k := q) (by omega) fa2 rfl 5 (by decide) (hA _ aw_105) (fun _ h9 => h9) rfl d_Desk_load_1 ?_
  obtain ⟨hn3, fa4⟩ := hR2
  refine va_calli (va_runV (As := []) (rest := []) ⟨hx, hb, hml, hown, hA⟩ (c_Tc_passes l D tt ad N A zs w0 (q + 23) (q + 21) (uc, uh) 8192 up ⟨hn3, fa4⟩ hR1 hR3 (by omega) ho1) (cwV 0 hA (cd_gV aw_391 aw_392 aw_393 aw_7 aw_394) rfl rfl rfl ⟨rfl, by decide, by decide, by decide +kernel⟩ ⟨Nat.le_of_ble_eq_true rfl, Nat.le_of_ble_eq_true rfl⟩) ⟨cd_blind, cd_recv hK hP (k := (q + 23)) (by omega) fa4 rfl, fun U hU hW => ⟨rfl, cd_pre hK hP hZ hS U hU hW⟩⟩ rfl rfl hl.1 rfl (lv_room (Nat.le_of_ble_eq_true rfl)) d_Desk_load_4 ⟨Nat.zero_le _, Nat.zero_le _⟩) hS (fun _ _ h => h) (fun _ h => h) (fun r5 w1 tE H locs ht hvm hr6 hP hz1 hk1 hS => ?_)
  have hP := cd_Pf ht hP
  obtain ⟨hr7, -, at8, at9, e1⟩ := hr6
  rw [hf1] at hr7 at8 at9
  have hr7 : (0 : Int32) = r5 := hr7
  subst hr7
  refine lv_if_ne (tgt := 18) hx hb d_Desk_load_7 (by decide) (fun hc3 => absurd rfl hc3) (fun hc3 => ?_)
  refine tw_throw hx hb htr (own := R_Desk) (E := "java/lang/IllegalArgumentException") (names := ["java/lang/RuntimeException", "java/lang/Exception"]) (ic := 113) (index := 111) hown (by decide +kernel) tw_names (tw_all tw_at_load hA hY) (hA _ aw_466) (hA _ aw_467) (hA _ aw_14) hS (hl.1.trans hml.symm) hout hlocks d_Desk_load_10 d_Desk_load_13 d_Desk_load_14 d_Desk_load_17 (by decide) (by decide) (by decide) (by decide) ?_
  intro U x u1 u2 u3 u4 u5 u6 u7 u8
  refine ⟨x, u1, u2, ⟨⟨w1, at8, at9, fun k hk => e1 k (by omega), cd_P_grow hP u6⟩, ⟨Nat.le_trans hS.1 u5, fun q h1 h2 => (u6 q (Nat.lt_of_lt_of_le h1 hS.1)).trans (hS.2.1 q h1 h2)⟩, u8⟩, u3, locs, u4, hS.2.2⟩
/-- register, where there is none such -/
theorem t_Desk_register (l : Launch) (hfl : l.flags = pinnedFlags ++ [noTraceFlag]) (D : va_G) (tt : Nat → ClassId) (ad : Nat → Nat) (N : Nat) (A : Nat → Prop) (zs : Nat → Nat) (w0 : Nat → va_E) (q : Nat) (u : cd_Has) (vt : cd_Tt) (k x : Int32) (hR0 : cd_DeskAt N tt ad w0 q u) (hR1 : cd_TtAt N tt ad w0 (q + 41) vt) (h1 : f_Tt_has vt k = 0 ∨ (¬ x = 8 ∧ (x < 0 ∨ (8 : Int32) ≤ x))) : tw_Met l y_Desk_register w_Desk_register ({ frames := 6, cells := 1, slots := 6, locals := 140 }) (va_Pc [.ref (ad q), .int k, .int x] (fun U => cd_U D tt ad N A zs w0 U ∧ tw_Y A U)) (fun _ st x t => cd_P D ad N A w0 t.heap ∧ va_F A st t ∧ tw_E "java/lang/IndexOutOfBoundsException" st x t) 1 6 A := by
  refine tw_Met.ofW (cc := b_Desk_register) (maxL := 3) (ret := (some .int)) (by decide) rfl ?_
  intro p e s m args below meth c s₁ B hml hv
  obtain ⟨rfl, ⟨hP, hK, hZ⟩, hY⟩ := hv
  have hx := B.exec
  have hb := B.bytes
  have hout := B.noHandlers (atoms_spec (ws := w_Desk_register) B.pre _ List.mem_cons_self)
  have htr : e.platform.stackTraces = false := Launch.traces_off hfl (Stand.of_body B).admits
  have hA : ∀ w ∈ cd_AW, w.before _ s = true := fun w h => atoms_spec (ws := w_Desk_register) B.pre w (List.mem_cons_of_mem _ h)
  have hown : s.vm.findClass R_Desk = some m.cls := findClass_of_methodNamed B.named
  have hlocks := B.notSynchronized
  have hS : va_S A s.heap s.heap [] := va_S.rf
  have hl := lv_entry ([.ref (ad q), .int k, .int x]) (n := 3) (Nat.le_of_ble_eq_true rfl)
  rw [lg_entry_eq]
  generalize (lg_sl ([.ref (ad q), .int k, .int x]) ++ List.replicate (3 - (lg_sl ([.ref (ad q), .int k, .int x])).length) Slot.unset).toArray = ls at hl ⊢
  have hl : lv_has ls 3 [(0, .ref (ad q)), (1, .int k), (2, .int x)] := hl
  obtain ⟨hn1, fa2⟩ := hR0
  obtain ⟨hn3, fa4, fa5, fa6⟩ := hR1
  have T : ∀ (H : Heap) (locs : List Loc), cd_P D ad N A w0 H → va_S A s.heap H locs → W p l e (headSpec w_Desk_register ({ frames := 6, cells := 1, slots := 6, locals := 140 })).room s m [.ref (ad q), .int k, .int x].toArray below meth c H locs 0 0 (tw_Q below (fun _ st x t => cd_P D ad N A w0 t.heap ∧ va_F A st t ∧ tw_E "java/lang/IndexOutOfBoundsException" st x t) [.ref (ad q), .int k, .int x].toArray s 1 6 A) (F0 m 46 ls []) := by
    intro H locs hP hS
    refine tw_throw hx hb htr (own := R_Desk) (E := "java/lang/IndexOutOfBoundsException") (names := ["java/lang/RuntimeException", "java/lang/Exception"]) (ic := 145) (index := 143) hown (by decide +kernel) tw_names (tw_all tw_at_register hA hY) (hA _ aw_541) (hA _ aw_542) (hA _ aw_15) hS (hl.1.trans hml.symm) hout hlocks d_Desk_register_46 d_Desk_register_49 d_Desk_register_50 d_Desk_register_53 (by decide) (by decide) (by decide) (by decide) ?_
    intro U x u1 u2 u3 u4 u5 u6 u7 u8
    refine ⟨x, u1, u2, ⟨cd_P_grow hP u6, ⟨Nat.le_trans hS.1 u5, fun q h1 h2 => (u6 q (Nat.lt_of_lt_of_le h1 hS.1)).trans (hS.2.1 q h1 h2)⟩, u8⟩, u3, locs, u4, hS.2.2⟩
  refine lv_aload_n hx hb d_Desk_register_0 rfl (lv_at hl 0 rfl) ?_
  refine g_get (ci := 6) (C := R_Desk) (T := F_Desk) (Nf := 9) (v := .ref (ad (q + 41))) hx hb hA in_Desk hown hK hP (k := q) (by omega) fa2 rfl 7 (by decide) (hA _ aw_107) (fun _ h9 => h9) rfl d_Desk_register_1 ?_
  refine lv_iload_n hx hb d_Desk_register_4 rfl (lv_at hl 1 rfl) ?_
  refine va_calli (va_runV (As := [.int k]) (rest := []) ⟨hx, hb, hml, hown, hA⟩ (c_Tt_has l D tt ad N A zs w0 (q + 41) vt k ⟨hn3, fa4, fa5, fa6⟩) (cwV 1 hA (cd_gV aw_373 aw_204 aw_205 aw_4 aw_206) rfl rfl rfl ⟨rfl, by decide, by decide, by decide +kernel⟩ ⟨Nat.le_of_ble_eq_true rfl, Nat.le_of_ble_eq_true rfl⟩) ⟨cd_blind, cd_recv hK hP (k := (q + 41)) (by omega) fa4 rfl, fun U hU hW => ⟨rfl, cd_pre hK hP hZ hS U hU hW⟩⟩ rfl rfl hl.1 rfl (lv_room (Nat.le_of_ble_eq_true rfl)) d_Desk_register_5 ⟨Nat.zero_le _, Nat.zero_le _⟩) hS (fun _ _ h => h) (fun _ h => h) (fun r5 w1 tE H locs ht hvm hr6 hP hz1 hk1 hS => ?_)
  have hP := cd_Pf ht hP
  obtain ⟨hr7, -, rfl⟩ := hr6
  refine lv_if_eq (tgt := 46) hx hb d_Desk_register_8 (by decide) (fun hc3 => T _ _ hP hS) (fun hc3 => ?_)
  have h2 : ¬ x = 8 ∧ (x < 0 ∨ (8 : Int32) ≤ x) := h1.resolve_left (fun h => hc3 (hr7.symm.trans h))
  refine lv_iload_n hx hb d_Desk_register_11 rfl (lv_at hl 2 rfl) ?_
  refine lv_bipush (v := (8 : Int32)) hx hb d_Desk_register_12 (by decide) ?_
  refine lv_icmp_ne (tgt := 26) hx hb d_Desk_register_14 (by decide) (fun hc8 => ?_) (fun hc8 => absurd hc8 h2.1)
  refine lv_iload_n hx hb d_Desk_register_26 rfl (lv_at hl 2 rfl) ?_
  refine lv_if_lt (tgt := 46) hx hb d_Desk_register_27 (by decide) (fun hc9 => T _ _ hP hS) (fun hc9 => ?_)
  refine lv_iload_n hx hb d_Desk_register_30 rfl (lv_at hl 2 rfl) ?_
  refine lv_bipush (v := (8 : Int32)) hx hb d_Desk_register_31 (by decide) ?_
  exact lv_icmp_ge (tgt := 46) hx hb d_Desk_register_33 (by decide) (fun hc10 => T _ _ hP hS) (fun hc10 => absurd (h2.2.resolve_left hc9) hc10)
