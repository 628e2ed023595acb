def f_Tt_count (u : cd_Tt) : Int32 := u.1
set_option maxHeartbeats 4000000 in
set_option maxRecDepth 100000 in
theorem c_Tt_count (l : Launch) (D : va_G) (tt : Nat → ClassId) (ad : Nat → Nat) (N : Nat) (A : Nat → Prop) (zs : Nat → Nat) (w0 : Nat → va_E) (q : Nat) (u : cd_Tt) (hR0 : cd_TtAt N tt ad w0 q u) : Met l y_Tt_count w_Tt_count ({ frames := 0, cells := 0, slots := 0, locals := 0 }) (va_Pc [.ref (ad q)] (cd_U D tt ad N A zs w0)) (va_Qi (fun r w' => (f_Tt_count u) = r ∧ w0 = w') (fun w' t => cd_P D ad N A w' t.heap) A) 0 0 A := by
  refine Met.ofW (cc := b_Tt_count) (maxL := 1) (ret := (some .int)) (by decide) rfl ?_
  intro p e s m args below meth c s₁ B hml hv
  obtain ⟨rfl, hP, hK, hZ⟩ := hv
  have hx := B.exec
  have hb := B.bytes
  have hr := B.returns
  have hA : ∀ w ∈ cd_AW, w.before _ s = true := fun w h => atoms_spec (ws := w_Tt_count) B.pre w (List.mem_cons_of_mem _ h)
  have hown : s.vm.findClass R_Tt = some m.cls := findClass_of_methodNamed B.named
  have hlocks := B.notSynchronized
  have hS : va_S A s.heap s.heap [] := va_S.rf
  have hl := lv_entry ([.ref (ad q)]) (n := 1) (Nat.le_of_ble_eq_true rfl)
  rw [lg_entry_eq]
  generalize (lg_sl ([.ref (ad q)]) ++ List.replicate (1 - (lg_sl ([.ref (ad q)])).length) Slot.unset).toArray = ls at hl ⊢
  have hl : lv_has ls 1 [(0, .ref (ad q))] := hl
  obtain ⟨hn1, fa2, fa3, fa4⟩ := hR0
  refine lv_aload_n hx hb d_Tt_count_0 rfl (lv_at hl 0 rfl) ?_
  refine g_get (ci := 2) (C := R_Tt) (T := F_Tt) (Nf := 3) (v := .int u.1) hx hb hA in_Tt hown hK hP (k := q) (by omega) fa2 rfl 2 (by decide) (hA _ aw_57) (fun _ h9 => h9) rfl d_Tt_count_1 ?_
  have hf5 : (f_Tt_count u) = u.1 := by rw [f_Tt_count]
  exact W.iret (v := u.1) hx hb hr (fun tE ht _ => ⟨⟨_, w0, rfl, ⟨hf5, rfl⟩, cd_Pt ht hP⟩, hS.F ht⟩) hS.2.2 d_Tt_count_4
def f_Tt_clear (u : cd_Tt) : cd_Tt := ((0 : Int32), u.2.1, (f_Arr_fillI 24 u.2.2 (0 : Int32)))
def o_Tt_clear (u : cd_Tt) : Prop := (o_Arr_fillI 24 u.2.2 (0 : Int32))
set_option maxHeartbeats 4000000 in
set_option maxRecDepth 100000 in
theorem c_Tt_clear (l : Launch) (D : va_G) (tt : Nat → ClassId) (ad : Nat → Nat) (N : Nat) (A : Nat → Prop) (zs : Nat → Nat) (w0 : Nat → va_E) (q : Nat) (u : cd_Tt) (hR0 : cd_TtAt N tt ad w0 q u) (ho : o_Tt_clear u) : Met l y_Tt_clear w_Tt_clear ({ frames := 1, cells := 0, slots := 0, locals := 23 }) (va_Pc [.ref (ad q)] (cd_U D tt ad N A zs w0)) (va_Qv (fun w' => cd_TtAt N tt ad w' q (f_Tt_clear u) ∧ (∀ k : Nat, (k < q ∨ q + 3 ≤ k) → w' k = w0 k)) (fun w' t => cd_P D ad N A w' t.heap) A) 0 0 A := by
  refine Met.ofW (cc := b_Tt_clear) (maxL := 1) (ret := none) (by decide) rfl ?_
  intro p e s m args below meth c s₁ B hml hv
  obtain ⟨rfl, hP, hK, hZ⟩ := hv
  have hx := B.exec
  have hb := B.bytes
  have hr := B.returns
  have hA : ∀ w ∈ cd_AW, w.before _ s = true := fun w h => atoms_spec (ws := w_Tt_clear) B.pre w (List.mem_cons_of_mem _ h)
  have hown : s.vm.findClass R_Tt = some m.cls := findClass_of_methodNamed B.named
  have hlocks := B.notSynchronized
  have hS : va_S A s.heap s.heap [] := va_S.rf
  have hl := lv_entry ([.ref (ad q)]) (n := 1) (Nat.le_of_ble_eq_true rfl)
  rw [lg_entry_eq]
  generalize (lg_sl ([.ref (ad q)]) ++ List.replicate (1 - (lg_sl ([.ref (ad q)])).length) Slot.unset).toArray = ls at hl ⊢
  have hl : lv_has ls 1 [(0, .ref (ad q))] := hl
  have ho : (o_Arr_fillI 24 u.2.2 (0 : Int32)) := ho
  obtain ⟨hn1, fa2, fa3, fa4⟩ := hR0
  refine lv_aload_n hx hb d_Tt_clear_0 rfl (lv_at hl 0 rfl) ?_
  refine lv_iconst (v := (0 : Int32)) hx hb d_Tt_clear_1 (by decide) ?_
  refine g_put (ci := 2) (C := R_Tt) (T := F_Tt) (Nf := 3) (v := .int (0 : Int32)) (ty := .int) hx hb hA in_Tt t_Tt t_Tt_ok n_Tt hown hK hP hS (k := q) (by omega) fa2 rfl 2 (by decide) (hA _ aw_57) (fun _ h9 => h9) rfl (by decide +kernel) rfl rfl (Nat.le_of_ble_eq_true rfl) d_Tt_clear_2 (fun H locs w1 fa5 e1 hP hS => ?_)
  have fa5 : w1 q = .inr (2, [.ref (ad (q + 1)), .ref (ad (q + 2)), .int (0 : Int32)]) := fa5
  have fa6 := (e1 (q + 1) (by omega)).trans fa3
  have fa7 := (e1 (q + 2) (by omega)).trans fa4
  refine lv_aload_n hx hb d_Tt_clear_5 rfl (lv_at hl 0 rfl) ?_
  refine g_get (ci := 2) (C := R_Tt) (T := F_Tt) (Nf := 3) (v := .ref (ad (q + 2))) hx hb hA in_Tt hown hK hP (k := q) (by omega) fa5 rfl 1 (by decide) (hA _ aw_56) (fun _ h9 => h9) rfl d_Tt_clear_6 ?_
  refine lv_iconst (v := (0 : Int32)) hx hb d_Tt_clear_9 (by decide) ?_
  refine va_callv (va_runS (As := [.ref (ad (q + 2)), .int (0 : Int32)]) (rest := []) ⟨hx, hb, hml, hown, hA⟩ (c_Arr_fillI l D tt ad N A zs w1 (q + 2) 24 u.2.2 (0 : Int32) (⟨by omega, fa7⟩) (ho)) (va_cwS 2 hA (cd_gSx aw_399 aw_400 aw_9 aw_401) rfl rfl rfl ⟨by decide, by decide, by decide +kernel⟩ ⟨Nat.le_of_ble_eq_true rfl, Nat.le_of_ble_eq_true rfl⟩) ⟨cd_blind, fun U hU hW => ⟨rfl, cd_pre hK hP hZ hS U hU hW⟩⟩ rfl rfl hl.1 rfl (lv_room (Nat.le_of_ble_eq_true rfl)) d_Tt_clear_10 ⟨Nat.zero_le _, Nat.zero_le _⟩) hS (fun _ _ h => h) (fun _ h => h) (fun w2 tE H locs ht hvm hr9 hP hz1 hk1 hS => ?_)
  have hP := cd_Pf ht hP
  obtain ⟨at11, e2⟩ := hr9
  have fa12 := at11.2
  have fa13 := (e2 q (by omega)).trans fa5
  have fa14 := (e2 (q + 1) (by omega)).trans fa6
  have hf15 : (f_Tt_clear u) = ((0 : Int32), u.2.1, (f_Arr_fillI 24 u.2.2 (0 : Int32))) := by rw [f_Tt_clear]
  exact W.vret hx hb hr (fun tE ht _ => ⟨⟨w2, rfl, ⟨(by rw [hf15]; exact ⟨hn1, fa13, fa14, fa12⟩), (fun k hk => ((e2 k (by omega)).trans (e1 k (by omega))))⟩, cd_Pt ht hP⟩, hS.F ht⟩) hS.2.2 d_Tt_clear_13
def f_Tt_has (u : cd_Tt) (k : Int32) : Int32 := (if k < 0 then (0 : Int32) else (if u.1 ≤ k then (0 : Int32) else (1 : Int32)))
set_option maxHeartbeats 4000000 in
set_option maxRecDepth 100000 in
theorem c_Tt_has (l : Launch) (D : va_G) (tt : Nat → ClassId) (ad : Nat → Nat) (N : Nat) (A : Nat → Prop) (zs : Nat → Nat) (w0 : Nat → va_E) (q : Nat) (u : cd_Tt) (k : Int32) (hR0 : cd_TtAt N tt ad w0 q u) : Met l y_Tt_has w_Tt_has ({ frames := 0, cells := 0, slots := 0, locals := 0 }) (va_Pc [.ref (ad q), .int k] (cd_U D tt ad N A zs w0)) (va_Qi (fun r w' => (f_Tt_has u k) = r ∧ (r = 0 ∨ r = 1) ∧ w0 = w') (fun w' t => cd_P D ad N A w' t.heap) A) 0 0 A := by
  refine Met.ofW (cc := b_Tt_has) (maxL := 2) (ret := (some .boolean)) (by decide) rfl ?_
  intro p e s m args below meth c s₁ B hml hv
  obtain ⟨rfl, hP, hK, hZ⟩ := hv
  have hx := B.exec
  have hb := B.bytes
  have hr := B.returns
  have hA : ∀ w ∈ cd_AW, w.before _ s = true := fun w h => atoms_spec (ws := w_Tt_has) B.pre w (List.mem_cons_of_mem _ h)
  have hown : s.vm.findClass R_Tt = some m.cls := findClass_of_methodNamed B.named
  have hlocks := B.notSynchronized
  have hS : va_S A s.heap s.heap [] := va_S.rf
  have hl := lv_entry ([.ref (ad q), .int k]) (n := 2) (Nat.le_of_ble_eq_true rfl)
  rw [lg_entry_eq]
  generalize (lg_sl ([.ref (ad q), .int k]) ++ List.replicate (2 - (lg_sl ([.ref (ad q), .int k])).length) Slot.unset).toArray = ls at hl ⊢
  have hl : lv_has ls 2 [(0, .ref (ad q)), (1, .int k)] := hl
  obtain ⟨hn1, fa2, fa3, fa4⟩ := hR0
  refine lv_iload_n hx hb d_Tt_has_0 rfl (lv_at hl 1 rfl) ?_
  refine lv_if_lt (tgt := 16) hx hb d_Tt_has_1 (by decide) (fun hc5 => ?_) (fun hc5 => ?_)
  · refine lv_iconst (v := (0 : Int32)) hx hb d_Tt_has_16 (by decide) ?_
    have hf6 : (f_Tt_has u k) = (0 : Int32) := by rw [f_Tt_has, if_pos hc5]
    exact W.zret (ty := .boolean) (v := (0 : Int32)) hx hb hr rfl (fun tE ht _ => ⟨⟨_, w0, rfl, ⟨hf6, (Or.inl rfl), rfl⟩, cd_Pt ht hP⟩, hS.F ht⟩) hS.2.2 d_Tt_has_17
  · refine lv_iload_n hx hb d_Tt_has_4 rfl (lv_at hl 1 rfl) ?_
    refine lv_aload_n hx hb d_Tt_has_5 rfl (lv_at hl 0 rfl) ?_
    refine g_get (ci := 2) (C := R_Tt) (T := F_Tt) (Nf := 3) (v := .int u.1) hx hb hA in_Tt hown hK hP (k := q) (by omega) fa2 rfl 2 (by decide) (hA _ aw_57) (fun _ h9 => h9) rfl d_Tt_has_6 ?_
    refine lv_icmp_ge (tgt := 16) hx hb d_Tt_has_9 (by decide) (fun hc7 => ?_) (fun hc7 => ?_)
    · refine lv_iconst (v := (0 : Int32)) hx hb d_Tt_has_16 (by decide) ?_
      have hf8 : (f_Tt_has u k) = (0 : Int32) := by rw [f_Tt_has, if_neg hc5, if_pos hc7]
      exact W.zret (ty := .boolean) (v := (0 : Int32)) hx hb hr rfl (fun tE ht _ => ⟨⟨_, w0, rfl, ⟨hf8, (Or.inl rfl), rfl⟩, cd_Pt ht hP⟩, hS.F ht⟩) hS.2.2 d_Tt_has_17
    · refine lv_iconst (v := (1 : Int32)) hx hb d_Tt_has_12 (by decide) ?_
      refine lv_goto (tgt := 17) hx hb d_Tt_has_13 (by decide) ?_
      have hf9 : (f_Tt_has u k) = (1 : Int32) := by rw [f_Tt_has, if_neg hc5, if_neg hc7]
      exact W.zret (ty := .boolean) (v := (1 : Int32)) hx hb hr rfl (fun tE ht _ => ⟨⟨_, w0, rfl, ⟨hf9, (Or.inr rfl), rfl⟩, cd_Pt ht hP⟩, hS.F ht⟩) hS.2.2 d_Tt_has_17
def f_Tt_hasId_L2 (u : cd_Tt) (k : Int32) : Nat → Int32 → Int32
  | 0, _ => default
  | gn + 1, i => (if u.1 ≤ i then (0 : Int32) else (if (u.2.1 i.toNatClampNeg) = k then (1 : Int32) else (f_Tt_hasId_L2 u k gn (i + (1 : Int32)))))
def f_Tt_hasId (u : cd_Tt) (k : Int32) : Int32 := (f_Tt_hasId_L2 u k 4 (0 : Int32))
def o_Tt_hasId_L2 (u : cd_Tt) (k : Int32) : Nat → Int32 → Prop
  | 0, _ => False
  | gn + 1, i => (¬ u.1 ≤ i → vp_in i 3) ∧ (¬ u.1 ≤ i → ¬ (u.2.1 i.toNatClampNeg) = k → o_Tt_hasId_L2 u k gn (i + (1 : Int32)))
def o_Tt_hasId (u : cd_Tt) (k : Int32) : Prop := (o_Tt_hasId_L2 u k 4 (0 : Int32))
set_option maxHeartbeats 4000000 in
set_option maxRecDepth 100000 in
theorem c_Tt_hasId (l : Launch) (D : va_G) (tt : Nat → ClassId) (ad : Nat → Nat) (N : Nat) (A : Nat → Prop) (zs : Nat → Nat) (w0 : Nat → va_E) (q : Nat) (u : cd_Tt) (k : Int32) (hR0 : cd_TtAt N tt ad w0 q u) (ho : o_Tt_hasId u k) : Met l y_Tt_hasId w_Tt_hasId ({ frames := 0, cells := 0, slots := 0, locals := 0 }) (va_Pc [.ref (ad q), .int k] (cd_U D tt ad N A zs w0)) (va_Qi (fun r w' => (f_Tt_hasId u k) = r ∧ (r = 0 ∨ r = 1) ∧ w0 = w') (fun w' t => cd_P D ad N A w' t.heap) A) 0 0 A := by
  refine Met.ofW (cc := b_Tt_hasId) (maxL := 3) (ret := (some .boolean)) (by decide) rfl ?_
  intro p e s m args below meth c s₁ B hml hv
  obtain ⟨rfl, hP, hK, hZ⟩ := hv
  have hx := B.exec
  have hb := B.bytes
  have hr := B.returns
  have hA : ∀ w ∈ cd_AW, w.before _ s = true := fun w h => atoms_spec (ws := w_Tt_hasId) B.pre w (List.mem_cons_of_mem _ h)
  have hown : s.vm.findClass R_Tt = some m.cls := findClass_of_methodNamed B.named
  have hlocks := B.notSynchronized
  have L2 : ∀ (gn : Nat) (i : Int32) (H : Heap) (locs : List Loc) (ls : Array Slot), lv_has ls 3 [(0, .ref (ad q)), (1, .int k), (2, .int i)] → (f_Tt_hasId u k) = f_Tt_hasId_L2 u k gn i → cd_TtAt N tt ad w0 q u → cd_P D ad N A w0 H → va_S A s.heap H locs → o_Tt_hasId_L2 u k gn i → W p l e (headSpec w_Tt_hasId ({ frames := 0, cells := 0, slots := 0, locals := 0 })).room s m [.ref (ad q), .int k].toArray below meth c H locs 0 0 (MQ below (va_Qi (fun r w' => (f_Tt_hasId u k) = r ∧ (r = 0 ∨ r = 1) ∧ w0 = w') (fun w' t => cd_P D ad N A w' t.heap) A) [.ref (ad q), .int k].toArray s 0 0 A) (F0 m 2 ls []) := by
    intro gn
    induction gn with
    | zero => intro i H locs ls hl he hL0 hP hS ho; exact ho.elim
    | succ gn ih =>
      intro i H locs ls hl he hL0 hP hS ho
      have ho : (¬ u.1 ≤ i → vp_in i 3) ∧ (¬ u.1 ≤ i → ¬ (u.2.1 i.toNatClampNeg) = k → o_Tt_hasId_L2 u k gn (i + (1 : Int32))) := ho
      obtain ⟨hn1, fa2, fa3, fa4⟩ := hL0
      refine lv_iload_n hx hb d_Tt_hasId_2 rfl (lv_at hl 2 rfl) ?_
      refine lv_aload_n hx hb d_Tt_hasId_3 rfl (lv_at hl 0 rfl) ?_
      refine g_get (ci := 2) (C := R_Tt) (T := F_Tt) (Nf := 3) (v := .int u.1) hx hb hA in_Tt hown hK hP (k := q) (by omega) fa2 rfl 2 (by decide) (hA _ aw_57) (fun _ h9 => h9) rfl d_Tt_hasId_4 ?_
      refine lv_icmp_ge (tgt := 28) hx hb d_Tt_hasId_7 (by decide) (fun hc5 => ?_) (fun hc5 => ?_)
      · refine lv_iconst (v := (0 : Int32)) hx hb d_Tt_hasId_28 (by decide) ?_
        have hf6 : (f_Tt_hasId u k) = (0 : Int32) := by rw [he, f_Tt_hasId_L2, if_pos hc5]
        exact W.zret (ty := .boolean) (v := (0 : Int32)) hx hb hr rfl (fun tE ht _ => ⟨⟨_, w0, rfl, ⟨hf6, (Or.inl rfl), rfl⟩, cd_Pt ht hP⟩, hS.F ht⟩) hS.2.2 d_Tt_hasId_29
      · refine lv_aload_n hx hb d_Tt_hasId_10 rfl (lv_at hl 0 rfl) ?_
        refine g_get (ci := 2) (C := R_Tt) (T := F_Tt) (Nf := 3) (v := .ref (ad (q + 1))) hx hb hA in_Tt hown hK hP (k := q) (by omega) fa2 rfl 0 (by decide) (hA _ aw_55) (fun _ h9 => h9) rfl d_Tt_hasId_11 ?_
        refine lv_iload_n hx hb d_Tt_hasId_14 rfl (lv_at hl 2 rfl) ?_
        refine g_iald hx hb hK hP (k := (q + 1)) (by omega) fa3 rfl (ho.1 hc5) d_Tt_hasId_15 ?_
        refine lv_iload_n hx hb d_Tt_hasId_16 rfl (lv_at hl 1 rfl) ?_
        refine lv_icmp_ne (tgt := 22) hx hb d_Tt_hasId_17 (by decide) (fun hc7 => ?_) (fun hc7 => ?_)
        · refine lv_iinc (k := 2) (v := (i + (1 : Int32))) (lv' := [(2, .int (i + (1 : Int32))), (0, .ref (ad q)), (1, .int k)]) hx hb d_Tt_hasId_22 hl rfl (cd_inc _ _ _ (by decide)) (by decide) rfl (fun ls hl => ?_)
          refine lv_goto (tgt := 2) hx hb d_Tt_hasId_25 (by decide) ?_
          exact ih (i + (1 : Int32)) H locs ls (lv_sub hl [1, 2, 0] rfl) (show (f_Tt_hasId u k) = f_Tt_hasId_L2 u k gn (i + (1 : Int32)) by rw [he, f_Tt_hasId_L2, if_neg hc5, if_neg hc7]) (⟨hn1, fa2, fa3, fa4⟩) hP hS (ho.2 hc5 hc7)
        · refine lv_iconst (v := (1 : Int32)) hx hb d_Tt_hasId_20 (by decide) ?_
          have hf8 : (f_Tt_hasId u k) = (1 : Int32) := by rw [he, f_Tt_hasId_L2, if_neg hc5, if_pos hc7]
          exact W.zret (ty := .boolean) (v := (1 : Int32)) hx hb hr rfl (fun tE ht _ => ⟨⟨_, w0, rfl, ⟨hf8, (Or.inr rfl), rfl⟩, cd_Pt ht hP⟩, hS.F ht⟩) hS.2.2 d_Tt_hasId_21
  have hS : va_S A s.heap s.heap [] := va_S.rf
  have hl := lv_entry ([.ref (ad q), .int k]) (n := 3) (Nat.le_of_ble_eq_true rfl)
  rw [lg_entry_eq]
  generalize (lg_sl ([.ref (ad q), .int k]) ++ List.replicate (3 - (lg_sl ([.ref (ad q), .int k])).length) Slot.unset).toArray = ls at hl ⊢
  have hl : lv_has ls 3 [(0, .ref (ad q)), (1, .int k)] := hl
  have ho : (o_Tt_hasId_L2 u k 4 (0 : Int32)) := ho
  obtain ⟨hn9, fa10, fa11, fa12⟩ := hR0
  refine lv_iconst (v := (0 : Int32)) hx hb d_Tt_hasId_0 (by decide) ?_
  refine lv_istore_n (lv' := [(2, .int (0 : Int32)), (0, .ref (ad q)), (1, .int k)]) hx hb d_Tt_hasId_1 rfl hl (by decide) rfl (fun ls hl => ?_)
  exact L2 4 (0 : Int32) s.heap [] ls (lv_sub hl [1, 2, 0] rfl) (show (f_Tt_hasId u k) = f_Tt_hasId_L2 u k 4 (0 : Int32) by rw [f_Tt_hasId]) (⟨hn9, fa10, fa11, fa12⟩) hP hS (ho)
def f_Tt_add (u : cd_Tt) (k : Int32) : Int32 × cd_Tt := (if (3 : Int32) ≤ u.1 then ((-1 : Int32), u) else (if (f_Tt_hasId u k) = 0 then (((u.1 + (1 : Int32)) - (1 : Int32)), ((u.1 + (1 : Int32)), (upd u.2.1 u.1.toNatClampNeg k), u.2.2)) else ((-1 : Int32), u)))
def o_Tt_add (u : cd_Tt) (k : Int32) : Prop := (¬ (3 : Int32) ≤ u.1 → o_Tt_hasId u k) ∧ (¬ (3 : Int32) ≤ u.1 → (f_Tt_hasId u k) = 0 → vp_in u.1 3)
set_option maxHeartbeats 4000000 in
set_option maxRecDepth 100000 in
theorem c_Tt_add (l : Launch) (D : va_G) (tt : Nat → ClassId) (ad : Nat → Nat) (N : Nat) (A : Nat → Prop) (zs : Nat → Nat) (w0 : Nat → va_E) (q : Nat) (u : cd_Tt) (k : Int32) (hR0 : cd_TtAt N tt ad w0 q u) (ho : o_Tt_add u k) : Met l y_Tt_add w_Tt_add ({ frames := 1, cells := 0, slots := 0, locals := 22 }) (va_Pc [.ref (ad q), .int k] (cd_U D tt ad N A zs w0)) (va_Qi (fun r w' => (f_Tt_add u k).1 = r ∧ cd_TtAt N tt ad w' q ((f_Tt_add u k).2) ∧ (∀ k : Nat, (k < q ∨ q + 3 ≤ k) → w' k = w0 k)) (fun w' t => cd_P D ad N A w' t.heap) A) 0 0 A := by
  refine Met.ofW (cc := b_Tt_add) (maxL := 2) (ret := (some .int)) (by decide) rfl ?_
  intro p e s m args below meth c s₁ B hml hv
  obtain ⟨rfl, hP, hK, hZ⟩ := hv
  have hx := B.exec
  have hb := B.bytes
  have hr := B.returns
  have hA : ∀ w ∈ cd_AW, w.before _ s = true := fun w h => atoms_spec (ws := w_Tt_add) B.pre w (List.mem_cons_of_mem _ h)
  have hown : s.vm.findClass R_Tt = some m.cls := findClass_of_methodNamed B.named
  have hlocks := B.notSynchronized
  have hS : va_S A s.heap s.heap [] := va_S.rf
  have hl := lv_entry ([.ref (ad q), .int k]) (n := 2) (Nat.le_of_ble_eq_true rfl)
  rw [lg_entry_eq]
  generalize (lg_sl ([.ref (ad q), .int k]) ++ List.replicate (2 - (lg_sl ([.ref (ad q), .int k])).length) Slot.unset).toArray = ls at hl ⊢
  have hl : lv_has ls 2 [(0, .ref (ad q)), (1, .int k)] := hl
  have ho : (¬ (3 : Int32) ≤ u.1 → o_Tt_hasId u k) ∧ (¬ (3 : Int32) ≤ u.1 → (f_Tt_hasId u k) = 0 → vp_in u.1 3) := ho
  obtain ⟨hn1, fa2, fa3, fa4⟩ := hR0
  refine lv_aload_n hx hb d_Tt_add_0 rfl (lv_at hl 0 rfl) ?_
  refine g_get (ci := 2) (C := R_Tt) (T := F_Tt) (Nf := 3) (v := .int u.1) hx hb hA in_Tt hown hK hP (k := q) (by omega) fa2 rfl 2 (by decide) (hA _ aw_57) (fun _ h9 => h9) rfl d_Tt_add_1 ?_
  refine lv_iconst (v := (3 : Int32)) hx hb d_Tt_add_4 (by decide) ?_
  refine lv_icmp_ge (tgt := 16) hx hb d_Tt_add_5 (by decide) (fun hc5 => ?_) (fun hc5 => ?_)
  · refine lv_iconst (v := (-1 : Int32)) hx hb d_Tt_add_16 (by decide) ?_
    have hf6 : (f_Tt_add u k) = ((-1 : Int32), u) := by rw [f_Tt_add, if_pos hc5]
    exact W.iret (v := (-1 : Int32)) hx hb hr (fun tE ht _ => ⟨⟨_, w0, rfl, ⟨(by rw [hf6]), (by rw [hf6]; exact ⟨hn1, fa2, fa3, fa4⟩), (fun _ _ => rfl)⟩, cd_Pt ht hP⟩, hS.F ht⟩) hS.2.2 d_Tt_add_17
  · refine lv_aload_n hx hb d_Tt_add_8 rfl (lv_at hl 0 rfl) ?_
    refine lv_iload_n hx hb d_Tt_add_9 rfl (lv_at hl 1 rfl) ?_
    refine va_calli (va_runV (As := [.int k]) (rest := []) ⟨hx, hb, hml, hown, hA⟩ (c_Tt_hasId l D tt ad N A zs w0 q u k (⟨hn1, fa2, fa3, fa4⟩) (ho.1 hc5)) (cwV 1 hA (cd_gV aw_188 aw_189 aw_190 aw_4 aw_191) rfl rfl rfl ⟨rfl, by decide, by decide, by decide +kernel⟩ ⟨Nat.le_of_ble_eq_true rfl, Nat.le_of_ble_eq_true rfl⟩) ⟨cd_blind, cd_recv hK hP (k := q) (by omega) fa2 rfl, fun U hU hW => ⟨rfl, cd_pre hK hP hZ hS U hU hW⟩⟩ rfl rfl hl.1 rfl (lv_room (Nat.le_of_ble_eq_true rfl)) d_Tt_add_10 ⟨Nat.zero_le _, Nat.zero_le _⟩) hS (fun _ _ h => h) (fun _ h => h) (fun r7 w1 tE H locs ht hvm hr8 hP hz1 hk1 hS => ?_)
    have hP := cd_Pf ht hP
    obtain ⟨rfl, hbo10, rfl⟩ := hr8
    refine lv_if_eq (tgt := 18) hx hb d_Tt_add_13 (by decide) (fun hc11 => ?_) (fun hc11 => ?_)
    · refine lv_aload_n hx hb d_Tt_add_18 rfl (lv_at hl 0 rfl) ?_
      refine g_get (ci := 2) (C := R_Tt) (T := F_Tt) (Nf := 3) (v := .ref (ad (q + 1))) hx hb hA in_Tt hown hK hP (k := q) (by omega) fa2 rfl 0 (by decide) (hA _ aw_55) (fun _ h9 => h9) rfl d_Tt_add_19 ?_
      refine lv_aload_n hx hb d_Tt_add_22 rfl (lv_at hl 0 rfl) ?_
      refine g_get (ci := 2) (C := R_Tt) (T := F_Tt) (Nf := 3) (v := .int u.1) hx hb hA in_Tt hown hK hP (k := q) (by omega) fa2 rfl 2 (by decide) (hA _ aw_57) (fun _ h9 => h9) rfl d_Tt_add_23 ?_
      refine lv_iload_n hx hb d_Tt_add_26 rfl (lv_at hl 1 rfl) ?_
      refine g_iast hx hb hK hP hS (k := (q + 1)) (by omega) fa3 rfl (ho.2 hc5 hc11) d_Tt_add_27 (fun H locs w2 fa12 e2 hP hS => ?_)
      have fa13 := (e2 q (by omega)).trans fa2
      have fa14 := (e2 (q + 2) (by omega)).trans fa4
      refine lv_aload_n hx hb d_Tt_add_28 rfl (lv_at hl 0 rfl) ?_
      refine lv_dup hx hb d_Tt_add_29 rfl ?_
      refine g_get (ci := 2) (C := R_Tt) (T := F_Tt) (Nf := 3) (v := .int u.1) hx hb hA in_Tt hown hK hP (k := q) (by omega) fa13 rfl 2 (by decide) (hA _ aw_57) (fun _ h9 => h9) rfl d_Tt_add_30 ?_
      refine lv_iconst (v := (1 : Int32)) hx hb d_Tt_add_33 (by decide) ?_
      refine lv_iadd hx hb d_Tt_add_34 ?_
      refine g_put (ci := 2) (C := R_Tt) (T := F_Tt) (Nf := 3) (v := .int (u.1 + (1 : Int32))) (ty := .int) hx hb hA in_Tt t_Tt t_Tt_ok n_Tt hown hK hP hS (k := q) (by omega) fa13 rfl 2 (by decide) (hA _ aw_57) (fun _ h9 => h9) rfl (by decide +kernel) rfl rfl (Nat.le_of_ble_eq_true rfl) d_Tt_add_35 (fun H locs w3 fa15 e3 hP hS => ?_)
      have fa15 : w3 q = .inr (2, [.ref (ad (q + 1)), .ref (ad (q + 2)), .int (u.1 + (1 : Int32))]) := fa15
      have fa16 := (e3 (q + 1) (by omega)).trans fa12
      have fa17 := (e3 (q + 2) (by omega)).trans fa14
      refine lv_aload_n hx hb d_Tt_add_38 rfl (lv_at hl 0 rfl) ?_
      refine g_get (ci := 2) (C := R_Tt) (T := F_Tt) (Nf := 3) (v := .int (u.1 + (1 : Int32))) hx hb hA in_Tt hown hK hP (k := q) (by omega) fa15 rfl 2 (by decide) (hA _ aw_57) (fun _ h9 => h9) rfl d_Tt_add_39 ?_
      refine lv_iconst (v := (1 : Int32)) hx hb d_Tt_add_42 (by decide) ?_
      refine lv_isub hx hb d_Tt_add_43 ?_
      have hf18 : (f_Tt_add u k) = (((u.1 + (1 : Int32)) - (1 : Int32)), ((u.1 + (1 : Int32)), (upd u.2.1 u.1.toNatClampNeg k), u.2.2)) := by rw [f_Tt_add, if_neg hc5, if_pos hc11]
      exact W.iret (v := ((u.1 + (1 : Int32)) - (1 : Int32))) hx hb hr (fun tE ht _ => ⟨⟨_, w3, rfl, ⟨(by rw [hf18]), (by rw [hf18]; exact ⟨hn1, fa15, fa16, fa17⟩), (fun k hk => ((e3 k (by omega)).trans (e2 k (by omega))))⟩, cd_Pt ht hP⟩, hS.F ht⟩) hS.2.2 d_Tt_add_44
    · refine lv_iconst (v := (-1 : Int32)) hx hb d_Tt_add_16 (by decide) ?_
      have hf19 : (f_Tt_add u k) = ((-1 : Int32), u) := by rw [f_Tt_add, if_neg hc5, if_neg hc11]
      exact W.iret (v := (-1 : Int32)) hx hb hr (fun tE ht _ => ⟨⟨_, w0, rfl, ⟨(by rw [hf19]), (by rw [hf19]; exact ⟨hn1, fa2, fa3, fa4⟩), (fun _ _ => rfl)⟩, cd_Pt ht hP⟩, hS.F ht⟩) hS.2.2 d_Tt_add_17
def f_Tt_id (u : cd_Tt) (k : Int32) : Int32 := (if (f_Tt_has u k) = 0 then (0 : Int32) else (u.2.1 k.toNatClampNeg))
def o_Tt_id (u : cd_Tt) (k : Int32) : Prop := (¬ (f_Tt_has u k) = 0 → vp_in k 3)
set_option maxHeartbeats 4000000 in
set_option maxRecDepth 100000 in
theorem c_Tt_id (l : Launch) (D : va_G) (tt : Nat → ClassId) (ad : Nat → Nat) (N : Nat) (A : Nat → Prop) (zs : Nat → Nat) (w0 : Nat → va_E) (q : Nat) (u : cd_Tt) (k : Int32) (hR0 : cd_TtAt N tt ad w0 q u) (ho : o_Tt_id u k) : Met l y_Tt_id w_Tt_id ({ frames := 1, cells := 0, slots := 0, locals := 21 }) (va_Pc [.ref (ad q), .int k] (cd_U D tt ad N A zs w0)) (va_Qi (fun r w' => (f_Tt_id u k) = r ∧ w0 = w') (fun w' t => cd_P D ad N A w' t.heap) A) 0 0 A := by
  refine Met.ofW (cc := b_Tt_id) (maxL := 2) (ret := (some .int)) (by decide) rfl ?_
  intro p e s m args below meth c s₁ B hml hv
  obtain ⟨rfl, hP, hK, hZ⟩ := hv
  have hx := B.exec
  have hb := B.bytes
  have hr := B.returns
  have hA : ∀ w ∈ cd_AW, w.before _ s = true := fun w h => atoms_spec (ws := w_Tt_id) B.pre w (List.mem_cons_of_mem _ h)
  have hown : s.vm.findClass R_Tt = some m.cls := findClass_of_methodNamed B.named
  have hlocks := B.notSynchronized
  have hS : va_S A s.heap s.heap [] := va_S.rf
  have hl := lv_entry ([.ref (ad q), .int k]) (n := 2) (Nat.le_of_ble_eq_true rfl)
  rw [lg_entry_eq]
  generalize (lg_sl ([.ref (ad q), .int k]) ++ List.replicate (2 - (lg_sl ([.ref (ad q), .int k])).length) Slot.unset).toArray = ls at hl ⊢
  have hl : lv_has ls 2 [(0, .ref (ad q)), (1, .int k)] := hl
  have ho : (¬ (f_Tt_has u k) = 0 → vp_in k 3) := ho
  obtain ⟨hn1, fa2, fa3, fa4⟩ := hR0
  refine lv_aload_n hx hb d_Tt_id_0 rfl (lv_at hl 0 rfl) ?_
  refine lv_iload_n hx hb d_Tt_id_1 rfl (lv_at hl 1 rfl) ?_
  refine va_calli (va_runV (As := [.int k]) (rest := []) ⟨hx, hb, hml, hown, hA⟩ (c_Tt_has l D tt ad N A zs w0 q u k (⟨hn1, fa2, fa3, fa4⟩)) (cwV 1 hA (cd_gV aw_203 aw_204 aw_205 aw_4 aw_206) rfl rfl rfl ⟨rfl, by decide, by decide, by decide +kernel⟩ ⟨Nat.le_of_ble_eq_true rfl, Nat.le_of_ble_eq_true rfl⟩) ⟨cd_blind, cd_recv hK hP (k := q) (by omega) fa2 rfl, fun U hU hW => ⟨rfl, cd_pre hK hP hZ hS U hU hW⟩⟩ rfl rfl hl.1 rfl (lv_room (Nat.le_of_ble_eq_true rfl)) d_Tt_id_2 ⟨Nat.zero_le _, Nat.zero_le _⟩) hS (fun _ _ h => h) (fun _ h => h) (fun r5 w1 tE H locs ht hvm hr6 hP hz1 hk1 hS => ?_)
  have hP := cd_Pf ht hP
  obtain ⟨rfl, hbo8, rfl⟩ := hr6
  refine lv_if_eq (tgt := 17) hx hb d_Tt_id_5 (by decide) (fun hc9 => ?_) (fun hc9 => ?_)
  · refine lv_iconst (v := (0 : Int32)) hx hb d_Tt_id_17 (by decide) ?_
    have hf10 : (f_Tt_id u k) = (0 : Int32) := by rw [f_Tt_id, if_pos hc9]
    exact W.iret (v := (0 : Int32)) hx hb hr (fun tE ht _ => ⟨⟨_, w0, rfl, ⟨hf10, rfl⟩, cd_Pt ht hP⟩, hS.F ht⟩) hS.2.2 d_Tt_id_18
  · refine lv_aload_n hx hb d_Tt_id_8 rfl (lv_at hl 0 rfl) ?_
    refine g_get (ci := 2) (C := R_Tt) (T := F_Tt) (Nf := 3) (v := .ref (ad (q + 1))) hx hb hA in_Tt hown hK hP (k := q) (by omega) fa2 rfl 0 (by decide) (hA _ aw_55) (fun _ h9 => h9) rfl d_Tt_id_9 ?_
    refine lv_iload_n hx hb d_Tt_id_12 rfl (lv_at hl 1 rfl) ?_
    refine g_iald hx hb hK hP (k := (q + 1)) (by omega) fa3 rfl (ho hc9) d_Tt_id_13 ?_
    refine lv_goto (tgt := 18) hx hb d_Tt_id_14 (by decide) ?_
    have hf11 : (f_Tt_id u k) = (u.2.1 k.toNatClampNeg) := by rw [f_Tt_id, if_neg hc9]
    exact W.iret (v := (u.2.1 k.toNatClampNeg)) hx hb hr (fun tE ht _ => ⟨⟨_, w0, rfl, ⟨hf11, rfl⟩, cd_Pt ht hP⟩, hS.F ht⟩) hS.2.2 d_Tt_id_18
def f_Tt_hasValue (u : cd_Tt) (k : Int32) (x : Int32) : Int32 := (if (f_Tt_has u k) = 0 then (0 : Int32) else (if x < 0 then (0 : Int32) else (if (8 : Int32) ≤ x then (0 : Int32) else (1 : Int32))))
set_option maxHeartbeats 4000000 in
set_option maxRecDepth 100000 in
theorem c_Tt_hasValue (l : Launch) (D : va_G) (tt : Nat → ClassId) (ad : Nat → Nat) (N : Nat) (A : Nat → Prop) (zs : Nat → Nat) (w0 : Nat → va_E) (q : Nat) (u : cd_Tt) (k : Int32) (x : Int32) (hR0 : cd_TtAt N tt ad w0 q u) : Met l y_Tt_hasValue w_Tt_hasValue ({ frames := 1, cells := 0, slots := 0, locals := 21 }) (va_Pc [.ref (ad q), .int k, .int x] (cd_U D tt ad N A zs w0)) (va_Qi (fun r w' => (f_Tt_hasValue u k x) = r ∧ (r = 0 ∨ r = 1) ∧ w0 = w') (fun w' t => cd_P D ad N A w' t.heap) A) 0 0 A := by
  refine Met.ofW (cc := b_Tt_hasValue) (maxL := 3) (ret := (some .boolean)) (by decide) rfl ?_
  intro p e s m args below meth c s₁ B hml hv
  obtain ⟨rfl, hP, hK, hZ⟩ := hv
  have hx := B.exec
  have hb := B.bytes
  have hr := B.returns
  have hA : ∀ w ∈ cd_AW, w.before _ s = true := fun w h => atoms_spec (ws := w_Tt_hasValue) B.pre w (List.mem_cons_of_mem _ h)
  have hown : s.vm.findClass R_Tt = some m.cls := findClass_of_methodNamed B.named
  have hlocks := B.notSynchronized
  have hS : va_S A s.heap s.heap [] := va_S.rf
  have hl := lv_entry ([.ref (ad q), .int k, .int x]) (n := 3) (Nat.le_of_ble_eq_true rfl)
  rw [lg_entry_eq]
  generalize (lg_sl ([.ref (ad q), .int k, .int x]) ++ List.replicate (3 - (lg_sl ([.ref (ad q), .int k, .int x])).length) Slot.unset).toArray = ls at hl ⊢
  have hl : lv_has ls 3 [(0, .ref (ad q)), (1, .int k), (2, .int x)] := hl
  obtain ⟨hn1, fa2, fa3, fa4⟩ := hR0
  refine lv_aload_n hx hb d_Tt_hasValue_0 rfl (lv_at hl 0 rfl) ?_
  refine lv_iload_n hx hb d_Tt_hasValue_1 rfl (lv_at hl 1 rfl) ?_
  refine va_calli (va_runV (As := [.int k]) (rest := []) ⟨hx, hb, hml, hown, hA⟩ (c_Tt_has l D tt ad N A zs w0 q u k (⟨hn1, fa2, fa3, fa4⟩)) (cwV 1 hA (cd_gV aw_203 aw_204 aw_205 aw_4 aw_206) rfl rfl rfl ⟨rfl, by decide, by decide, by decide +kernel⟩ ⟨Nat.le_of_ble_eq_true rfl, Nat.le_of_ble_eq_true rfl⟩) ⟨cd_blind, cd_recv hK hP (k := q) (by omega) fa2 rfl, fun U hU hW => ⟨rfl, cd_pre hK hP hZ hS U hU hW⟩⟩ rfl rfl hl.1 rfl (lv_room (Nat.le_of_ble_eq_true rfl)) d_Tt_hasValue_2 ⟨Nat.zero_le _, Nat.zero_le _⟩) hS (fun _ _ h => h) (fun _ h => h) (fun r5 w1 tE H locs ht hvm hr6 hP hz1 hk1 hS => ?_)
  have hP := cd_Pf ht hP
  obtain ⟨rfl, hbo8, rfl⟩ := hr6
  refine lv_if_eq (tgt := 22) hx hb d_Tt_hasValue_5 (by decide) (fun hc9 => ?_) (fun hc9 => ?_)
  · refine lv_iconst (v := (0 : Int32)) hx hb d_Tt_hasValue_22 (by decide) ?_
    have hf10 : (f_Tt_hasValue u k x) = (0 : Int32) := by rw [f_Tt_hasValue, if_pos hc9]
    exact W.zret (ty := .boolean) (v := (0 : Int32)) hx hb hr rfl (fun tE ht _ => ⟨⟨_, w0, rfl, ⟨hf10, (Or.inl rfl), rfl⟩, cd_Pt ht hP⟩, hS.F ht⟩) hS.2.2 d_Tt_hasValue_23
  · refine lv_iload_n hx hb d_Tt_hasValue_8 rfl (lv_at hl 2 rfl) ?_
    refine lv_if_lt (tgt := 22) hx hb d_Tt_hasValue_9 (by decide) (fun hc11 => ?_) (fun hc11 => ?_)
    · refine lv_iconst (v := (0 : Int32)) hx hb d_Tt_hasValue_22 (by decide) ?_
      have hf12 : (f_Tt_hasValue u k x) = (0 : Int32) := by rw [f_Tt_hasValue, if_neg hc9, if_pos hc11]
      exact W.zret (ty := .boolean) (v := (0 : Int32)) hx hb hr rfl (fun tE ht _ => ⟨⟨_, w0, rfl, ⟨hf12, (Or.inl rfl), rfl⟩, cd_Pt ht hP⟩, hS.F ht⟩) hS.2.2 d_Tt_hasValue_23
    · refine lv_iload_n hx hb d_Tt_hasValue_12 rfl (lv_at hl 2 rfl) ?_
      refine lv_bipush (v := (8 : Int32)) hx hb d_Tt_hasValue_13 (by decide) ?_
      refine lv_icmp_ge (tgt := 22) hx hb d_Tt_hasValue_15 (by decide) (fun hc13 => ?_) (fun hc13 => ?_)
      · refine lv_iconst (v := (0 : Int32)) hx hb d_Tt_hasValue_22 (by decide) ?_
        have hf14 : (f_Tt_hasValue u k x) = (0 : Int32) := by rw [f_Tt_hasValue, if_neg hc9, if_neg hc11, if_pos hc13]
        exact W.zret (ty := .boolean) (v := (0 : Int32)) hx hb hr rfl (fun tE ht _ => ⟨⟨_, w0, rfl, ⟨hf14, (Or.inl rfl), rfl⟩, cd_Pt ht hP⟩, hS.F ht⟩) hS.2.2 d_Tt_hasValue_23
      · refine lv_iconst (v := (1 : Int32)) hx hb d_Tt_hasValue_18 (by decide) ?_
        refine lv_goto (tgt := 23) hx hb d_Tt_hasValue_19 (by decide) ?_
        have hf15 : (f_Tt_hasValue u k x) = (1 : Int32) := by rw [f_Tt_hasValue, if_neg hc9, if_neg hc11, if_neg hc13]
        exact W.zret (ty := .boolean) (v := (1 : Int32)) hx hb hr rfl (fun tE ht _ => ⟨⟨_, w0, rfl, ⟨hf15, (Or.inr rfl), rfl⟩, cd_Pt ht hP⟩, hS.F ht⟩) hS.2.2 d_Tt_hasValue_23
def f_Tt_read (u : cd_Tt) (k : Int32) (x : Int32) : Int32 := (if (f_Tt_hasValue u k x) = 0 then (0 : Int32) else (u.2.2 ((k * (8 : Int32)) + x).toNatClampNeg))
def o_Tt_read (u : cd_Tt) (k : Int32) (x : Int32) : Prop := (¬ (f_Tt_hasValue u k x) = 0 → vp_in ((k * (8 : Int32)) + x) 24)
set_option maxHeartbeats 4000000 in
set_option maxRecDepth 100000 in
theorem c_Tt_read (l : Launch) (D : va_G) (tt : Nat → ClassId) (ad : Nat → Nat) (N : Nat) (A : Nat → Prop) (zs : Nat → Nat) (w0 : Nat → va_E) (q : Nat) (u : cd_Tt) (k : Int32) (x : Int32) (hR0 : cd_TtAt N tt ad w0 q u) (ho : o_Tt_read u k x) : Met l y_Tt_read w_Tt_read ({ frames := 2, cells := 0, slots := 0, locals := 43 }) (va_Pc [.ref (ad q), .int k, .int x] (cd_U D tt ad N A zs w0)) (va_Qi (fun r w' => (f_Tt_read u k x) = r ∧ w0 = w') (fun w' t => cd_P D ad N A w' t.heap) A) 0 0 A := by
  refine Met.ofW (cc := b_Tt_read) (maxL := 3) (ret := (some .int)) (by decide) rfl ?_
  intro p e s m args below meth c s₁ B hml hv
  obtain ⟨rfl, hP, hK, hZ⟩ := hv
  have hx := B.exec
  have hb := B.bytes
  have hr := B.returns
  have hA : ∀ w ∈ cd_AW, w.before _ s = true := fun w h => atoms_spec (ws := w_Tt_read) B.pre w (List.mem_cons_of_mem _ h)
  have hown : s.vm.findClass R_Tt = some m.cls := findClass_of_methodNamed B.named
  have hlocks := B.notSynchronized
  have hS : va_S A s.heap s.heap [] := va_S.rf
  have hl := lv_entry ([.ref (ad q), .int k, .int x]) (n := 3) (Nat.le_of_ble_eq_true rfl)
  rw [lg_entry_eq]
  generalize (lg_sl ([.ref (ad q), .int k, .int x]) ++ List.replicate (3 - (lg_sl ([.ref (ad q), .int k, .int x])).length) Slot.unset).toArray = ls at hl ⊢
  have hl : lv_has ls 3 [(0, .ref (ad q)), (1, .int k), (2, .int x)] := hl
  have ho : (¬ (f_Tt_hasValue u k x) = 0 → vp_in ((k * (8 : Int32)) + x) 24) := ho
  obtain ⟨hn1, fa2, fa3, fa4⟩ := hR0
  refine lv_aload_n hx hb d_Tt_read_0 rfl (lv_at hl 0 rfl) ?_
  refine lv_iload_n hx hb d_Tt_read_1 rfl (lv_at hl 1 rfl) ?_
  refine lv_iload_n hx hb d_Tt_read_2 rfl (lv_at hl 2 rfl) ?_
  refine va_calli (va_runV (As := [.int k, .int x]) (rest := []) ⟨hx, hb, hml, hown, hA⟩ (c_Tt_hasValue l D tt ad N A zs w0 q u k x (⟨hn1, fa2, fa3, fa4⟩)) (cwV 2 hA (cd_gV aw_200 aw_201 aw_757 aw_4 aw_202) rfl rfl rfl ⟨rfl, by decide, by decide, by decide +kernel⟩ ⟨Nat.le_of_ble_eq_true rfl, Nat.le_of_ble_eq_true rfl⟩) ⟨cd_blind, cd_recv hK hP (k := q) (by omega) fa2 rfl, fun U hU hW => ⟨rfl, cd_pre hK hP hZ hS U hU hW⟩⟩ rfl rfl hl.1 rfl (lv_room (Nat.le_of_ble_eq_true rfl)) d_Tt_read_3 ⟨Nat.zero_le _, Nat.zero_le _⟩) hS (fun _ _ h => h) (fun _ h => h) (fun r5 w1 tE H locs ht hvm hr6 hP hz1 hk1 hS => ?_)
  have hP := cd_Pf ht hP
  obtain ⟨rfl, hbo8, rfl⟩ := hr6
  refine lv_if_eq (tgt := 23) hx hb d_Tt_read_6 (by decide) (fun hc9 => ?_) (fun hc9 => ?_)
  · refine lv_iconst (v := (0 : Int32)) hx hb d_Tt_read_23 (by decide) ?_
    have hf10 : (f_Tt_read u k x) = (0 : Int32) := by rw [f_Tt_read, if_pos hc9]
    exact W.iret (v := (0 : Int32)) hx hb hr (fun tE ht _ => ⟨⟨_, w0, rfl, ⟨hf10, rfl⟩, cd_Pt ht hP⟩, hS.F ht⟩) hS.2.2 d_Tt_read_24
  · refine lv_aload_n hx hb d_Tt_read_9 rfl (lv_at hl 0 rfl) ?_
    refine g_get (ci := 2) (C := R_Tt) (T := F_Tt) (Nf := 3) (v := .ref (ad (q + 2))) hx hb hA in_Tt hown hK hP (k := q) (by omega) fa2 rfl 1 (by decide) (hA _ aw_56) (fun _ h9 => h9) rfl d_Tt_read_10 ?_
    refine lv_iload_n hx hb d_Tt_read_13 rfl (lv_at hl 1 rfl) ?_
    refine lv_bipush (v := (8 : Int32)) hx hb d_Tt_read_14 (by decide) ?_
    refine lv_imul hx hb d_Tt_read_16 ?_
    refine lv_iload_n hx hb d_Tt_read_17 rfl (lv_at hl 2 rfl) ?_
    refine lv_iadd hx hb d_Tt_read_18 ?_
    refine g_iald hx hb hK hP (k := (q + 2)) (by omega) fa4 rfl (ho hc9) d_Tt_read_19 ?_
    refine lv_goto (tgt := 24) hx hb d_Tt_read_20 (by decide) ?_
    have hf11 : (f_Tt_read u k x) = (u.2.2 ((k * (8 : Int32)) + x).toNatClampNeg) := by rw [f_Tt_read, if_neg hc9]
    exact W.iret (v := (u.2.2 ((k * (8 : Int32)) + x).toNatClampNeg)) hx hb hr (fun tE ht _ => ⟨⟨_, w0, rfl, ⟨hf11, rfl⟩, cd_Pt ht hP⟩, hS.F ht⟩) hS.2.2 d_Tt_read_24
def f_Tt_write (u : cd_Tt) (k : Int32) (x : Int32) (v : Int32) : Int32 × cd_Tt := (if (f_Tt_hasValue u k x) = 0 then ((0 : Int32), u) else ((1 : Int32), (u.1, u.2.1, (upd u.2.2 ((k * (8 : Int32)) + x).toNatClampNeg v))))
def o_Tt_write (u : cd_Tt) (k : Int32) (x : Int32) (v : Int32) : Prop := (¬ (f_Tt_hasValue u k x) = 0 → vp_in ((k * (8 : Int32)) + x) 24)
set_option maxHeartbeats 4000000 in
set_option maxRecDepth 100000 in
theorem c_Tt_write (l : Launch) (D : va_G) (tt : Nat → ClassId) (ad : Nat → Nat) (N : Nat) (A : Nat → Prop) (zs : Nat → Nat) (w0 : Nat → va_E) (q : Nat) (u : cd_Tt) (k : Int32) (x : Int32) (v : Int32) (hR0 : cd_TtAt N tt ad w0 q u) (ho : o_Tt_write u k x v) : Met l y_Tt_write w_Tt_write ({ frames := 2, cells := 0, slots := 0, locals := 43 }) (va_Pc [.ref (ad q), .int k, .int x, .int v] (cd_U D tt ad N A zs w0)) (va_Qi (fun r w' => (f_Tt_write u k x v).1 = r ∧ (r = 0 ∨ r = 1) ∧ cd_TtAt N tt ad w' q ((f_Tt_write u k x v).2) ∧ (∀ k : Nat, (k < q ∨ q + 3 ≤ k) → w' k = w0 k)) (fun w' t => cd_P D ad N A w' t.heap) A) 0 0 A := by
  refine Met.ofW (cc := b_Tt_write) (maxL := 4) (ret := (some .boolean)) (by decide) rfl ?_
  intro p e s m args below meth c s₁ B hml hv
  obtain ⟨rfl, hP, hK, hZ⟩ := hv
  have hx := B.exec
  have hb := B.bytes
  have hr := B.returns
  have hA : ∀ w ∈ cd_AW, w.before _ s = true := fun w h => atoms_spec (ws := w_Tt_write) B.pre w (List.mem_cons_of_mem _ h)
  have hown : s.vm.findClass R_Tt = some m.cls := findClass_of_methodNamed B.named
  have hlocks := B.notSynchronized
  have hS : va_S A s.heap s.heap [] := va_S.rf
  have hl := lv_entry ([.ref (ad q), .int k, .int x, .int v]) (n := 4) (Nat.le_of_ble_eq_true rfl)
  rw [lg_entry_eq]
  generalize (lg_sl ([.ref (ad q), .int k, .int x, .int v]) ++ List.replicate (4 - (lg_sl ([.ref (ad q), .int k, .int x, .int v])).length) Slot.unset).toArray = ls at hl ⊢
  have hl : lv_has ls 4 [(0, .ref (ad q)), (1, .int k), (2, .int x), (3, .int v)] := hl
  have ho : (¬ (f_Tt_hasValue u k x) = 0 → vp_in ((k * (8 : Int32)) + x) 24) := ho
  obtain ⟨hn1, fa2, fa3, fa4⟩ := hR0
  refine lv_aload_n hx hb d_Tt_write_0 rfl (lv_at hl 0 rfl) ?_
  refine lv_iload_n hx hb d_Tt_write_1 rfl (lv_at hl 1 rfl) ?_
  refine lv_iload_n hx hb d_Tt_write_2 rfl (lv_at hl 2 rfl) ?_
  refine va_calli (va_runV (As := [.int k, .int x]) (rest := []) ⟨hx, hb, hml, hown, hA⟩ (c_Tt_hasValue l D tt ad N A zs w0 q u k x (⟨hn1, fa2, fa3, fa4⟩)) (cwV 2 hA (cd_gV aw_200 aw_201 aw_757 aw_4 aw_202) rfl rfl rfl ⟨rfl, by decide, by decide, by decide +kernel⟩ ⟨Nat.le_of_ble_eq_true rfl, Nat.le_of_ble_eq_true rfl⟩) ⟨cd_blind, cd_recv hK hP (k := q) (by omega) fa2 rfl, fun U hU hW => ⟨rfl, cd_pre hK hP hZ hS U hU hW⟩⟩ rfl rfl hl.1 rfl (lv_room (Nat.le_of_ble_eq_true rfl)) d_Tt_write_3 ⟨Nat.zero_le _, Nat.zero_le _⟩) hS (fun _ _ h => h) (fun _ h => h) (fun r5 w1 tE H locs ht hvm hr6 hP hz1 hk1 hS => ?_)
  have hP := cd_Pf ht hP
  obtain ⟨rfl, hbo8, rfl⟩ := hr6
  refine lv_if_ne (tgt := 11) hx hb d_Tt_write_6 (by decide) (fun hc9 => ?_) (fun hc9 => ?_)
  · refine lv_aload_n hx hb d_Tt_write_11 rfl (lv_at hl 0 rfl) ?_
    refine g_get (ci := 2) (C := R_Tt) (T := F_Tt) (Nf := 3) (v := .ref (ad (q + 2))) hx hb hA in_Tt hown hK hP (k := q) (by omega) fa2 rfl 1 (by decide) (hA _ aw_56) (fun _ h9 => h9) rfl d_Tt_write_12 ?_
    refine lv_iload_n hx hb d_Tt_write_15 rfl (lv_at hl 1 rfl) ?_
    refine lv_bipush (v := (8 : Int32)) hx hb d_Tt_write_16 (by decide) ?_
    refine lv_imul hx hb d_Tt_write_18 ?_
    refine lv_iload_n hx hb d_Tt_write_19 rfl (lv_at hl 2 rfl) ?_
    refine lv_iadd hx hb d_Tt_write_20 ?_
    refine lv_iload_n hx hb d_Tt_write_21 rfl (lv_at hl 3 rfl) ?_
    refine g_iast hx hb hK hP hS (k := (q + 2)) (by omega) fa4 rfl (ho hc9) d_Tt_write_22 (fun H locs w2 fa10 e2 hP hS => ?_)
    have fa11 := (e2 q (by omega)).trans fa2
    have fa12 := (e2 (q + 1) (by omega)).trans fa3
    refine lv_iconst (v := (1 : Int32)) hx hb d_Tt_write_23 (by decide) ?_
    have hf13 : (f_Tt_write u k x v) = ((1 : Int32), (u.1, u.2.1, (upd u.2.2 ((k * (8 : Int32)) + x).toNatClampNeg v))) := by rw [f_Tt_write, if_neg hc9]
    exact W.zret (ty := .boolean) (v := (1 : Int32)) hx hb hr rfl (fun tE ht _ => ⟨⟨_, w2, rfl, ⟨(by rw [hf13]), (Or.inr rfl), (by rw [hf13]; exact ⟨hn1, fa11, fa12, fa10⟩), (fun k hk => (e2 k (by omega)))⟩, cd_Pt ht hP⟩, hS.F ht⟩) hS.2.2 d_Tt_write_24
  · refine lv_iconst (v := (0 : Int32)) hx hb d_Tt_write_9 (by decide) ?_
    have hf14 : (f_Tt_write u k x v) = ((0 : Int32), u) := by rw [f_Tt_write, if_pos hc9]
    exact W.zret (ty := .boolean) (v := (0 : Int32)) hx hb hr rfl (fun tE ht _ => ⟨⟨_, w0, rfl, ⟨(by rw [hf14]), (Or.inl rfl), (by rw [hf14]; exact ⟨hn1, fa2, fa3, fa4⟩), (fun _ _ => rfl)⟩, cd_Pt ht hP⟩, hS.F ht⟩) hS.2.2 d_Tt_write_10
def f_Tt_become (u : cd_Tt) (u1 : cd_Tt) : cd_Tt := (u1.1, (va_cpy u1.2.1 u.2.1 (0 : Int32).toNatClampNeg (0 : Int32).toNatClampNeg (3 : Int32).toNatClampNeg), (va_cpy u1.2.2 u.2.2 (0 : Int32).toNatClampNeg (0 : Int32).toNatClampNeg (24 : Int32).toNatClampNeg))
def o_Tt_become (u : cd_Tt) (u1 : cd_Tt) : Prop := (¬ (0 : Int32) < 0) ∧ (¬ (0 : Int32) < 0) ∧ (¬ (3 : Int32) < 0) ∧ ((0 : Int32).toNatClampNeg + (3 : Int32).toNatClampNeg ≤ 3) ∧ ((0 : Int32).toNatClampNeg + (3 : Int32).toNatClampNeg ≤ 3) ∧ (¬ (0 : Int32) < 0) ∧ (¬ (0 : Int32) < 0) ∧ (¬ (24 : Int32) < 0) ∧ ((0 : Int32).toNatClampNeg + (24 : Int32).toNatClampNeg ≤ 24) ∧ ((0 : Int32).toNatClampNeg + (24 : Int32).toNatClampNeg ≤ 24)
set_option maxHeartbeats 4000000 in
set_option maxRecDepth 100000 in
theorem c_Tt_become (l : Launch) (D : va_G) (tt : Nat → ClassId) (ad : Nat → Nat) (N : Nat) (A : Nat → Prop) (zs : Nat → Nat) (w0 : Nat → va_E) (q : Nat) (u : cd_Tt) (q1 : Nat) (u1 : cd_Tt) (hR0 : cd_TtAt N tt ad w0 q u) (hR1 : cd_TtAt N tt ad w0 q1 u1) (hap0 : q1 + 3 ≤ q ∨ q + 3 ≤ q1) (ho : o_Tt_become u u1) : Met l y_Tt_become w_Tt_become ({ frames := 1, cells := 0, slots := 0, locals := 60 }) (va_Pc [.ref (ad q), .ref (ad q1)] (cd_U D tt ad N A zs w0)) (va_Qv (fun w' => cd_TtAt N tt ad w' q (f_Tt_become u u1) ∧ (∀ k : Nat, (k < q ∨ q + 3 ≤ k) → w' k = w0 k)) (fun w' t => cd_P D ad N A w' t.heap) A) 0 0 A := by
  refine Met.ofW (cc := b_Tt_become) (maxL := 2) (ret := none) (by decide) rfl ?_
  intro p e s m args below meth c s₁ B hml hv
  obtain ⟨rfl, hP, hK, hZ⟩ := hv
  have hx := B.exec
  have hb := B.bytes
  have hr := B.returns
  have hA : ∀ w ∈ cd_AW, w.before _ s = true := fun w h => atoms_spec (ws := w_Tt_become) B.pre w (List.mem_cons_of_mem _ h)
  have hown : s.vm.findClass R_Tt = some m.cls := findClass_of_methodNamed B.named
  have hlocks := B.notSynchronized
  have hS : va_S A s.heap s.heap [] := va_S.rf
  have hl := lv_entry ([.ref (ad q), .ref (ad q1)]) (n := 2) (Nat.le_of_ble_eq_true rfl)
  rw [lg_entry_eq]
  generalize (lg_sl ([.ref (ad q), .ref (ad q1)]) ++ List.replicate (2 - (lg_sl ([.ref (ad q), .ref (ad q1)])).length) Slot.unset).toArray = ls at hl ⊢
  have hl : lv_has ls 2 [(0, .ref (ad q)), (1, .ref (ad q1))] := hl
  have ho : (¬ (0 : Int32) < 0) ∧ (¬ (0 : Int32) < 0) ∧ (¬ (3 : Int32) < 0) ∧ ((0 : Int32).toNatClampNeg + (3 : Int32).toNatClampNeg ≤ 3) ∧ ((0 : Int32).toNatClampNeg + (3 : Int32).toNatClampNeg ≤ 3) ∧ (¬ (0 : Int32) < 0) ∧ (¬ (0 : Int32) < 0) ∧ (¬ (24 : Int32) < 0) ∧ ((0 : Int32).toNatClampNeg + (24 : Int32).toNatClampNeg ≤ 24) ∧ ((0 : Int32).toNatClampNeg + (24 : Int32).toNatClampNeg ≤ 24) := ho
  obtain ⟨hn1, fa2, fa3, fa4⟩ := hR0
  refine lv_aload_n hx hb d_Tt_become_0 rfl (lv_at hl 1 rfl) ?_
  obtain ⟨hn5, fa6, fa7, fa8⟩ := hR1
  refine g_get (ci := 2) (C := R_Tt) (T := F_Tt) (Nf := 3) (v := .ref (ad (q1 + 1))) hx hb hA in_Tt hown hK hP (k := q1) (by omega) fa6 rfl 0 (by decide) (hA _ aw_55) (fun _ h9 => h9) rfl d_Tt_become_1 ?_
  refine lv_iconst (v := (0 : Int32)) hx hb d_Tt_become_4 (by decide) ?_
  refine lv_aload_n hx hb d_Tt_become_5 rfl (lv_at hl 0 rfl) ?_
  refine g_get (ci := 2) (C := R_Tt) (T := F_Tt) (Nf := 3) (v := .ref (ad (q + 1))) hx hb hA in_Tt hown hK hP (k := q) (by omega) fa2 rfl 0 (by decide) (hA _ aw_55) (fun _ h9 => h9) rfl d_Tt_become_6 ?_
  refine lv_iconst (v := (0 : Int32)) hx hb d_Tt_become_9 (by decide) ?_
  refine lv_iconst (v := (3 : Int32)) hx hb d_Tt_become_10 (by decide) ?_
  refine g_copyi (ty := .int) (t0 := 1) (t1 := 1) hx hb (hml.trans hl.1.symm) hown (hA _ aw_532) (hA _ aw_283) (hA _ aw_282) (hA _ aw_10) hK hP hS (k0 := (q1 + 1)) (k1 := (q + 1)) (by omega) (by omega) fa7 fa3 rfl rfl rfl (ho.1) (ho.2.1) (ho.2.2.1) (ho.2.2.2.1) (ho.2.2.2.2.1) (fun _ _ => rfl) (by decide) (by decide) d_Tt_become_11 (fun H locs w1 fa9 e1 hP hS => ?_)
  have fa10 := (e1 q (by omega)).trans fa2
  have fa11 := (e1 (q + 2) (by omega)).trans fa4
  have fa12 := (e1 q1 (by omega)).trans fa6
  have fa13 := (e1 (q1 + 1) (by omega)).trans fa7
  have fa14 := (e1 (q1 + 2) (by omega)).trans fa8
  refine lv_aload_n hx hb d_Tt_become_14 rfl (lv_at hl 1 rfl) ?_
  refine g_get (ci := 2) (C := R_Tt) (T := F_Tt) (Nf := 3) (v := .ref (ad (q1 + 2))) hx hb hA in_Tt hown hK hP (k := q1) (by omega) fa12 rfl 1 (by decide) (hA _ aw_56) (fun _ h9 => h9) rfl d_Tt_become_15 ?_
  refine lv_iconst (v := (0 : Int32)) hx hb d_Tt_become_18 (by decide) ?_
  refine lv_aload_n hx hb d_Tt_become_19 rfl (lv_at hl 0 rfl) ?_
  refine g_get (ci := 2) (C := R_Tt) (T := F_Tt) (Nf := 3) (v := .ref (ad (q + 2))) hx hb hA in_Tt hown hK hP (k := q) (by omega) fa10 rfl 1 (by decide) (hA _ aw_56) (fun _ h9 => h9) rfl d_Tt_become_20 ?_
  refine lv_iconst (v := (0 : Int32)) hx hb d_Tt_become_23 (by decide) ?_
  refine lv_bipush (v := (24 : Int32)) hx hb d_Tt_become_24 (by decide) ?_
  refine g_copyi (ty := .int) (t0 := 1) (t1 := 1) hx hb (hml.trans hl.1.symm) hown (hA _ aw_532) (hA _ aw_283) (hA _ aw_282) (hA _ aw_10) hK hP hS (k0 := (q1 + 2)) (k1 := (q + 2)) (by omega) (by omega) fa14 fa11 rfl rfl rfl (ho.2.2.2.2.2.1) (ho.2.2.2.2.2.2.1) (ho.2.2.2.2.2.2.2.1) (ho.2.2.2.2.2.2.2.2.1) (ho.2.2.2.2.2.2.2.2.2) (fun _ _ => rfl) (by decide) (by decide) d_Tt_become_26 (fun H locs w2 fa15 e2 hP hS => ?_)
  have fa16 := (e2 q (by omega)).trans fa10
  have fa17 := (e2 (q + 1) (by omega)).trans fa9
  have fa18 := (e2 q1 (by omega)).trans fa12
  have fa19 := (e2 (q1 + 1) (by omega)).trans fa13
  have fa20 := (e2 (q1 + 2) (by omega)).trans fa14
  refine lv_aload_n hx hb d_Tt_become_29 rfl (lv_at hl 0 rfl) ?_
  refine lv_aload_n hx hb d_Tt_become_30 rfl (lv_at hl 1 rfl) ?_
  refine g_get (ci := 2) (C := R_Tt) (T := F_Tt) (Nf := 3) (v := .int u1.1) hx hb hA in_Tt hown hK hP (k := q1) (by omega) fa18 rfl 2 (by decide) (hA _ aw_57) (fun _ h9 => h9) rfl d_Tt_become_31 ?_
  refine g_put (ci := 2) (C := R_Tt) (T := F_Tt) (Nf := 3) (v := .int u1.1) (ty := .int) hx hb hA in_Tt t_Tt t_Tt_ok n_Tt hown hK hP hS (k := q) (by omega) fa16 rfl 2 (by decide) (hA _ aw_57) (fun _ h9 => h9) rfl (by decide +kernel) rfl rfl (Nat.le_of_ble_eq_true rfl) d_Tt_become_34 (fun H locs w3 fa21 e3 hP hS => ?_)
  have fa21 : w3 q = .inr (2, [.ref (ad (q + 1)), .ref (ad (q + 2)), .int u1.1]) := fa21
  have fa22 := (e3 (q + 1) (by omega)).trans fa17
  have fa23 := (e3 (q + 2) (by omega)).trans fa15
  have fa24 := (e3 q1 (by omega)).trans fa18
  have fa25 := (e3 (q1 + 1) (by omega)).trans fa19
  have fa26 := (e3 (q1 + 2) (by omega)).trans fa20
  have hf27 : (f_Tt_become u u1) = (u1.1, (va_cpy u1.2.1 u.2.1 (0 : Int32).toNatClampNeg (0 : Int32).toNatClampNeg (3 : Int32).toNatClampNeg), (va_cpy u1.2.2 u.2.2 (0 : Int32).toNatClampNeg (0 : Int32).toNatClampNeg (24 : Int32).toNatClampNeg)) := by rw [f_Tt_become]
  exact W.vret hx hb hr (fun tE ht _ => ⟨⟨w3, rfl, ⟨(by rw [hf27]; exact ⟨hn1, fa21, fa22, fa23⟩), (fun k hk => ((e3 k (by omega)).trans ((e2 k (by omega)).trans (e1 k (by omega)))))⟩, cd_Pt ht hP⟩, hS.F ht⟩) hS.2.2 d_Tt_become_37
