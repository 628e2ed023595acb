def f_Mo_byteAt (u : cd_Mo) (ml : cd_By) (k0 : Int32) : Int32 × cd_Mo := (if k0 < 0 then ((-1 : Int32), ((0 : Int32), u.2.1, u.2.2.1, u.2.2.2.1, u.2.2.2.2.1, u.2.2.2.2.2)) else (if u.2.1 ≤ k0 then ((-1 : Int32), ((0 : Int32), u.2.1, u.2.2.1, u.2.2.2.1, u.2.2.2.2.1, u.2.2.2.2.2)) else (((ml k0.toNatClampNeg) &&& (255 : Int32)), ((0 : Int32), u.2.1, u.2.2.1, u.2.2.2.1, u.2.2.2.2.1, u.2.2.2.2.2))))
def o_Mo_byteAt (u : cd_Mo) (ml : cd_By) (k0 : Int32) : Prop := (¬ k0 < 0 → ¬ u.2.1 ≤ k0 → vp_in k0 8192)
set_option maxHeartbeats 4000000 in
set_option maxRecDepth 100000 in
theorem c_Mo_byteAt (l : Launch) (D : va_G) (tt : Nat → ClassId) (ad : Nat → Nat) (N : Nat) (A : Nat → Prop) (zs : Nat → Nat) (w0 : Nat → va_E) (q : Nat) (u : cd_Mo) (ml : cd_By) (k0 : Int32) (hR0 : cd_MoAt N tt ad w0 q u) (hR1 : cd_ByAt N tt ad w0 (q + 9) 8192 ml) (ho : o_Mo_byteAt u ml k0) : Met l y_Mo_byteAt w_Mo_byteAt ({ frames := 0, cells := 0, slots := 0, locals := 0 }) (va_Pc [.ref (ad q), .int k0] (cd_U D tt ad N A zs w0)) (va_Qi (fun r w' => (f_Mo_byteAt u ml k0).1 = r ∧ cd_MoAt N tt ad w' q ((f_Mo_byteAt u ml k0).2) ∧ (∀ k : Nat, (k < q ∨ q + 1 ≤ k) → w' k = w0 k)) (fun w' t => cd_P D ad N A w' t.heap) A) 0 0 A := by
  refine Met.ofW (cc := b_Mo_byteAt) (maxL := 2) (ret := (some .int)) (by decide) rfl ?_
  intro p e s m args below meth c s₁ B hml hv
  obtain ⟨rfl, hP, hK, hZ⟩ := hv
  have hx := B.exec
  have hb := B.bytes
  have hr := B.returns
  have hA : ∀ w ∈ cd_AW, w.before _ s = true := fun w h => atoms_spec (ws := w_Mo_byteAt) B.pre w (List.mem_cons_of_mem _ h)
  have hown : s.vm.findClass R_Mo = some m.cls := findClass_of_methodNamed B.named
  have hlocks := B.notSynchronized
  have hS : va_S A s.heap s.heap [] := va_S.rf
  have hl := lv_entry ([.ref (ad q), .int k0]) (n := 2) (Nat.le_of_ble_eq_true rfl)
  rw [lg_entry_eq]
  generalize (lg_sl ([.ref (ad q), .int k0]) ++ List.replicate (2 - (lg_sl ([.ref (ad q), .int k0])).length) Slot.unset).toArray = ls at hl ⊢
  have hl : lv_has ls 2 [(0, .ref (ad q)), (1, .int k0)] := hl
  have ho : (¬ k0 < 0 → ¬ u.2.1 ≤ k0 → vp_in k0 8192) := ho
  obtain ⟨hn1, fa2⟩ := hR0
  refine lv_aload_n hx hb d_Mo_byteAt_0 rfl (lv_at hl 0 rfl) ?_
  refine lv_iconst (v := (0 : Int32)) hx hb d_Mo_byteAt_1 (by decide) ?_
  refine g_put (ci := 7) (C := R_Mo) (T := F_Mo) (Nf := 16) (v := .int (0 : Int32)) (ty := .int) hx hb hA in_Mo t_Mo t_Mo_ok n_Mo hown hK hP hS (k := q) (by omega) fa2 rfl 0 (by decide) (hA _ aw_560) (fun _ h9 => h9) rfl (by decide +kernel) rfl rfl (Nat.le_of_ble_eq_true rfl) d_Mo_byteAt_2 (fun H locs w1 fa3 e1 hP hS => ?_)
  have fa3 : w1 q = .inr (7, [.int (0 : Int32), .ref (ad (q + 1)), .ref (ad (q + 2)), .ref (ad (q + 3)), .ref (ad (q + 4)), .ref (ad (q + 5)), .ref (ad (q + 6)), .ref (ad (q + 7)), .ref (ad (q + 8)), .ref (ad (q + 9)), .int u.2.1, .ref (ad (q + 10)), .int u.2.2.1, .int u.2.2.2.1, .int u.2.2.2.2.1, .int u.2.2.2.2.2]) := fa3
  have at4 := cd_ByAt_keep hR1 (fun k h1 h2 => e1 k (by omega))
  refine lv_iload_n hx hb d_Mo_byteAt_5 rfl (lv_at hl 1 rfl) ?_
  refine lv_if_lt (tgt := 30) hx hb d_Mo_byteAt_6 (by decide) (fun hc5 => ?_) (fun hc5 => ?_)
  · refine lv_iconst (v := (-1 : Int32)) hx hb d_Mo_byteAt_30 (by decide) ?_
    have hf6 : (f_Mo_byteAt u ml k0) = ((-1 : Int32), ((0 : Int32), u.2.1, u.2.2.1, u.2.2.2.1, u.2.2.2.2.1, u.2.2.2.2.2)) := by rw [f_Mo_byteAt, if_pos hc5]
    exact W.iret (v := (-1 : Int32)) hx hb hr (fun tE ht _ => ⟨⟨_, w1, rfl, ⟨(by rw [hf6]), (by rw [hf6]; exact ⟨hn1, fa3⟩), (fun k hk => (e1 k (by omega)))⟩, cd_Pt ht hP⟩, hS.F ht⟩) hS.2.2 d_Mo_byteAt_31
  · refine lv_iload_n hx hb d_Mo_byteAt_9 rfl (lv_at hl 1 rfl) ?_
    refine lv_aload_n hx hb d_Mo_byteAt_10 rfl (lv_at hl 0 rfl) ?_
    refine g_get (ci := 7) (C := R_Mo) (T := F_Mo) (Nf := 16) (v := .int u.2.1) hx hb hA in_Mo hown hK hP (k := q) (by omega) fa3 rfl 10 (by decide) (hA _ aw_570) (fun _ h9 => h9) rfl d_Mo_byteAt_11 ?_
    refine lv_icmp_ge (tgt := 30) hx hb d_Mo_byteAt_14 (by decide) (fun hc7 => ?_) (fun hc7 => ?_)
    · refine lv_iconst (v := (-1 : Int32)) hx hb d_Mo_byteAt_30 (by decide) ?_
      have hf8 : (f_Mo_byteAt u ml k0) = ((-1 : Int32), ((0 : Int32), u.2.1, u.2.2.1, u.2.2.2.1, u.2.2.2.2.1, u.2.2.2.2.2)) := by rw [f_Mo_byteAt, if_neg hc5, if_pos hc7]
      exact W.iret (v := (-1 : Int32)) hx hb hr (fun tE ht _ => ⟨⟨_, w1, rfl, ⟨(by rw [hf8]), (by rw [hf8]; exact ⟨hn1, fa3⟩), (fun k hk => (e1 k (by omega)))⟩, cd_Pt ht hP⟩, hS.F ht⟩) hS.2.2 d_Mo_byteAt_31
    · refine lv_aload_n hx hb d_Mo_byteAt_17 rfl (lv_at hl 0 rfl) ?_
      refine g_get (ci := 7) (C := R_Mo) (T := F_Mo) (Nf := 16) (v := .ref (ad (q + 9))) hx hb hA in_Mo hown hK hP (k := q) (by omega) fa3 rfl 9 (by decide) (hA _ aw_569) (fun _ h9 => h9) rfl d_Mo_byteAt_18 ?_
      refine lv_iload_n hx hb d_Mo_byteAt_21 rfl (lv_at hl 1 rfl) ?_
      obtain ⟨hn9, fa10⟩ := at4
      refine g_bald hx hb hK hP (k := (q + 9)) (by omega) fa10 rfl (ho hc5 hc7) d_Mo_byteAt_22 ?_
      refine lv_sipush (v := (255 : Int32)) hx hb d_Mo_byteAt_23 (by decide) ?_
      refine lv_iand hx hb d_Mo_byteAt_26 ?_
      refine lv_goto (tgt := 31) hx hb d_Mo_byteAt_27 (by decide) ?_
      have hf11 : (f_Mo_byteAt u ml k0) = (((ml k0.toNatClampNeg) &&& (255 : Int32)), ((0 : Int32), u.2.1, u.2.2.1, u.2.2.2.1, u.2.2.2.2.1, u.2.2.2.2.2)) := by rw [f_Mo_byteAt, if_neg hc5, if_neg hc7]
      exact W.iret (v := ((ml k0.toNatClampNeg) &&& (255 : Int32))) hx hb hr (fun tE ht _ => ⟨⟨_, w1, rfl, ⟨(by rw [hf11]), (by rw [hf11]; exact ⟨hn1, fa3⟩), (fun k hk => (e1 k (by omega)))⟩, cd_Pt ht hP⟩, hS.F ht⟩) hS.2.2 d_Mo_byteAt_31
def f_Mo_copy_L27 (S : cd_Mo × cd_By) (ml : cd_By) : Nat → Int32 → (cd_Mo × cd_By) → Int32 × cd_Mo × cd_By
  | 0, _, _ => default
  | gn + 1, x1, S' => (if S'.1.2.2.1 ≤ x1 then (S'.1.2.2.1, S'.1, S'.2) else (f_Mo_copy_L27 S ml gn (x1 + (1 : Int32)) (S'.1, (upd S'.2 x1.toNatClampNeg (vp_nar .byte (ml x1.toNatClampNeg))))))
def f_Mo_copy (S : cd_Mo × cd_By) (ml : cd_By) : Int32 × cd_Mo × cd_By := (if S.1.2.1 = (-1 : Int32) then (f_Mo_copy_L27 S ml 8193 (0 : Int32) (((0 : Int32), S.1.2.1, (0 : Int32), S.1.2.2.2.1, S.1.2.2.2.2.1, S.1.2.2.2.2.2), S.2)) else (f_Mo_copy_L27 S ml 8193 (0 : Int32) (((0 : Int32), S.1.2.1, S.1.2.1, S.1.2.2.2.1, S.1.2.2.2.2.1, S.1.2.2.2.2.2), S.2)))
def o_Mo_copy_L27 (S : cd_Mo × cd_By) (ml : cd_By) : Nat → Int32 → (cd_Mo × cd_By) → Prop
  | 0, _, _ => False
  | gn + 1, x1, S' => (¬ S'.1.2.2.1 ≤ x1 → vp_in x1 8192) ∧ (¬ S'.1.2.2.1 ≤ x1 → vp_in x1 8192) ∧ (¬ S'.1.2.2.1 ≤ x1 → o_Mo_copy_L27 S ml gn (x1 + (1 : Int32)) (S'.1, (upd S'.2 x1.toNatClampNeg (vp_nar .byte (ml x1.toNatClampNeg)))))
def o_Mo_copy (S : cd_Mo × cd_By) (ml : cd_By) : Prop := (¬ S.1.2.1 = (-1 : Int32) → o_Mo_copy_L27 S ml 8193 (0 : Int32) (((0 : Int32), S.1.2.1, S.1.2.1, S.1.2.2.2.1, S.1.2.2.2.2.1, S.1.2.2.2.2.2), S.2)) ∧ (S.1.2.1 = (-1 : Int32) → o_Mo_copy_L27 S ml 8193 (0 : Int32) (((0 : Int32), S.1.2.1, (0 : Int32), S.1.2.2.2.1, S.1.2.2.2.2.1, S.1.2.2.2.2.2), S.2))
set_option maxHeartbeats 4000000 in
set_option maxRecDepth 100000 in
theorem c_Mo_copy (l : Launch) (D : va_G) (tt : Nat → ClassId) (ad : Nat → Nat) (N : Nat) (A : Nat → Prop) (zs : Nat → Nat) (w0 : Nat → va_E) (q : Nat) (S : cd_Mo × cd_By) (ml : cd_By) (hR0 : cd_MoAt N tt ad w0 q S.1) (hR1 : cd_ByAt N tt ad w0 (q + 9) 8192 ml) (hR2 : cd_ByAt N tt ad w0 (q + 10) 8192 S.2) (ho : o_Mo_copy S ml) : Met l y_Mo_copy w_Mo_copy ({ frames := 0, cells := 0, slots := 0, locals := 0 }) (va_Pc [.ref (ad q)] (cd_U D tt ad N A zs w0)) (va_Qi (fun r w' => (f_Mo_copy S ml).1 = r ∧ cd_MoAt N tt ad w' q ((f_Mo_copy S ml).2.1) ∧ cd_ByAt N tt ad w' (q + 10) 8192 ((f_Mo_copy S ml).2.2) ∧ (∀ k : Nat, (k < q ∨ q + 1 ≤ k) ∧ (k < (q + 10) ∨ (q + 10) + 1 ≤ k) → w' k = w0 k)) (fun w' t => cd_P D ad N A w' t.heap) A) 0 0 A := by
  refine Met.ofW (cc := b_Mo_copy) (maxL := 2) (ret := (some .int)) (by decide) rfl ?_
  intro p e s m args below meth c s₁ B hml hv
  obtain ⟨rfl, hP, hK, hZ⟩ := hv
  have hx := B.exec
  have hb := B.bytes
  have hr := B.returns
  have hA : ∀ w ∈ cd_AW, w.before _ s = true := fun w h => atoms_spec (ws := w_Mo_copy) B.pre w (List.mem_cons_of_mem _ h)
  have hown : s.vm.findClass R_Mo = some m.cls := findClass_of_methodNamed B.named
  have hlocks := B.notSynchronized
  have L27 : ∀ (gn : Nat) (x1 : Int32) (S' : cd_Mo × cd_By) (w : Nat → va_E) (efr : ∀ k : Nat, (k < q ∨ q + 1 ≤ k) ∧ (k < (q + 10) ∨ (q + 10) + 1 ≤ k) → w k = w0 k) (H : Heap) (locs : List Loc) (ls : Array Slot), lv_has ls 2 [(0, .ref (ad q)), (1, .int x1)] → (f_Mo_copy S ml) = f_Mo_copy_L27 S ml gn x1 S' → cd_MoAt N tt ad w q S'.1 → cd_ByAt N tt ad w (q + 9) 8192 ml → cd_ByAt N tt ad w (q + 10) 8192 S'.2 → cd_P D ad N A w H → va_S A s.heap H locs → o_Mo_copy_L27 S ml gn x1 S' → W p l e (headSpec w_Mo_copy ({ frames := 0, cells := 0, slots := 0, locals := 0 })).room s m [.ref (ad q)].toArray below meth c H locs 0 0 (MQ below (va_Qi (fun r w' => (f_Mo_copy S ml).1 = r ∧ cd_MoAt N tt ad w' q ((f_Mo_copy S ml).2.1) ∧ cd_ByAt N tt ad w' (q + 10) 8192 ((f_Mo_copy S ml).2.2) ∧ (∀ k : Nat, (k < q ∨ q + 1 ≤ k) ∧ (k < (q + 10) ∨ (q + 10) + 1 ≤ k) → w' k = w0 k)) (fun w' t => cd_P D ad N A w' t.heap) A) [.ref (ad q)].toArray s 0 0 A) (F0 m 27 ls []) := by
    intro gn
    induction gn with
    | zero => intro x1 S' w efr H locs ls hl he hL0 hL1 hL2 hP hS ho; exact ho.elim
    | succ gn ih =>
      intro x1 S' w efr H locs ls hl he hL0 hL1 hL2 hP hS ho
      have ho : (¬ S'.1.2.2.1 ≤ x1 → vp_in x1 8192) ∧ (¬ S'.1.2.2.1 ≤ x1 → vp_in x1 8192) ∧ (¬ S'.1.2.2.1 ≤ x1 → o_Mo_copy_L27 S ml gn (x1 + (1 : Int32)) (S'.1, (upd S'.2 x1.toNatClampNeg (vp_nar .byte (ml x1.toNatClampNeg))))) := ho
      obtain ⟨hn1, fa2⟩ := hL0
      refine lv_iload_n hx hb d_Mo_copy_27 rfl (lv_at hl 1 rfl) ?_
      refine lv_aload_n hx hb d_Mo_copy_28 rfl (lv_at hl 0 rfl) ?_
      refine g_get (ci := 7) (C := R_Mo) (T := F_Mo) (Nf := 16) (v := .int S'.1.2.2.1) hx hb hA in_Mo hown hK hP (k := q) (by omega) fa2 rfl 12 (by decide) (hA _ aw_572) (fun _ h9 => h9) rfl d_Mo_copy_29 ?_
      refine lv_icmp_ge (tgt := 53) hx hb d_Mo_copy_32 (by decide) (fun hc3 => ?_) (fun hc3 => ?_)
      · refine lv_aload_n hx hb d_Mo_copy_53 rfl (lv_at hl 0 rfl) ?_
        refine g_get (ci := 7) (C := R_Mo) (T := F_Mo) (Nf := 16) (v := .int S'.1.2.2.1) hx hb hA in_Mo hown hK hP (k := q) (by omega) fa2 rfl 12 (by decide) (hA _ aw_572) (fun _ h9 => h9) rfl d_Mo_copy_54 ?_
        have hf4 : (f_Mo_copy S ml) = (S'.1.2.2.1, S'.1, S'.2) := by rw [he, f_Mo_copy_L27, if_pos hc3]
        exact W.iret (v := S'.1.2.2.1) hx hb hr (fun tE ht _ => ⟨⟨_, w, rfl, ⟨(by rw [hf4]), (by rw [hf4]; exact ⟨hn1, fa2⟩), (by rw [hf4]; exact hL2), (fun k hk => (efr k (by omega)))⟩, cd_Pt ht hP⟩, hS.F ht⟩) hS.2.2 d_Mo_copy_57
      · refine lv_aload_n hx hb d_Mo_copy_35 rfl (lv_at hl 0 rfl) ?_
        refine g_get (ci := 7) (C := R_Mo) (T := F_Mo) (Nf := 16) (v := .ref (ad (q + 10))) hx hb hA in_Mo hown hK hP (k := q) (by omega) fa2 rfl 11 (by decide) (hA _ aw_571) (fun _ h9 => h9) rfl d_Mo_copy_36 ?_
        refine lv_iload_n hx hb d_Mo_copy_39 rfl (lv_at hl 1 rfl) ?_
        refine lv_aload_n hx hb d_Mo_copy_40 rfl (lv_at hl 0 rfl) ?_
        refine g_get (ci := 7) (C := R_Mo) (T := F_Mo) (Nf := 16) (v := .ref (ad (q + 9))) hx hb hA in_Mo hown hK hP (k := q) (by omega) fa2 rfl 9 (by decide) (hA _ aw_569) (fun _ h9 => h9) rfl d_Mo_copy_41 ?_
        refine lv_iload_n hx hb d_Mo_copy_44 rfl (lv_at hl 1 rfl) ?_
        obtain ⟨hn5, fa6⟩ := hL1
        refine g_bald hx hb hK hP (k := (q + 9)) (by omega) fa6 rfl (ho.1 hc3) d_Mo_copy_45 ?_
        obtain ⟨hn7, fa8⟩ := hL2
        refine g_bast hx hb hK hP hS (k := (q + 10)) (by omega) fa8 rfl (ho.2.1 hc3) d_Mo_copy_46 (fun H locs w1 fa9 e1 hP hS => ?_)
        have fa10 := (e1 q (by omega)).trans fa2
        have fa11 := (e1 (q + 9) (by omega)).trans fa6
        refine lv_iinc (k := 1) (v := (x1 + (1 : Int32))) (lv' := [(1, .int (x1 + (1 : Int32))), (0, .ref (ad q))]) hx hb d_Mo_copy_47 hl rfl (cd_inc _ _ _ (by decide)) (by decide) rfl (fun ls hl => ?_)
        refine lv_goto (tgt := 27) hx hb d_Mo_copy_50 (by decide) ?_
        exact ih (x1 + (1 : Int32)) (S'.1, (upd S'.2 x1.toNatClampNeg (vp_nar .byte (ml x1.toNatClampNeg)))) w1 (fun k hk => ((e1 k (by omega)).trans (efr k (by omega)))) H locs ls (lv_sub hl [1, 0] rfl) (show (f_Mo_copy S ml) = f_Mo_copy_L27 S ml gn (x1 + (1 : Int32)) (S'.1, (upd S'.2 x1.toNatClampNeg (vp_nar .byte (ml x1.toNatClampNeg)))) by rw [he, f_Mo_copy_L27, if_neg hc3]) (⟨hn1, fa10⟩) (⟨hn5, fa11⟩) (⟨hn7, fa9⟩) hP hS (ho.2.2 hc3)
  have hS : va_S A s.heap s.heap [] := va_S.rf
  have hl := lv_entry ([.ref (ad q)]) (n := 2) (Nat.le_of_ble_eq_true rfl)
  rw [lg_entry_eq]
  generalize (lg_sl ([.ref (ad q)]) ++ List.replicate (2 - (lg_sl ([.ref (ad q)])).length) Slot.unset).toArray = ls at hl ⊢
  have hl : lv_has ls 2 [(0, .ref (ad q))] := hl
  have ho : (¬ S.1.2.1 = (-1 : Int32) → o_Mo_copy_L27 S ml 8193 (0 : Int32) (((0 : Int32), S.1.2.1, S.1.2.1, S.1.2.2.2.1, S.1.2.2.2.2.1, S.1.2.2.2.2.2), S.2)) ∧ (S.1.2.1 = (-1 : Int32) → o_Mo_copy_L27 S ml 8193 (0 : Int32) (((0 : Int32), S.1.2.1, (0 : Int32), S.1.2.2.2.1, S.1.2.2.2.2.1, S.1.2.2.2.2.2), S.2)) := ho
  obtain ⟨hn12, fa13⟩ := hR0
  refine lv_aload_n hx hb d_Mo_copy_0 rfl (lv_at hl 0 rfl) ?_
  refine lv_iconst (v := (0 : Int32)) hx hb d_Mo_copy_1 (by decide) ?_
  refine g_put (ci := 7) (C := R_Mo) (T := F_Mo) (Nf := 16) (v := .int (0 : Int32)) (ty := .int) hx hb hA in_Mo t_Mo t_Mo_ok n_Mo hown hK hP hS (k := q) (by omega) fa13 rfl 0 (by decide) (hA _ aw_560) (fun _ h9 => h9) rfl (by decide +kernel) rfl rfl (Nat.le_of_ble_eq_true rfl) d_Mo_copy_2 (fun H locs w2 fa14 e2 hP hS => ?_)
  have fa14 : w2 q = .inr (7, [.int (0 : Int32), .ref (ad (q + 1)), .ref (ad (q + 2)), .ref (ad (q + 3)), .ref (ad (q + 4)), .ref (ad (q + 5)), .ref (ad (q + 6)), .ref (ad (q + 7)), .ref (ad (q + 8)), .ref (ad (q + 9)), .int S.1.2.1, .ref (ad (q + 10)), .int S.1.2.2.1, .int S.1.2.2.2.1, .int S.1.2.2.2.2.1, .int S.1.2.2.2.2.2]) := fa14
  have at15 := cd_ByAt_keep hR1 (fun k h1 h2 => e2 k (by omega))
  have at16 := cd_ByAt_keep hR2 (fun k h1 h2 => e2 k (by omega))
  refine lv_aload_n hx hb d_Mo_copy_5 rfl (lv_at hl 0 rfl) ?_
  refine lv_aload_n hx hb d_Mo_copy_6 rfl (lv_at hl 0 rfl) ?_
  refine g_get (ci := 7) (C := R_Mo) (T := F_Mo) (Nf := 16) (v := .int S.1.2.1) hx hb hA in_Mo hown hK hP (k := q) (by omega) fa14 rfl 10 (by decide) (hA _ aw_570) (fun _ h9 => h9) rfl d_Mo_copy_7 ?_
  refine lv_iconst (v := (-1 : Int32)) hx hb d_Mo_copy_10 (by decide) ?_
  refine lv_icmp_ne (tgt := 18) hx hb d_Mo_copy_11 (by decide) (fun hc17 => ?_) (fun hc17 => ?_)
  · refine lv_aload_n hx hb d_Mo_copy_18 rfl (lv_at hl 0 rfl) ?_
    refine g_get (ci := 7) (C := R_Mo) (T := F_Mo) (Nf := 16) (v := .int S.1.2.1) hx hb hA in_Mo hown hK hP (k := q) (by omega) fa14 rfl 10 (by decide) (hA _ aw_570) (fun _ h9 => h9) rfl d_Mo_copy_19 ?_
    refine g_put (ci := 7) (C := R_Mo) (T := F_Mo) (Nf := 16) (v := .int S.1.2.1) (ty := .int) hx hb hA in_Mo t_Mo t_Mo_ok n_Mo hown hK hP hS (k := q) (by omega) fa14 rfl 12 (by decide) (hA _ aw_572) (fun _ h9 => h9) rfl (by decide +kernel) rfl rfl (Nat.le_of_ble_eq_true rfl) d_Mo_copy_22 (fun H locs w3 fa18 e3 hP hS => ?_)
    have fa18 : w3 q = .inr (7, [.int (0 : Int32), .ref (ad (q + 1)), .ref (ad (q + 2)), .ref (ad (q + 3)), .ref (ad (q + 4)), .ref (ad (q + 5)), .ref (ad (q + 6)), .ref (ad (q + 7)), .ref (ad (q + 8)), .ref (ad (q + 9)), .int S.1.2.1, .ref (ad (q + 10)), .int S.1.2.1, .int S.1.2.2.2.1, .int S.1.2.2.2.2.1, .int S.1.2.2.2.2.2]) := fa18
    have at19 := cd_ByAt_keep at15 (fun k h1 h2 => e3 k (by omega))
    have at20 := cd_ByAt_keep at16 (fun k h1 h2 => e3 k (by omega))
    refine lv_iconst (v := (0 : Int32)) hx hb d_Mo_copy_25 (by decide) ?_
    refine lv_istore_n (lv' := [(1, .int (0 : Int32)), (0, .ref (ad q))]) hx hb d_Mo_copy_26 rfl hl (by decide) rfl (fun ls hl => ?_)
    exact L27 8193 (0 : Int32) (((0 : Int32), S.1.2.1, S.1.2.1, S.1.2.2.2.1, S.1.2.2.2.2.1, S.1.2.2.2.2.2), S.2) w3 (fun k hk => ((e3 k (by omega)).trans (e2 k (by omega)))) H locs ls (lv_sub hl [1, 0] rfl) (show (f_Mo_copy S ml) = f_Mo_copy_L27 S ml 8193 (0 : Int32) (((0 : Int32), S.1.2.1, S.1.2.1, S.1.2.2.2.1, S.1.2.2.2.2.1, S.1.2.2.2.2.2), S.2) by rw [f_Mo_copy, if_neg hc17]) (⟨hn12, fa18⟩) at19 at20 hP hS (ho.1 hc17)
  · refine lv_iconst (v := (0 : Int32)) hx hb d_Mo_copy_14 (by decide) ?_
    refine lv_goto (tgt := 22) hx hb d_Mo_copy_15 (by decide) ?_
    refine g_put (ci := 7) (C := R_Mo) (T := F_Mo) (Nf := 16) (v := .int (0 : Int32)) (ty := .int) hx hb hA in_Mo t_Mo t_Mo_ok n_Mo hown hK hP hS (k := q) (by omega) fa14 rfl 12 (by decide) (hA _ aw_572) (fun _ h9 => h9) rfl (by decide +kernel) rfl rfl (Nat.le_of_ble_eq_true rfl) d_Mo_copy_22 (fun H locs w4 fa21 e4 hP hS => ?_)
    have fa21 : w4 q = .inr (7, [.int (0 : Int32), .ref (ad (q + 1)), .ref (ad (q + 2)), .ref (ad (q + 3)), .ref (ad (q + 4)), .ref (ad (q + 5)), .ref (ad (q + 6)), .ref (ad (q + 7)), .ref (ad (q + 8)), .ref (ad (q + 9)), .int S.1.2.1, .ref (ad (q + 10)), .int (0 : Int32), .int S.1.2.2.2.1, .int S.1.2.2.2.2.1, .int S.1.2.2.2.2.2]) := fa21
    have at22 := cd_ByAt_keep at15 (fun k h1 h2 => e4 k (by omega))
    have at23 := cd_ByAt_keep at16 (fun k h1 h2 => e4 k (by omega))
    refine lv_iconst (v := (0 : Int32)) hx hb d_Mo_copy_25 (by decide) ?_
    refine lv_istore_n (lv' := [(1, .int (0 : Int32)), (0, .ref (ad q))]) hx hb d_Mo_copy_26 rfl hl (by decide) rfl (fun ls hl => ?_)
    exact L27 8193 (0 : Int32) (((0 : Int32), S.1.2.1, (0 : Int32), S.1.2.2.2.1, S.1.2.2.2.2.1, S.1.2.2.2.2.2), S.2) w4 (fun k hk => ((e4 k (by omega)).trans (e2 k (by omega)))) H locs ls (lv_sub hl [1, 0] rfl) (show (f_Mo_copy S ml) = f_Mo_copy_L27 S ml 8193 (0 : Int32) (((0 : Int32), S.1.2.1, (0 : Int32), S.1.2.2.2.1, S.1.2.2.2.2.1, S.1.2.2.2.2.2), S.2) by rw [f_Mo_copy, if_pos hc17]) (⟨hn12, fa21⟩) at22 at23 hP hS (ho.2 hc17)
def f_Mo_put (S : cd_Mo × cd_By) (k0 : Int32) (k1 : Int32) : Int32 × cd_Mo × cd_By := (if k0 < 0 then ((0 : Int32), ((0 : Int32), S.1.2.1, S.1.2.2.1, S.1.2.2.2.1, S.1.2.2.2.2.1, S.1.2.2.2.2.2), S.2) else (if S.1.2.2.1 < k0 then ((0 : Int32), ((0 : Int32), S.1.2.1, S.1.2.2.1, S.1.2.2.2.1, S.1.2.2.2.2.1, S.1.2.2.2.2.2), S.2) else (if k0 = (8192 : Int32) then ((0 : Int32), ((0 : Int32), S.1.2.1, S.1.2.2.1, S.1.2.2.2.1, S.1.2.2.2.2.1, S.1.2.2.2.2.2), S.2) else (if k0 = S.1.2.2.1 then ((1 : Int32), ((0 : Int32), S.1.2.1, (k0 + (1 : Int32)), S.1.2.2.2.1, S.1.2.2.2.2.1, S.1.2.2.2.2.2), (upd S.2 k0.toNatClampNeg (vp_nar .byte k1.toInt8.toInt32))) else ((1 : Int32), ((0 : Int32), S.1.2.1, S.1.2.2.1, S.1.2.2.2.1, S.1.2.2.2.2.1, S.1.2.2.2.2.2), (upd S.2 k0.toNatClampNeg (vp_nar .byte k1.toInt8.toInt32)))))))
def o_Mo_put (S : cd_Mo × cd_By) (k0 : Int32) (k1 : Int32) : Prop := (¬ k0 < 0 → ¬ S.1.2.2.1 < k0 → ¬ k0 = (8192 : Int32) → vp_in k0 8192)
set_option maxHeartbeats 4000000 in
set_option maxRecDepth 100000 in
theorem c_Mo_put (l : Launch) (D : va_G) (tt : Nat → ClassId) (ad : Nat → Nat) (N : Nat) (A : Nat → Prop) (zs : Nat → Nat) (w0 : Nat → va_E) (q : Nat) (S : cd_Mo × cd_By) (k0 : Int32) (k1 : Int32) (hR0 : cd_MoAt N tt ad w0 q S.1) (hR1 : cd_ByAt N tt ad w0 (q + 10) 8192 S.2) (ho : o_Mo_put S k0 k1) : Met l y_Mo_put w_Mo_put ({ frames := 0, cells := 0, slots := 0, locals := 0 }) (va_Pc [.ref (ad q), .int k0, .int k1] (cd_U D tt ad N A zs w0)) (va_Qi (fun r w' => (f_Mo_put S k0 k1).1 = r ∧ (r = 0 ∨ r = 1) ∧ cd_MoAt N tt ad w' q ((f_Mo_put S k0 k1).2.1) ∧ cd_ByAt N tt ad w' (q + 10) 8192 ((f_Mo_put S k0 k1).2.2) ∧ (∀ k : Nat, (k < q ∨ q + 1 ≤ k) ∧ (k < (q + 10) ∨ (q + 10) + 1 ≤ k) → w' k = w0 k)) (fun w' t => cd_P D ad N A w' t.heap) A) 0 0 A := by
  refine Met.ofW (cc := b_Mo_put) (maxL := 3) (ret := (some .boolean)) (by decide) rfl ?_
  intro p e s m args below meth c s₁ B hml hv
  obtain ⟨rfl, hP, hK, hZ⟩ := hv
  have hx := B.exec
  have hb := B.bytes
  have hr := B.returns
  have hA : ∀ w ∈ cd_AW, w.before _ s = true := fun w h => atoms_spec (ws := w_Mo_put) B.pre w (List.mem_cons_of_mem _ h)
  have hown : s.vm.findClass R_Mo = some m.cls := findClass_of_methodNamed B.named
  have hlocks := B.notSynchronized
  have hS : va_S A s.heap s.heap [] := va_S.rf
  have hl := lv_entry ([.ref (ad q), .int k0, .int k1]) (n := 3) (Nat.le_of_ble_eq_true rfl)
  rw [lg_entry_eq]
  generalize (lg_sl ([.ref (ad q), .int k0, .int k1]) ++ List.replicate (3 - (lg_sl ([.ref (ad q), .int k0, .int k1])).length) Slot.unset).toArray = ls at hl ⊢
  have hl : lv_has ls 3 [(0, .ref (ad q)), (1, .int k0), (2, .int k1)] := hl
  have ho : (¬ k0 < 0 → ¬ S.1.2.2.1 < k0 → ¬ k0 = (8192 : Int32) → vp_in k0 8192) := ho
  obtain ⟨hn1, fa2⟩ := hR0
  refine lv_aload_n hx hb d_Mo_put_0 rfl (lv_at hl 0 rfl) ?_
  refine lv_iconst (v := (0 : Int32)) hx hb d_Mo_put_1 (by decide) ?_
  refine g_put (ci := 7) (C := R_Mo) (T := F_Mo) (Nf := 16) (v := .int (0 : Int32)) (ty := .int) hx hb hA in_Mo t_Mo t_Mo_ok n_Mo hown hK hP hS (k := q) (by omega) fa2 rfl 0 (by decide) (hA _ aw_560) (fun _ h9 => h9) rfl (by decide +kernel) rfl rfl (Nat.le_of_ble_eq_true rfl) d_Mo_put_2 (fun H locs w1 fa3 e1 hP hS => ?_)
  have fa3 : w1 q = .inr (7, [.int (0 : Int32), .ref (ad (q + 1)), .ref (ad (q + 2)), .ref (ad (q + 3)), .ref (ad (q + 4)), .ref (ad (q + 5)), .ref (ad (q + 6)), .ref (ad (q + 7)), .ref (ad (q + 8)), .ref (ad (q + 9)), .int S.1.2.1, .ref (ad (q + 10)), .int S.1.2.2.1, .int S.1.2.2.2.1, .int S.1.2.2.2.2.1, .int S.1.2.2.2.2.2]) := fa3
  have at4 := cd_ByAt_keep hR1 (fun k h1 h2 => e1 k (by omega))
  refine lv_iload_n hx hb d_Mo_put_5 rfl (lv_at hl 1 rfl) ?_
  refine lv_if_lt (tgt := 24) hx hb d_Mo_put_6 (by decide) (fun hc5 => ?_) (fun hc5 => ?_)
  · refine lv_iconst (v := (0 : Int32)) hx hb d_Mo_put_24 (by decide) ?_
    have hf6 : (f_Mo_put S k0 k1) = ((0 : Int32), ((0 : Int32), S.1.2.1, S.1.2.2.1, S.1.2.2.2.1, S.1.2.2.2.2.1, S.1.2.2.2.2.2), S.2) := by rw [f_Mo_put, if_pos hc5]
    exact W.zret (ty := .boolean) (v := (0 : Int32)) hx hb hr rfl (fun tE ht _ => ⟨⟨_, w1, rfl, ⟨(by rw [hf6]), (Or.inl rfl), (by rw [hf6]; exact ⟨hn1, fa3⟩), (by rw [hf6]; exact at4), (fun k hk => (e1 k (by omega)))⟩, cd_Pt ht hP⟩, hS.F ht⟩) hS.2.2 d_Mo_put_25
  · refine lv_iload_n hx hb d_Mo_put_9 rfl (lv_at hl 1 rfl) ?_
    refine lv_aload_n hx hb d_Mo_put_10 rfl (lv_at hl 0 rfl) ?_
    refine g_get (ci := 7) (C := R_Mo) (T := F_Mo) (Nf := 16) (v := .int S.1.2.2.1) hx hb hA in_Mo hown hK hP (k := q) (by omega) fa3 rfl 12 (by decide) (hA _ aw_572) (fun _ h9 => h9) rfl d_Mo_put_11 ?_
    refine lv_icmp_gt (tgt := 24) hx hb d_Mo_put_14 (by decide) (fun hc7 => ?_) (fun hc7 => ?_)
    · refine lv_iconst (v := (0 : Int32)) hx hb d_Mo_put_24 (by decide) ?_
      have hf8 : (f_Mo_put S k0 k1) = ((0 : Int32), ((0 : Int32), S.1.2.1, S.1.2.2.1, S.1.2.2.2.1, S.1.2.2.2.2.1, S.1.2.2.2.2.2), S.2) := by rw [f_Mo_put, if_neg hc5, if_pos hc7]
      exact W.zret (ty := .boolean) (v := (0 : Int32)) hx hb hr rfl (fun tE ht _ => ⟨⟨_, w1, rfl, ⟨(by rw [hf8]), (Or.inl rfl), (by rw [hf8]; exact ⟨hn1, fa3⟩), (by rw [hf8]; exact at4), (fun k hk => (e1 k (by omega)))⟩, cd_Pt ht hP⟩, hS.F ht⟩) hS.2.2 d_Mo_put_25
    · refine lv_iload_n hx hb d_Mo_put_17 rfl (lv_at hl 1 rfl) ?_
      refine lv_sipush (v := (8192 : Int32)) hx hb d_Mo_put_18 (by decide) ?_
      refine lv_icmp_ne (tgt := 26) hx hb d_Mo_put_21 (by decide) (fun hc9 => ?_) (fun hc9 => ?_)
      · refine lv_aload_n hx hb d_Mo_put_26 rfl (lv_at hl 0 rfl) ?_
        refine g_get (ci := 7) (C := R_Mo) (T := F_Mo) (Nf := 16) (v := .ref (ad (q + 10))) hx hb hA in_Mo hown hK hP (k := q) (by omega) fa3 rfl 11 (by decide) (hA _ aw_571) (fun _ h9 => h9) rfl d_Mo_put_27 ?_
        refine lv_iload_n hx hb d_Mo_put_30 rfl (lv_at hl 1 rfl) ?_
        refine lv_iload_n hx hb d_Mo_put_31 rfl (lv_at hl 2 rfl) ?_
        refine lv_i2b hx hb d_Mo_put_32 rfl ?_
        obtain ⟨hn10, fa11⟩ := at4
        refine g_bast hx hb hK hP hS (k := (q + 10)) (by omega) fa11 rfl (ho hc5 hc7 hc9) d_Mo_put_33 (fun H locs w2 fa12 e2 hP hS => ?_)
        have fa13 := (e2 q (by omega)).trans fa3
        refine lv_aload_n hx hb d_Mo_put_34 rfl (lv_at hl 0 rfl) ?_
        refine lv_iload_n hx hb d_Mo_put_35 rfl (lv_at hl 1 rfl) ?_
        refine lv_aload_n hx hb d_Mo_put_36 rfl (lv_at hl 0 rfl) ?_
        refine g_get (ci := 7) (C := R_Mo) (T := F_Mo) (Nf := 16) (v := .int S.1.2.2.1) hx hb hA in_Mo hown hK hP (k := q) (by omega) fa13 rfl 12 (by decide) (hA _ aw_572) (fun _ h9 => h9) rfl d_Mo_put_37 ?_
        refine lv_icmp_ne (tgt := 49) hx hb d_Mo_put_40 (by decide) (fun hc14 => ?_) (fun hc14 => ?_)
        · refine lv_aload_n hx hb d_Mo_put_49 rfl (lv_at hl 0 rfl) ?_
          refine g_get (ci := 7) (C := R_Mo) (T := F_Mo) (Nf := 16) (v := .int S.1.2.2.1) hx hb hA in_Mo hown hK hP (k := q) (by omega) fa13 rfl 12 (by decide) (hA _ aw_572) (fun _ h9 => h9) rfl d_Mo_put_50 ?_
          refine g_put (ci := 7) (C := R_Mo) (T := F_Mo) (Nf := 16) (v := .int S.1.2.2.1) (ty := .int) hx hb hA in_Mo t_Mo t_Mo_ok n_Mo hown hK hP hS (k := q) (by omega) fa13 rfl 12 (by decide) (hA _ aw_572) (fun _ h9 => h9) rfl (by decide +kernel) rfl rfl (Nat.le_of_ble_eq_true rfl) d_Mo_put_53 (fun H locs w3 fa15 e3 hP hS => ?_)
          have fa15 : w3 q = .inr (7, [.int (0 : Int32), .ref (ad (q + 1)), .ref (ad (q + 2)), .ref (ad (q + 3)), .ref (ad (q + 4)), .ref (ad (q + 5)), .ref (ad (q + 6)), .ref (ad (q + 7)), .ref (ad (q + 8)), .ref (ad (q + 9)), .int S.1.2.1, .ref (ad (q + 10)), .int S.1.2.2.1, .int S.1.2.2.2.1, .int S.1.2.2.2.2.1, .int S.1.2.2.2.2.2]) := fa15
          have fa16 := (e3 (q + 10) (by omega)).trans fa12
          refine lv_iconst (v := (1 : Int32)) hx hb d_Mo_put_56 (by decide) ?_
          have hf17 : (f_Mo_put S k0 k1) = ((1 : Int32), ((0 : Int32), S.1.2.1, S.1.2.2.1, S.1.2.2.2.1, S.1.2.2.2.2.1, S.1.2.2.2.2.2), (upd S.2 k0.toNatClampNeg (vp_nar .byte k1.toInt8.toInt32))) := by rw [f_Mo_put, if_neg hc5, if_neg hc7, if_neg hc9, if_neg hc14]
          exact W.zret (ty := .boolean) (v := (1 : Int32)) hx hb hr rfl (fun tE ht _ => ⟨⟨_, w3, rfl, ⟨(by rw [hf17]), (Or.inr rfl), (by rw [hf17]; exact ⟨hn1, fa15⟩), (by rw [hf17]; exact ⟨hn10, fa16⟩), (fun k hk => ((e3 k (by omega)).trans ((e2 k (by omega)).trans (e1 k (by omega)))))⟩, cd_Pt ht hP⟩, hS.F ht⟩) hS.2.2 d_Mo_put_57
        · refine lv_iload_n hx hb d_Mo_put_43 rfl (lv_at hl 1 rfl) ?_
          refine lv_iconst (v := (1 : Int32)) hx hb d_Mo_put_44 (by decide) ?_
          refine lv_iadd hx hb d_Mo_put_45 ?_
          refine lv_goto (tgt := 53) hx hb d_Mo_put_46 (by decide) ?_
          refine g_put (ci := 7) (C := R_Mo) (T := F_Mo) (Nf := 16) (v := .int (k0 + (1 : Int32))) (ty := .int) hx hb hA in_Mo t_Mo t_Mo_ok n_Mo hown hK hP hS (k := q) (by omega) fa13 rfl 12 (by decide) (hA _ aw_572) (fun _ h9 => h9) rfl (by decide +kernel) rfl rfl (Nat.le_of_ble_eq_true rfl) d_Mo_put_53 (fun H locs w4 fa18 e4 hP hS => ?_)
          have fa18 : w4 q = .inr (7, [.int (0 : Int32), .ref (ad (q + 1)), .ref (ad (q + 2)), .ref (ad (q + 3)), .ref (ad (q + 4)), .ref (ad (q + 5)), .ref (ad (q + 6)), .ref (ad (q + 7)), .ref (ad (q + 8)), .ref (ad (q + 9)), .int S.1.2.1, .ref (ad (q + 10)), .int (k0 + (1 : Int32)), .int S.1.2.2.2.1, .int S.1.2.2.2.2.1, .int S.1.2.2.2.2.2]) := fa18
          have fa19 := (e4 (q + 10) (by omega)).trans fa12
          refine lv_iconst (v := (1 : Int32)) hx hb d_Mo_put_56 (by decide) ?_
          have hf20 : (f_Mo_put S k0 k1) = ((1 : Int32), ((0 : Int32), S.1.2.1, (k0 + (1 : Int32)), S.1.2.2.2.1, S.1.2.2.2.2.1, S.1.2.2.2.2.2), (upd S.2 k0.toNatClampNeg (vp_nar .byte k1.toInt8.toInt32))) := by rw [f_Mo_put, if_neg hc5, if_neg hc7, if_neg hc9, if_pos hc14]
          exact W.zret (ty := .boolean) (v := (1 : Int32)) hx hb hr rfl (fun tE ht _ => ⟨⟨_, w4, rfl, ⟨(by rw [hf20]), (Or.inr rfl), (by rw [hf20]; exact ⟨hn1, fa18⟩), (by rw [hf20]; exact ⟨hn10, fa19⟩), (fun k hk => ((e4 k (by omega)).trans ((e2 k (by omega)).trans (e1 k (by omega)))))⟩, cd_Pt ht hP⟩, hS.F ht⟩) hS.2.2 d_Mo_put_57
      · refine lv_iconst (v := (0 : Int32)) hx hb d_Mo_put_24 (by decide) ?_
        have hf21 : (f_Mo_put S k0 k1) = ((0 : Int32), ((0 : Int32), S.1.2.1, S.1.2.2.1, S.1.2.2.2.1, S.1.2.2.2.2.1, S.1.2.2.2.2.2), S.2) := by rw [f_Mo_put, if_neg hc5, if_neg hc7, if_pos hc9]
        exact W.zret (ty := .boolean) (v := (0 : Int32)) hx hb hr rfl (fun tE ht _ => ⟨⟨_, w1, rfl, ⟨(by rw [hf21]), (Or.inl rfl), (by rw [hf21]; exact ⟨hn1, fa3⟩), (by rw [hf21]; exact at4), (fun k hk => (e1 k (by omega)))⟩, cd_Pt ht hP⟩, hS.F ht⟩) hS.2.2 d_Mo_put_25
def f_Mo_cut (u : cd_Mo) (k0 : Int32) : Int32 × cd_Mo := (if k0 < 0 then ((0 : Int32), ((0 : Int32), u.2.1, u.2.2.1, u.2.2.2.1, u.2.2.2.2.1, u.2.2.2.2.2)) else (if k0 ≤ u.2.2.1 then ((1 : Int32), ((0 : Int32), u.2.1, k0, u.2.2.2.1, u.2.2.2.2.1, u.2.2.2.2.2)) else ((0 : Int32), ((0 : Int32), u.2.1, u.2.2.1, u.2.2.2.1, u.2.2.2.2.1, u.2.2.2.2.2))))
set_option maxHeartbeats 4000000 in
set_option maxRecDepth 100000 in
theorem c_Mo_cut (l : Launch) (D : va_G) (tt : Nat → ClassId) (ad : Nat → Nat) (N : Nat) (A : Nat → Prop) (zs : Nat → Nat) (w0 : Nat → va_E) (q : Nat) (u : cd_Mo) (k0 : Int32) (hR0 : cd_MoAt N tt ad w0 q u) : Met l y_Mo_cut w_Mo_cut ({ frames := 0, cells := 0, slots := 0, locals := 0 }) (va_Pc [.ref (ad q), .int k0] (cd_U D tt ad N A zs w0)) (va_Qi (fun r w' => (f_Mo_cut u k0).1 = r ∧ (r = 0 ∨ r = 1) ∧ cd_MoAt N tt ad w' q ((f_Mo_cut u k0).2) ∧ (∀ k : Nat, (k < q ∨ q + 1 ≤ k) → w' k = w0 k)) (fun w' t => cd_P D ad N A w' t.heap) A) 0 0 A := by
  refine Met.ofW (cc := b_Mo_cut) (maxL := 2) (ret := (some .boolean)) (by decide) rfl ?_
  intro p e s m args below meth c s₁ B hml hv
  obtain ⟨rfl, hP, hK, hZ⟩ := hv
  have hx := B.exec
  have hb := B.bytes
  have hr := B.returns
  have hA : ∀ w ∈ cd_AW, w.before _ s = true := fun w h => atoms_spec (ws := w_Mo_cut) B.pre w (List.mem_cons_of_mem _ h)
  have hown : s.vm.findClass R_Mo = some m.cls := findClass_of_methodNamed B.named
  have hlocks := B.notSynchronized
  have hS : va_S A s.heap s.heap [] := va_S.rf
  have hl := lv_entry ([.ref (ad q), .int k0]) (n := 2) (Nat.le_of_ble_eq_true rfl)
  rw [lg_entry_eq]
  generalize (lg_sl ([.ref (ad q), .int k0]) ++ List.replicate (2 - (lg_sl ([.ref (ad q), .int k0])).length) Slot.unset).toArray = ls at hl ⊢
  have hl : lv_has ls 2 [(0, .ref (ad q)), (1, .int k0)] := hl
  obtain ⟨hn1, fa2⟩ := hR0
  refine lv_aload_n hx hb d_Mo_cut_0 rfl (lv_at hl 0 rfl) ?_
  refine lv_iconst (v := (0 : Int32)) hx hb d_Mo_cut_1 (by decide) ?_
  refine g_put (ci := 7) (C := R_Mo) (T := F_Mo) (Nf := 16) (v := .int (0 : Int32)) (ty := .int) hx hb hA in_Mo t_Mo t_Mo_ok n_Mo hown hK hP hS (k := q) (by omega) fa2 rfl 0 (by decide) (hA _ aw_560) (fun _ h9 => h9) rfl (by decide +kernel) rfl rfl (Nat.le_of_ble_eq_true rfl) d_Mo_cut_2 (fun H locs w1 fa3 e1 hP hS => ?_)
  have fa3 : w1 q = .inr (7, [.int (0 : Int32), .ref (ad (q + 1)), .ref (ad (q + 2)), .ref (ad (q + 3)), .ref (ad (q + 4)), .ref (ad (q + 5)), .ref (ad (q + 6)), .ref (ad (q + 7)), .ref (ad (q + 8)), .ref (ad (q + 9)), .int u.2.1, .ref (ad (q + 10)), .int u.2.2.1, .int u.2.2.2.1, .int u.2.2.2.2.1, .int u.2.2.2.2.2]) := fa3
  refine lv_iload_n hx hb d_Mo_cut_5 rfl (lv_at hl 1 rfl) ?_
  refine lv_if_lt (tgt := 17) hx hb d_Mo_cut_6 (by decide) (fun hc4 => ?_) (fun hc4 => ?_)
  · refine lv_iconst (v := (0 : Int32)) hx hb d_Mo_cut_17 (by decide) ?_
    have hf5 : (f_Mo_cut u k0) = ((0 : Int32), ((0 : Int32), u.2.1, u.2.2.1, u.2.2.2.1, u.2.2.2.2.1, u.2.2.2.2.2)) := by rw [f_Mo_cut, if_pos hc4]
    exact W.zret (ty := .boolean) (v := (0 : Int32)) hx hb hr rfl (fun tE ht _ => ⟨⟨_, w1, rfl, ⟨(by rw [hf5]), (Or.inl rfl), (by rw [hf5]; exact ⟨hn1, fa3⟩), (fun k hk => (e1 k (by omega)))⟩, cd_Pt ht hP⟩, hS.F ht⟩) hS.2.2 d_Mo_cut_18
  · refine lv_iload_n hx hb d_Mo_cut_9 rfl (lv_at hl 1 rfl) ?_
    refine lv_aload_n hx hb d_Mo_cut_10 rfl (lv_at hl 0 rfl) ?_
    refine g_get (ci := 7) (C := R_Mo) (T := F_Mo) (Nf := 16) (v := .int u.2.2.1) hx hb hA in_Mo hown hK hP (k := q) (by omega) fa3 rfl 12 (by decide) (hA _ aw_572) (fun _ h9 => h9) rfl d_Mo_cut_11 ?_
    refine lv_icmp_le (tgt := 19) hx hb d_Mo_cut_14 (by decide) (fun hc6 => ?_) (fun hc6 => ?_)
    · refine lv_aload_n hx hb d_Mo_cut_19 rfl (lv_at hl 0 rfl) ?_
      refine lv_iload_n hx hb d_Mo_cut_20 rfl (lv_at hl 1 rfl) ?_
      refine g_put (ci := 7) (C := R_Mo) (T := F_Mo) (Nf := 16) (v := .int k0) (ty := .int) hx hb hA in_Mo t_Mo t_Mo_ok n_Mo hown hK hP hS (k := q) (by omega) fa3 rfl 12 (by decide) (hA _ aw_572) (fun _ h9 => h9) rfl (by decide +kernel) rfl rfl (Nat.le_of_ble_eq_true rfl) d_Mo_cut_21 (fun H locs w2 fa7 e2 hP hS => ?_)
      have fa7 : w2 q = .inr (7, [.int (0 : Int32), .ref (ad (q + 1)), .ref (ad (q + 2)), .ref (ad (q + 3)), .ref (ad (q + 4)), .ref (ad (q + 5)), .ref (ad (q + 6)), .ref (ad (q + 7)), .ref (ad (q + 8)), .ref (ad (q + 9)), .int u.2.1, .ref (ad (q + 10)), .int k0, .int u.2.2.2.1, .int u.2.2.2.2.1, .int u.2.2.2.2.2]) := fa7
      refine lv_iconst (v := (1 : Int32)) hx hb d_Mo_cut_24 (by decide) ?_
      have hf8 : (f_Mo_cut u k0) = ((1 : Int32), ((0 : Int32), u.2.1, k0, u.2.2.2.1, u.2.2.2.2.1, u.2.2.2.2.2)) := by rw [f_Mo_cut, if_neg hc4, if_pos hc6]
      exact W.zret (ty := .boolean) (v := (1 : Int32)) hx hb hr rfl (fun tE ht _ => ⟨⟨_, w2, rfl, ⟨(by rw [hf8]), (Or.inr rfl), (by rw [hf8]; exact ⟨hn1, fa7⟩), (fun k hk => ((e2 k (by omega)).trans (e1 k (by omega))))⟩, cd_Pt ht hP⟩, hS.F ht⟩) hS.2.2 d_Mo_cut_25
    · refine lv_iconst (v := (0 : Int32)) hx hb d_Mo_cut_17 (by decide) ?_
      have hf9 : (f_Mo_cut u k0) = ((0 : Int32), ((0 : Int32), u.2.1, u.2.2.1, u.2.2.2.1, u.2.2.2.2.1, u.2.2.2.2.2)) := by rw [f_Mo_cut, if_neg hc4, if_neg hc6]
      exact W.zret (ty := .boolean) (v := (0 : Int32)) hx hb hr rfl (fun tE ht _ => ⟨⟨_, w1, rfl, ⟨(by rw [hf9]), (Or.inl rfl), (by rw [hf9]; exact ⟨hn1, fa3⟩), (fun k hk => (e1 k (by omega)))⟩, cd_Pt ht hP⟩, hS.F ht⟩) hS.2.2 d_Mo_cut_18
def f_Mo_twoAt (u : cd_Mo) (mp : cd_By) (k0 : Int32) : Int32 := (((mp k0.toNatClampNeg) &&& (255 : Int32)) ||| (((mp (k0 + (1 : Int32)).toNatClampNeg) &&& (255 : Int32)) <<< ((8 : Int32) &&& 31)))
def o_Mo_twoAt (u : cd_Mo) (mp : cd_By) (k0 : Int32) : Prop := (vp_in k0 8192) ∧ (vp_in (k0 + (1 : Int32)) 8192)
set_option maxHeartbeats 4000000 in
set_option maxRecDepth 100000 in
theorem c_Mo_twoAt (l : Launch) (D : va_G) (tt : Nat → ClassId) (ad : Nat → Nat) (N : Nat) (A : Nat → Prop) (zs : Nat → Nat) (w0 : Nat → va_E) (q : Nat) (u : cd_Mo) (mp : cd_By) (k0 : Int32) (hR0 : cd_MoAt N tt ad w0 q u) (hR1 : cd_ByAt N tt ad w0 (q + 10) 8192 mp) (ho : o_Mo_twoAt u mp k0) : Met l y_Mo_twoAt w_Mo_twoAt ({ frames := 0, cells := 0, slots := 0, locals := 0 }) (va_Pc [.ref (ad q), .int k0] (cd_U D tt ad N A zs w0)) (va_Qi (fun r w' => (f_Mo_twoAt u mp k0) = r ∧ w0 = w') (fun w' t => cd_P D ad N A w' t.heap) A) 0 0 A := by
  refine Met.ofW (cc := b_Mo_twoAt) (maxL := 2) (ret := (some .int)) (by decide) rfl ?_
  intro p e s m args below meth c s₁ B hml hv
  obtain ⟨rfl, hP, hK, hZ⟩ := hv
  have hx := B.exec
  have hb := B.bytes
  have hr := B.returns
  have hA : ∀ w ∈ cd_AW, w.before _ s = true := fun w h => atoms_spec (ws := w_Mo_twoAt) B.pre w (List.mem_cons_of_mem _ h)
  have hown : s.vm.findClass R_Mo = some m.cls := findClass_of_methodNamed B.named
  have hlocks := B.notSynchronized
  have hS : va_S A s.heap s.heap [] := va_S.rf
  have hl := lv_entry ([.ref (ad q), .int k0]) (n := 2) (Nat.le_of_ble_eq_true rfl)
  rw [lg_entry_eq]
  generalize (lg_sl ([.ref (ad q), .int k0]) ++ List.replicate (2 - (lg_sl ([.ref (ad q), .int k0])).length) Slot.unset).toArray = ls at hl ⊢
  have hl : lv_has ls 2 [(0, .ref (ad q)), (1, .int k0)] := hl
  have ho : (vp_in k0 8192) ∧ (vp_in (k0 + (1 : Int32)) 8192) := ho
  obtain ⟨hn1, fa2⟩ := hR0
  refine lv_aload_n hx hb d_Mo_twoAt_0 rfl (lv_at hl 0 rfl) ?_
  refine g_get (ci := 7) (C := R_Mo) (T := F_Mo) (Nf := 16) (v := .ref (ad (q + 10))) hx hb hA in_Mo hown hK hP (k := q) (by omega) fa2 rfl 11 (by decide) (hA _ aw_571) (fun _ h9 => h9) rfl d_Mo_twoAt_1 ?_
  refine lv_iload_n hx hb d_Mo_twoAt_4 rfl (lv_at hl 1 rfl) ?_
  obtain ⟨hn3, fa4⟩ := hR1
  refine g_bald hx hb hK hP (k := (q + 10)) (by omega) fa4 rfl (ho.1) d_Mo_twoAt_5 ?_
  refine lv_sipush (v := (255 : Int32)) hx hb d_Mo_twoAt_6 (by decide) ?_
  refine lv_iand hx hb d_Mo_twoAt_9 ?_
  refine lv_aload_n hx hb d_Mo_twoAt_10 rfl (lv_at hl 0 rfl) ?_
  refine g_get (ci := 7) (C := R_Mo) (T := F_Mo) (Nf := 16) (v := .ref (ad (q + 10))) hx hb hA in_Mo hown hK hP (k := q) (by omega) fa2 rfl 11 (by decide) (hA _ aw_571) (fun _ h9 => h9) rfl d_Mo_twoAt_11 ?_
  refine lv_iload_n hx hb d_Mo_twoAt_14 rfl (lv_at hl 1 rfl) ?_
  refine lv_iconst (v := (1 : Int32)) hx hb d_Mo_twoAt_15 (by decide) ?_
  refine lv_iadd hx hb d_Mo_twoAt_16 ?_
  refine g_bald hx hb hK hP (k := (q + 10)) (by omega) fa4 rfl (ho.2) d_Mo_twoAt_17 ?_
  refine lv_sipush (v := (255 : Int32)) hx hb d_Mo_twoAt_18 (by decide) ?_
  refine lv_iand hx hb d_Mo_twoAt_21 ?_
  refine lv_bipush (v := (8 : Int32)) hx hb d_Mo_twoAt_22 (by decide) ?_
  refine lv_ishl hx hb d_Mo_twoAt_24 ?_
  refine lv_ior hx hb d_Mo_twoAt_25 ?_
  have hf5 : (f_Mo_twoAt u mp k0) = (((mp k0.toNatClampNeg) &&& (255 : Int32)) ||| (((mp (k0 + (1 : Int32)).toNatClampNeg) &&& (255 : Int32)) <<< ((8 : Int32) &&& 31))) := by rw [f_Mo_twoAt]
  exact W.iret (v := (((mp k0.toNatClampNeg) &&& (255 : Int32)) ||| (((mp (k0 + (1 : Int32)).toNatClampNeg) &&& (255 : Int32)) <<< ((8 : Int32) &&& 31)))) hx hb hr (fun tE ht _ => ⟨⟨_, w0, rfl, ⟨hf5, rfl⟩, cd_Pt ht hP⟩, hS.F ht⟩) hS.2.2 d_Mo_twoAt_26
def f_Mo_fourAt (u : cd_Mo) (mp : cd_By) (k0 : Int32) : Int32 := ((f_Mo_twoAt u mp k0) ||| ((f_Mo_twoAt u mp (k0 + (2 : Int32))) <<< ((16 : Int32) &&& 31)))
def o_Mo_fourAt (u : cd_Mo) (mp : cd_By) (k0 : Int32) : Prop := (o_Mo_twoAt u mp k0) ∧ (o_Mo_twoAt u mp (k0 + (2 : Int32)))
set_option maxHeartbeats 4000000 in
set_option maxRecDepth 100000 in
theorem c_Mo_fourAt (l : Launch) (D : va_G) (tt : Nat → ClassId) (ad : Nat → Nat) (N : Nat) (A : Nat → Prop) (zs : Nat → Nat) (w0 : Nat → va_E) (q : Nat) (u : cd_Mo) (mp : cd_By) (k0 : Int32) (hR0 : cd_MoAt N tt ad w0 q u) (hR1 : cd_ByAt N tt ad w0 (q + 10) 8192 mp) (ho : o_Mo_fourAt u mp k0) : Met l y_Mo_fourAt w_Mo_fourAt ({ frames := 1, cells := 0, slots := 0, locals := 21 }) (va_Pc [.ref (ad q), .int k0] (cd_U D tt ad N A zs w0)) (va_Qi (fun r w' => (f_Mo_fourAt u mp k0) = r ∧ w0 = w') (fun w' t => cd_P D ad N A w' t.heap) A) 0 0 A := by
  refine Met.ofW (cc := b_Mo_fourAt) (maxL := 2) (ret := (some .int)) (by decide) rfl ?_
  intro p e s m args below meth c s₁ B hml hv
  obtain ⟨rfl, hP, hK, hZ⟩ := hv
  have hx := B.exec
  have hb := B.bytes
  have hr := B.returns
  have hA : ∀ w ∈ cd_AW, w.before _ s = true := fun w h => atoms_spec (ws := w_Mo_fourAt) B.pre w (List.mem_cons_of_mem _ h)
  have hown : s.vm.findClass R_Mo = some m.cls := findClass_of_methodNamed B.named
  have hlocks := B.notSynchronized
  have hS : va_S A s.heap s.heap [] := va_S.rf
  have hl := lv_entry ([.ref (ad q), .int k0]) (n := 2) (Nat.le_of_ble_eq_true rfl)
  rw [lg_entry_eq]
  generalize (lg_sl ([.ref (ad q), .int k0]) ++ List.replicate (2 - (lg_sl ([.ref (ad q), .int k0])).length) Slot.unset).toArray = ls at hl ⊢
  have hl : lv_has ls 2 [(0, .ref (ad q)), (1, .int k0)] := hl
  have ho : (o_Mo_twoAt u mp k0) ∧ (o_Mo_twoAt u mp (k0 + (2 : Int32))) := ho
  obtain ⟨hn1, fa2⟩ := hR0
  refine lv_aload_n hx hb d_Mo_fourAt_0 rfl (lv_at hl 0 rfl) ?_
  refine lv_iload_n hx hb d_Mo_fourAt_1 rfl (lv_at hl 1 rfl) ?_
  refine va_calli (va_runV (As := [.int k0]) (rest := []) ⟨hx, hb, hml, hown, hA⟩ (c_Mo_twoAt l D tt ad N A zs w0 q u mp k0 (⟨hn1, fa2⟩) hR1 (ho.1)) (cwV 1 hA (cd_gV aw_687 aw_688 aw_797 aw_8 aw_689) rfl rfl rfl ⟨rfl, by decide, by decide, by decide +kernel⟩ ⟨Nat.le_of_ble_eq_true rfl, Nat.le_of_ble_eq_true rfl⟩) ⟨cd_blind, cd_recv hK hP (k := q) (by omega) fa2 rfl, fun U hU hW => ⟨rfl, cd_pre hK hP hZ hS U hU hW⟩⟩ rfl rfl hl.1 rfl (lv_room (Nat.le_of_ble_eq_true rfl)) d_Mo_fourAt_2 ⟨Nat.zero_le _, Nat.zero_le _⟩) hS (fun _ _ h => h) (fun _ h => h) (fun r3 w1 tE H locs ht hvm hr4 hP hz1 hk1 hS => ?_)
  have hP := cd_Pf ht hP
  obtain ⟨rfl, rfl⟩ := hr4
  refine lv_aload_n hx hb d_Mo_fourAt_5 rfl (lv_at hl 0 rfl) ?_
  refine lv_iload_n hx hb d_Mo_fourAt_6 rfl (lv_at hl 1 rfl) ?_
  refine lv_iconst (v := (2 : Int32)) hx hb d_Mo_fourAt_7 (by decide) ?_
  refine lv_iadd hx hb d_Mo_fourAt_8 ?_
  refine va_calli (va_runV (As := [.int (k0 + (2 : Int32))]) (rest := [.int (f_Mo_twoAt u mp k0)]) ⟨hx, hb, hml, hown, hA⟩ (c_Mo_twoAt l D tt ad N A zs w0 q u mp (k0 + (2 : Int32)) (⟨hn1, fa2⟩) hR1 (ho.2)) (cwV 1 hA (cd_gV aw_687 aw_688 aw_797 aw_8 aw_689) rfl rfl rfl ⟨rfl, by decide, by decide, by decide +kernel⟩ ⟨Nat.le_of_ble_eq_true rfl, Nat.le_of_ble_eq_true rfl⟩) ⟨cd_blind, cd_recv hK hP (k := q) (by omega) fa2 rfl, fun U hU hW => ⟨rfl, cd_pre hK hP hZ hS U hU hW⟩⟩ rfl rfl hl.1 rfl (lv_room (Nat.le_of_ble_eq_true rfl)) d_Mo_fourAt_9 ⟨Nat.zero_le _, Nat.zero_le _⟩) hS (fun _ _ h => h) (fun _ h => h) (fun r6 w2 tE H locs ht hvm hr7 hP hz1 hk1 hS => ?_)
  have hP := cd_Pf ht hP
  obtain ⟨rfl, rfl⟩ := hr7
  refine lv_bipush (v := (16 : Int32)) hx hb d_Mo_fourAt_12 (by decide) ?_
  refine lv_ishl hx hb d_Mo_fourAt_14 ?_
  refine lv_ior hx hb d_Mo_fourAt_15 ?_
  have hf9 : (f_Mo_fourAt u mp k0) = ((f_Mo_twoAt u mp k0) ||| ((f_Mo_twoAt u mp (k0 + (2 : Int32))) <<< ((16 : Int32) &&& 31))) := by rw [f_Mo_fourAt]
  exact W.iret (v := ((f_Mo_twoAt u mp k0) ||| ((f_Mo_twoAt u mp (k0 + (2 : Int32))) <<< ((16 : Int32) &&& 31)))) hx hb hr (fun tE ht _ => ⟨⟨_, w0, rfl, ⟨hf9, rfl⟩, cd_Pt ht hP⟩, hS.F ht⟩) hS.2.2 d_Mo_fourAt_16
def f_Mo_isWrong (u : cd_Mo) (k0 : Int32) (k1 : Int32) : Int32 × cd_Mo := ((0 : Int32), (u.1, u.2.1, u.2.2.1, u.2.2.2.1, k0, k1))
set_option maxHeartbeats 4000000 in
set_option maxRecDepth 100000 in
theorem c_Mo_isWrong (l : Launch) (D : va_G) (tt : Nat → ClassId) (ad : Nat → Nat) (N : Nat) (A : Nat → Prop) (zs : Nat → Nat) (w0 : Nat → va_E) (q : Nat) (u : cd_Mo) (k0 : Int32) (k1 : Int32) (hR0 : cd_MoAt N tt ad w0 q u) : Met l y_Mo_isWrong w_Mo_isWrong ({ frames := 0, cells := 0, slots := 0, locals := 0 }) (va_Pc [.ref (ad q), .int k0, .int k1] (cd_U D tt ad N A zs w0)) (va_Qi (fun r w' => (f_Mo_isWrong u k0 k1).1 = r ∧ (r = 0 ∨ r = 1) ∧ cd_MoAt N tt ad w' q ((f_Mo_isWrong u k0 k1).2) ∧ (∀ k : Nat, (k < q ∨ q + 1 ≤ k) → w' k = w0 k)) (fun w' t => cd_P D ad N A w' t.heap) A) 0 0 A := by
  refine Met.ofW (cc := b_Mo_isWrong) (maxL := 3) (ret := (some .boolean)) (by decide) rfl ?_
  intro p e s m args below meth c s₁ B hml hv
  obtain ⟨rfl, hP, hK, hZ⟩ := hv
  have hx := B.exec
  have hb := B.bytes
  have hr := B.returns
  have hA : ∀ w ∈ cd_AW, w.before _ s = true := fun w h => atoms_spec (ws := w_Mo_isWrong) B.pre w (List.mem_cons_of_mem _ h)
  have hown : s.vm.findClass R_Mo = some m.cls := findClass_of_methodNamed B.named
  have hlocks := B.notSynchronized
  have hS : va_S A s.heap s.heap [] := va_S.rf
  have hl := lv_entry ([.ref (ad q), .int k0, .int k1]) (n := 3) (Nat.le_of_ble_eq_true rfl)
  rw [lg_entry_eq]
  generalize (lg_sl ([.ref (ad q), .int k0, .int k1]) ++ List.replicate (3 - (lg_sl ([.ref (ad q), .int k0, .int k1])).length) Slot.unset).toArray = ls at hl ⊢
  have hl : lv_has ls 3 [(0, .ref (ad q)), (1, .int k0), (2, .int k1)] := hl
  obtain ⟨hn1, fa2⟩ := hR0
  refine lv_aload_n hx hb d_Mo_isWrong_0 rfl (lv_at hl 0 rfl) ?_
  refine lv_iload_n hx hb d_Mo_isWrong_1 rfl (lv_at hl 1 rfl) ?_
  refine g_put (ci := 7) (C := R_Mo) (T := F_Mo) (Nf := 16) (v := .int k0) (ty := .int) hx hb hA in_Mo t_Mo t_Mo_ok n_Mo hown hK hP hS (k := q) (by omega) fa2 rfl 14 (by decide) (hA _ aw_574) (fun _ h9 => h9) rfl (by decide +kernel) rfl rfl (Nat.le_of_ble_eq_true rfl) d_Mo_isWrong_2 (fun H locs w1 fa3 e1 hP hS => ?_)
  have fa3 : w1 q = .inr (7, [.int u.1, .ref (ad (q + 1)), .ref (ad (q + 2)), .ref (ad (q + 3)), .ref (ad (q + 4)), .ref (ad (q + 5)), .ref (ad (q + 6)), .ref (ad (q + 7)), .ref (ad (q + 8)), .ref (ad (q + 9)), .int u.2.1, .ref (ad (q + 10)), .int u.2.2.1, .int u.2.2.2.1, .int k0, .int u.2.2.2.2.2]) := fa3
  refine lv_aload_n hx hb d_Mo_isWrong_5 rfl (lv_at hl 0 rfl) ?_
  refine lv_iload_n hx hb d_Mo_isWrong_6 rfl (lv_at hl 2 rfl) ?_
  refine g_put (ci := 7) (C := R_Mo) (T := F_Mo) (Nf := 16) (v := .int k1) (ty := .int) hx hb hA in_Mo t_Mo t_Mo_ok n_Mo hown hK hP hS (k := q) (by omega) fa3 rfl 15 (by decide) (hA _ aw_575) (fun _ h9 => h9) rfl (by decide +kernel) rfl rfl (Nat.le_of_ble_eq_true rfl) d_Mo_isWrong_7 (fun H locs w2 fa4 e2 hP hS => ?_)
  have fa4 : w2 q = .inr (7, [.int u.1, .ref (ad (q + 1)), .ref (ad (q + 2)), .ref (ad (q + 3)), .ref (ad (q + 4)), .ref (ad (q + 5)), .ref (ad (q + 6)), .ref (ad (q + 7)), .ref (ad (q + 8)), .ref (ad (q + 9)), .int u.2.1, .ref (ad (q + 10)), .int u.2.2.1, .int u.2.2.2.1, .int k0, .int k1]) := fa4
  refine lv_iconst (v := (0 : Int32)) hx hb d_Mo_isWrong_10 (by decide) ?_
  have hf5 : (f_Mo_isWrong u k0 k1) = ((0 : Int32), (u.1, u.2.1, u.2.2.1, u.2.2.2.1, k0, k1)) := by rw [f_Mo_isWrong]
  exact W.zret (ty := .boolean) (v := (0 : Int32)) hx hb hr rfl (fun tE ht _ => ⟨⟨_, w2, rfl, ⟨(by rw [hf5]), (Or.inl rfl), (by rw [hf5]; exact ⟨hn1, fa4⟩), (fun k hk => ((e2 k (by omega)).trans (e1 k (by omega))))⟩, cd_Pt ht hP⟩, hS.F ht⟩) hS.2.2 d_Mo_isWrong_11
def f_Mo_headerByte (k0 : Int32) : Int32 := (if k0 = (0 : Int32) then (127 : Int32) else (if k0 = (1 : Int32) then (69 : Int32) else (if k0 = (2 : Int32) then (76 : Int32) else (if k0 = (3 : Int32) then (70 : Int32) else (if k0 = (4 : Int32) then (1 : Int32) else (if k0 = (5 : Int32) then (1 : Int32) else (if k0 = (6 : Int32) then (1 : Int32) else (if k0 = (7 : Int32) then (0 : Int32) else (if k0 = (8 : Int32) then (0 : Int32) else (if k0 = (9 : Int32) then (0 : Int32) else (if k0 = (10 : Int32) then (0 : Int32) else (if k0 = (11 : Int32) then (0 : Int32) else (if k0 = (12 : Int32) then (0 : Int32) else (if k0 = (13 : Int32) then (0 : Int32) else (if k0 = (14 : Int32) then (0 : Int32) else (if k0 = (15 : Int32) then (0 : Int32) else (if k0 = (16 : Int32) then (4 : Int32) else (if k0 = (17 : Int32) then (0 : Int32) else (if k0 = (18 : Int32) then (8 : Int32) else (if k0 = (19 : Int32) then (0 : Int32) else (if k0 = (20 : Int32) then (1 : Int32) else (if k0 = (21 : Int32) then (0 : Int32) else (if k0 = (22 : Int32) then (0 : Int32) else (if k0 = (23 : Int32) then (0 : Int32) else (if k0 = (24 : Int32) then (0 : Int32) else (if k0 = (25 : Int32) then (0 : Int32) else (if k0 = (26 : Int32) then (0 : Int32) else (if k0 = (27 : Int32) then (0 : Int32) else (if k0 = (28 : Int32) then (52 : Int32) else (if k0 = (29 : Int32) then (0 : Int32) else (if k0 = (30 : Int32) then (0 : Int32) else (if k0 = (31 : Int32) then (0 : Int32) else (if k0 = (32 : Int32) then (0 : Int32) else (if k0 = (33 : Int32) then (0 : Int32) else (if k0 = (34 : Int32) then (0 : Int32) else (if k0 = (35 : Int32) then (0 : Int32) else (if k0 = (36 : Int32) then (0 : Int32) else (if k0 = (37 : Int32) then (0 : Int32) else (if k0 = (38 : Int32) then (0 : Int32) else (if k0 = (39 : Int32) then (0 : Int32) else (if k0 = (40 : Int32) then (52 : Int32) else (if k0 = (41 : Int32) then (0 : Int32) else (if k0 = (42 : Int32) then (32 : Int32) else (0 : Int32))))))))))))))))))))))))))))))))))))))))))))
set_option maxHeartbeats 4000000 in
set_option maxRecDepth 100000 in
theorem c_Mo_headerByte (l : Launch) (D : va_G) (tt : Nat → ClassId) (ad : Nat → Nat) (N : Nat) (A : Nat → Prop) (zs : Nat → Nat) (w0 : Nat → va_E) (k0 : Int32) : Met l y_Mo_headerByte w_Mo_headerByte ({ frames := 0, cells := 0, slots := 0, locals := 0 }) (va_Pc [.int k0] (cd_U D tt ad N A zs w0)) (va_Qi (fun r w' => (f_Mo_headerByte k0) = r ∧ w0 = w') (fun w' t => cd_P D ad N A w' t.heap) A) 0 0 A := by
  refine Met.ofW (cc := b_Mo_headerByte) (maxL := 1) (ret := (some .int)) (by decide) rfl ?_
  intro p e s m args below meth c s₁ B hml hv
  obtain ⟨rfl, hP, hK, hZ⟩ := hv
  have hx := B.exec
  have hb := B.bytes
  have hr := B.returns
  have hA : ∀ w ∈ cd_AW, w.before _ s = true := fun w h => atoms_spec (ws := w_Mo_headerByte) B.pre w (List.mem_cons_of_mem _ h)
  have hown : s.vm.findClass R_Mo = some m.cls := findClass_of_methodNamed B.named
  have hlocks := B.notSynchronized
  have hS : va_S A s.heap s.heap [] := va_S.rf
  have hl := lv_entry ([.int k0]) (n := 1) (Nat.le_of_ble_eq_true rfl)
  rw [lg_entry_eq]
  generalize (lg_sl ([.int k0]) ++ List.replicate (1 - (lg_sl ([.int k0])).length) Slot.unset).toArray = ls at hl ⊢
  have hl : lv_has ls 1 [(0, .int k0)] := hl
  refine lv_iload_n hx hb d_Mo_headerByte_0 rfl (lv_at hl 0 rfl) ?_
  by_cases hc1 : k0 = (0 : Int32)
  · refine g_tabIn (tgt := 188) (off := 187) hx hb d_Mo_headerByte_1 hc1 (by decide) (by decide) (by decide) (by decide) ?_
    refine lv_bipush (v := (127 : Int32)) hx hb d_Mo_headerByte_188 (by decide) ?_
    have hf2 : (f_Mo_headerByte k0) = (127 : Int32) := by rw [f_Mo_headerByte, if_pos hc1]
    exact W.iret (v := (127 : Int32)) hx hb hr (fun tE ht _ => ⟨⟨_, w0, rfl, ⟨hf2, rfl⟩, cd_Pt ht hP⟩, hS.F ht⟩) hS.2.2 d_Mo_headerByte_190
  by_cases hc3 : k0 = (1 : Int32)
  · refine g_tabIn (tgt := 191) (off := 190) hx hb d_Mo_headerByte_1 hc3 (by decide) (by decide) (by decide) (by decide) ?_
    refine lv_bipush (v := (69 : Int32)) hx hb d_Mo_headerByte_191 (by decide) ?_
    have hf4 : (f_Mo_headerByte k0) = (69 : Int32) := by rw [f_Mo_headerByte, if_neg hc1, if_pos hc3]
    exact W.iret (v := (69 : Int32)) hx hb hr (fun tE ht _ => ⟨⟨_, w0, rfl, ⟨hf4, rfl⟩, cd_Pt ht hP⟩, hS.F ht⟩) hS.2.2 d_Mo_headerByte_193
  by_cases hc5 : k0 = (2 : Int32)
  · refine g_tabIn (tgt := 194) (off := 193) hx hb d_Mo_headerByte_1 hc5 (by decide) (by decide) (by decide) (by decide) ?_
    refine lv_bipush (v := (76 : Int32)) hx hb d_Mo_headerByte_194 (by decide) ?_
    have hf6 : (f_Mo_headerByte k0) = (76 : Int32) := by rw [f_Mo_headerByte, if_neg hc1, if_neg hc3, if_pos hc5]
    exact W.iret (v := (76 : Int32)) hx hb hr (fun tE ht _ => ⟨⟨_, w0, rfl, ⟨hf6, rfl⟩, cd_Pt ht hP⟩, hS.F ht⟩) hS.2.2 d_Mo_headerByte_196
  by_cases hc7 : k0 = (3 : Int32)
  · refine g_tabIn (tgt := 197) (off := 196) hx hb d_Mo_headerByte_1 hc7 (by decide) (by decide) (by decide) (by decide) ?_
    refine lv_bipush (v := (70 : Int32)) hx hb d_Mo_headerByte_197 (by decide) ?_
    have hf8 : (f_Mo_headerByte k0) = (70 : Int32) := by rw [f_Mo_headerByte, if_neg hc1, if_neg hc3, if_neg hc5, if_pos hc7]
    exact W.iret (v := (70 : Int32)) hx hb hr (fun tE ht _ => ⟨⟨_, w0, rfl, ⟨hf8, rfl⟩, cd_Pt ht hP⟩, hS.F ht⟩) hS.2.2 d_Mo_headerByte_199
  by_cases hc9 : k0 = (4 : Int32)
  · refine g_tabIn (tgt := 200) (off := 199) hx hb d_Mo_headerByte_1 hc9 (by decide) (by decide) (by decide) (by decide) ?_
    refine lv_iconst (v := (1 : Int32)) hx hb d_Mo_headerByte_200 (by decide) ?_
    have hf10 : (f_Mo_headerByte k0) = (1 : Int32) := by rw [f_Mo_headerByte, if_neg hc1, if_neg hc3, if_neg hc5, if_neg hc7, if_pos hc9]
    exact W.iret (v := (1 : Int32)) hx hb hr (fun tE ht _ => ⟨⟨_, w0, rfl, ⟨hf10, rfl⟩, cd_Pt ht hP⟩, hS.F ht⟩) hS.2.2 d_Mo_headerByte_201
  by_cases hc11 : k0 = (5 : Int32)
  · refine g_tabIn (tgt := 200) (off := 199) hx hb d_Mo_headerByte_1 hc11 (by decide) (by decide) (by decide) (by decide) ?_
    refine lv_iconst (v := (1 : Int32)) hx hb d_Mo_headerByte_200 (by decide) ?_
    have hf12 : (f_Mo_headerByte k0) = (1 : Int32) := by rw [f_Mo_headerByte, if_neg hc1, if_neg hc3, if_neg hc5, if_neg hc7, if_neg hc9, if_pos hc11]
    exact W.iret (v := (1 : Int32)) hx hb hr (fun tE ht _ => ⟨⟨_, w0, rfl, ⟨hf12, rfl⟩, cd_Pt ht hP⟩, hS.F ht⟩) hS.2.2 d_Mo_headerByte_201
  by_cases hc13 : k0 = (6 : Int32)
  · refine g_tabIn (tgt := 200) (off := 199) hx hb d_Mo_headerByte_1 hc13 (by decide) (by decide) (by decide) (by decide) ?_
    refine lv_iconst (v := (1 : Int32)) hx hb d_Mo_headerByte_200 (by decide) ?_
    have hf14 : (f_Mo_headerByte k0) = (1 : Int32) := by rw [f_Mo_headerByte, if_neg hc1, if_neg hc3, if_neg hc5, if_neg hc7, if_neg hc9, if_neg hc11, if_pos hc13]
    exact W.iret (v := (1 : Int32)) hx hb hr (fun tE ht _ => ⟨⟨_, w0, rfl, ⟨hf14, rfl⟩, cd_Pt ht hP⟩, hS.F ht⟩) hS.2.2 d_Mo_headerByte_201
  by_cases hc15 : k0 = (7 : Int32)
  · refine g_tabIn (tgt := 213) (off := 212) hx hb d_Mo_headerByte_1 hc15 (by decide) (by decide) (by decide) (by decide) ?_
    refine lv_iconst (v := (0 : Int32)) hx hb d_Mo_headerByte_213 (by decide) ?_
    have hf16 : (f_Mo_headerByte k0) = (0 : Int32) := by rw [f_Mo_headerByte, if_neg hc1, if_neg hc3, if_neg hc5, if_neg hc7, if_neg hc9, if_neg hc11, if_neg hc13, if_pos hc15]
    exact W.iret (v := (0 : Int32)) hx hb hr (fun tE ht _ => ⟨⟨_, w0, rfl, ⟨hf16, rfl⟩, cd_Pt ht hP⟩, hS.F ht⟩) hS.2.2 d_Mo_headerByte_214
  by_cases hc17 : k0 = (8 : Int32)
  · refine g_tabIn (tgt := 213) (off := 212) hx hb d_Mo_headerByte_1 hc17 (by decide) (by decide) (by decide) (by decide) ?_
    refine lv_iconst (v := (0 : Int32)) hx hb d_Mo_headerByte_213 (by decide) ?_
    have hf18 : (f_Mo_headerByte k0) = (0 : Int32) := by rw [f_Mo_headerByte, if_neg hc1, if_neg hc3, if_neg hc5, if_neg hc7, if_neg hc9, if_neg hc11, if_neg hc13, if_neg hc15, if_pos hc17]
    exact W.iret (v := (0 : Int32)) hx hb hr (fun tE ht _ => ⟨⟨_, w0, rfl, ⟨hf18, rfl⟩, cd_Pt ht hP⟩, hS.F ht⟩) hS.2.2 d_Mo_headerByte_214
  by_cases hc19 : k0 = (9 : Int32)
  · refine g_tabIn (tgt := 213) (off := 212) hx hb d_Mo_headerByte_1 hc19 (by decide) (by decide) (by decide) (by decide) ?_
    refine lv_iconst (v := (0 : Int32)) hx hb d_Mo_headerByte_213 (by decide) ?_
    have hf20 : (f_Mo_headerByte k0) = (0 : Int32) := by rw [f_Mo_headerByte, if_neg hc1, if_neg hc3, if_neg hc5, if_neg hc7, if_neg hc9, if_neg hc11, if_neg hc13, if_neg hc15, if_neg hc17, if_pos hc19]
    exact W.iret (v := (0 : Int32)) hx hb hr (fun tE ht _ => ⟨⟨_, w0, rfl, ⟨hf20, rfl⟩, cd_Pt ht hP⟩, hS.F ht⟩) hS.2.2 d_Mo_headerByte_214
  by_cases hc21 : k0 = (10 : Int32)
  · refine g_tabIn (tgt := 213) (off := 212) hx hb d_Mo_headerByte_1 hc21 (by decide) (by decide) (by decide) (by decide) ?_
    refine lv_iconst (v := (0 : Int32)) hx hb d_Mo_headerByte_213 (by decide) ?_
    have hf22 : (f_Mo_headerByte k0) = (0 : Int32) := by rw [f_Mo_headerByte, if_neg hc1, if_neg hc3, if_neg hc5, if_neg hc7, if_neg hc9, if_neg hc11, if_neg hc13, if_neg hc15, if_neg hc17, if_neg hc19, if_pos hc21]
    exact W.iret (v := (0 : Int32)) hx hb hr (fun tE ht _ => ⟨⟨_, w0, rfl, ⟨hf22, rfl⟩, cd_Pt ht hP⟩, hS.F ht⟩) hS.2.2 d_Mo_headerByte_214
  by_cases hc23 : k0 = (11 : Int32)
  · refine g_tabIn (tgt := 213) (off := 212) hx hb d_Mo_headerByte_1 hc23 (by decide) (by decide) (by decide) (by decide) ?_
    refine lv_iconst (v := (0 : Int32)) hx hb d_Mo_headerByte_213 (by decide) ?_
    have hf24 : (f_Mo_headerByte k0) = (0 : Int32) := by rw [f_Mo_headerByte, if_neg hc1, if_neg hc3, if_neg hc5, if_neg hc7, if_neg hc9, if_neg hc11, if_neg hc13, if_neg hc15, if_neg hc17, if_neg hc19, if_neg hc21, if_pos hc23]
    exact W.iret (v := (0 : Int32)) hx hb hr (fun tE ht _ => ⟨⟨_, w0, rfl, ⟨hf24, rfl⟩, cd_Pt ht hP⟩, hS.F ht⟩) hS.2.2 d_Mo_headerByte_214
  by_cases hc25 : k0 = (12 : Int32)
  · refine g_tabIn (tgt := 213) (off := 212) hx hb d_Mo_headerByte_1 hc25 (by decide) (by decide) (by decide) (by decide) ?_
    refine lv_iconst (v := (0 : Int32)) hx hb d_Mo_headerByte_213 (by decide) ?_
    have hf26 : (f_Mo_headerByte k0) = (0 : Int32) := by rw [f_Mo_headerByte, if_neg hc1, if_neg hc3, if_neg hc5, if_neg hc7, if_neg hc9, if_neg hc11, if_neg hc13, if_neg hc15, if_neg hc17, if_neg hc19, if_neg hc21, if_neg hc23, if_pos hc25]
    exact W.iret (v := (0 : Int32)) hx hb hr (fun tE ht _ => ⟨⟨_, w0, rfl, ⟨hf26, rfl⟩, cd_Pt ht hP⟩, hS.F ht⟩) hS.2.2 d_Mo_headerByte_214
  by_cases hc27 : k0 = (13 : Int32)
  · refine g_tabIn (tgt := 213) (off := 212) hx hb d_Mo_headerByte_1 hc27 (by decide) (by decide) (by decide) (by decide) ?_
    refine lv_iconst (v := (0 : Int32)) hx hb d_Mo_headerByte_213 (by decide) ?_
    have hf28 : (f_Mo_headerByte k0) = (0 : Int32) := by rw [f_Mo_headerByte, if_neg hc1, if_neg hc3, if_neg hc5, if_neg hc7, if_neg hc9, if_neg hc11, if_neg hc13, if_neg hc15, if_neg hc17, if_neg hc19, if_neg hc21, if_neg hc23, if_neg hc25, if_pos hc27]
    exact W.iret (v := (0 : Int32)) hx hb hr (fun tE ht _ => ⟨⟨_, w0, rfl, ⟨hf28, rfl⟩, cd_Pt ht hP⟩, hS.F ht⟩) hS.2.2 d_Mo_headerByte_214
  by_cases hc29 : k0 = (14 : Int32)
  · refine g_tabIn (tgt := 213) (off := 212) hx hb d_Mo_headerByte_1 hc29 (by decide) (by decide) (by decide) (by decide) ?_
    refine lv_iconst (v := (0 : Int32)) hx hb d_Mo_headerByte_213 (by decide) ?_
    have hf30 : (f_Mo_headerByte k0) = (0 : Int32) := by rw [f_Mo_headerByte, if_neg hc1, if_neg hc3, if_neg hc5, if_neg hc7, if_neg hc9, if_neg hc11, if_neg hc13, if_neg hc15, if_neg hc17, if_neg hc19, if_neg hc21, if_neg hc23, if_neg hc25, if_neg hc27, if_pos hc29]
    exact W.iret (v := (0 : Int32)) hx hb hr (fun tE ht _ => ⟨⟨_, w0, rfl, ⟨hf30, rfl⟩, cd_Pt ht hP⟩, hS.F ht⟩) hS.2.2 d_Mo_headerByte_214
  by_cases hc31 : k0 = (15 : Int32)
  · refine g_tabIn (tgt := 213) (off := 212) hx hb d_Mo_headerByte_1 hc31 (by decide) (by decide) (by decide) (by decide) ?_
    refine lv_iconst (v := (0 : Int32)) hx hb d_Mo_headerByte_213 (by decide) ?_
    have hf32 : (f_Mo_headerByte k0) = (0 : Int32) := by rw [f_Mo_headerByte, if_neg hc1, if_neg hc3, if_neg hc5, if_neg hc7, if_neg hc9, if_neg hc11, if_neg hc13, if_neg hc15, if_neg hc17, if_neg hc19, if_neg hc21, if_neg hc23, if_neg hc25, if_neg hc27, if_neg hc29, if_pos hc31]
    exact W.iret (v := (0 : Int32)) hx hb hr (fun tE ht _ => ⟨⟨_, w0, rfl, ⟨hf32, rfl⟩, cd_Pt ht hP⟩, hS.F ht⟩) hS.2.2 d_Mo_headerByte_214
  by_cases hc33 : k0 = (16 : Int32)
  · refine g_tabIn (tgt := 202) (off := 201) hx hb d_Mo_headerByte_1 hc33 (by decide) (by decide) (by decide) (by decide) ?_
    refine lv_iconst (v := (4 : Int32)) hx hb d_Mo_headerByte_202 (by decide) ?_
    have hf34 : (f_Mo_headerByte k0) = (4 : Int32) := by rw [f_Mo_headerByte, if_neg hc1, if_neg hc3, if_neg hc5, if_neg hc7, if_neg hc9, if_neg hc11, if_neg hc13, if_neg hc15, if_neg hc17, if_neg hc19, if_neg hc21, if_neg hc23, if_neg hc25, if_neg hc27, if_neg hc29, if_neg hc31, if_pos hc33]
    exact W.iret (v := (4 : Int32)) hx hb hr (fun tE ht _ => ⟨⟨_, w0, rfl, ⟨hf34, rfl⟩, cd_Pt ht hP⟩, hS.F ht⟩) hS.2.2 d_Mo_headerByte_203
  by_cases hc35 : k0 = (17 : Int32)
  · refine g_tabIn (tgt := 213) (off := 212) hx hb d_Mo_headerByte_1 hc35 (by decide) (by decide) (by decide) (by decide) ?_
    refine lv_iconst (v := (0 : Int32)) hx hb d_Mo_headerByte_213 (by decide) ?_
    have hf36 : (f_Mo_headerByte k0) = (0 : Int32) := by rw [f_Mo_headerByte, if_neg hc1, if_neg hc3, if_neg hc5, if_neg hc7, if_neg hc9, if_neg hc11, if_neg hc13, if_neg hc15, if_neg hc17, if_neg hc19, if_neg hc21, if_neg hc23, if_neg hc25, if_neg hc27, if_neg hc29, if_neg hc31, if_neg hc33, if_pos hc35]
    exact W.iret (v := (0 : Int32)) hx hb hr (fun tE ht _ => ⟨⟨_, w0, rfl, ⟨hf36, rfl⟩, cd_Pt ht hP⟩, hS.F ht⟩) hS.2.2 d_Mo_headerByte_214
  by_cases hc37 : k0 = (18 : Int32)
  · refine g_tabIn (tgt := 204) (off := 203) hx hb d_Mo_headerByte_1 hc37 (by decide) (by decide) (by decide) (by decide) ?_
    refine lv_bipush (v := (8 : Int32)) hx hb d_Mo_headerByte_204 (by decide) ?_
    have hf38 : (f_Mo_headerByte k0) = (8 : Int32) := by rw [f_Mo_headerByte, if_neg hc1, if_neg hc3, if_neg hc5, if_neg hc7, if_neg hc9, if_neg hc11, if_neg hc13, if_neg hc15, if_neg hc17, if_neg hc19, if_neg hc21, if_neg hc23, if_neg hc25, if_neg hc27, if_neg hc29, if_neg hc31, if_neg hc33, if_neg hc35, if_pos hc37]
    exact W.iret (v := (8 : Int32)) hx hb hr (fun tE ht _ => ⟨⟨_, w0, rfl, ⟨hf38, rfl⟩, cd_Pt ht hP⟩, hS.F ht⟩) hS.2.2 d_Mo_headerByte_206
  by_cases hc39 : k0 = (19 : Int32)
  · refine g_tabIn (tgt := 213) (off := 212) hx hb d_Mo_headerByte_1 hc39 (by decide) (by decide) (by decide) (by decide) ?_
    refine lv_iconst (v := (0 : Int32)) hx hb d_Mo_headerByte_213 (by decide) ?_
    have hf40 : (f_Mo_headerByte k0) = (0 : Int32) := by rw [f_Mo_headerByte, if_neg hc1, if_neg hc3, if_neg hc5, if_neg hc7, if_neg hc9, if_neg hc11, if_neg hc13, if_neg hc15, if_neg hc17, if_neg hc19, if_neg hc21, if_neg hc23, if_neg hc25, if_neg hc27, if_neg hc29, if_neg hc31, if_neg hc33, if_neg hc35, if_neg hc37, if_pos hc39]
    exact W.iret (v := (0 : Int32)) hx hb hr (fun tE ht _ => ⟨⟨_, w0, rfl, ⟨hf40, rfl⟩, cd_Pt ht hP⟩, hS.F ht⟩) hS.2.2 d_Mo_headerByte_214
  by_cases hc41 : k0 = (20 : Int32)
  · refine g_tabIn (tgt := 200) (off := 199) hx hb d_Mo_headerByte_1 hc41 (by decide) (by decide) (by decide) (by decide) ?_
    refine lv_iconst (v := (1 : Int32)) hx hb d_Mo_headerByte_200 (by decide) ?_
    have hf42 : (f_Mo_headerByte k0) = (1 : Int32) := by rw [f_Mo_headerByte, if_neg hc1, if_neg hc3, if_neg hc5, if_neg hc7, if_neg hc9, if_neg hc11, if_neg hc13, if_neg hc15, if_neg hc17, if_neg hc19, if_neg hc21, if_neg hc23, if_neg hc25, if_neg hc27, if_neg hc29, if_neg hc31, if_neg hc33, if_neg hc35, if_neg hc37, if_neg hc39, if_pos hc41]
    exact W.iret (v := (1 : Int32)) hx hb hr (fun tE ht _ => ⟨⟨_, w0, rfl, ⟨hf42, rfl⟩, cd_Pt ht hP⟩, hS.F ht⟩) hS.2.2 d_Mo_headerByte_201
  by_cases hc43 : k0 = (21 : Int32)
  · refine g_tabIn (tgt := 213) (off := 212) hx hb d_Mo_headerByte_1 hc43 (by decide) (by decide) (by decide) (by decide) ?_
    refine lv_iconst (v := (0 : Int32)) hx hb d_Mo_headerByte_213 (by decide) ?_
    have hf44 : (f_Mo_headerByte k0) = (0 : Int32) := by rw [f_Mo_headerByte, if_neg hc1, if_neg hc3, if_neg hc5, if_neg hc7, if_neg hc9, if_neg hc11, if_neg hc13, if_neg hc15, if_neg hc17, if_neg hc19, if_neg hc21, if_neg hc23, if_neg hc25, if_neg hc27, if_neg hc29, if_neg hc31, if_neg hc33, if_neg hc35, if_neg hc37, if_neg hc39, if_neg hc41, if_pos hc43]
    exact W.iret (v := (0 : Int32)) hx hb hr (fun tE ht _ => ⟨⟨_, w0, rfl, ⟨hf44, rfl⟩, cd_Pt ht hP⟩, hS.F ht⟩) hS.2.2 d_Mo_headerByte_214
  by_cases hc45 : k0 = (22 : Int32)
  · refine g_tabIn (tgt := 213) (off := 212) hx hb d_Mo_headerByte_1 hc45 (by decide) (by decide) (by decide) (by decide) ?_
    refine lv_iconst (v := (0 : Int32)) hx hb d_Mo_headerByte_213 (by decide) ?_
    have hf46 : (f_Mo_headerByte k0) = (0 : Int32) := by rw [f_Mo_headerByte, if_neg hc1, if_neg hc3, if_neg hc5, if_neg hc7, if_neg hc9, if_neg hc11, if_neg hc13, if_neg hc15, if_neg hc17, if_neg hc19, if_neg hc21, if_neg hc23, if_neg hc25, if_neg hc27, if_neg hc29, if_neg hc31, if_neg hc33, if_neg hc35, if_neg hc37, if_neg hc39, if_neg hc41, if_neg hc43, if_pos hc45]
    exact W.iret (v := (0 : Int32)) hx hb hr (fun tE ht _ => ⟨⟨_, w0, rfl, ⟨hf46, rfl⟩, cd_Pt ht hP⟩, hS.F ht⟩) hS.2.2 d_Mo_headerByte_214
  by_cases hc47 : k0 = (23 : Int32)
  · refine g_tabIn (tgt := 213) (off := 212) hx hb d_Mo_headerByte_1 hc47 (by decide) (by decide) (by decide) (by decide) ?_
    refine lv_iconst (v := (0 : Int32)) hx hb d_Mo_headerByte_213 (by decide) ?_
    have hf48 : (f_Mo_headerByte k0) = (0 : Int32) := by rw [f_Mo_headerByte, if_neg hc1, if_neg hc3, if_neg hc5, if_neg hc7, if_neg hc9, if_neg hc11, if_neg hc13, if_neg hc15, if_neg hc17, if_neg hc19, if_neg hc21, if_neg hc23, if_neg hc25, if_neg hc27, if_neg hc29, if_neg hc31, if_neg hc33, if_neg hc35, if_neg hc37, if_neg hc39, if_neg hc41, if_neg hc43, if_neg hc45, if_pos hc47]
    exact W.iret (v := (0 : Int32)) hx hb hr (fun tE ht _ => ⟨⟨_, w0, rfl, ⟨hf48, rfl⟩, cd_Pt ht hP⟩, hS.F ht⟩) hS.2.2 d_Mo_headerByte_214
  by_cases hc49 : k0 = (24 : Int32)
  · refine g_tabIn (tgt := 213) (off := 212) hx hb d_Mo_headerByte_1 hc49 (by decide) (by decide) (by decide) (by decide) ?_
    refine lv_iconst (v := (0 : Int32)) hx hb d_Mo_headerByte_213 (by decide) ?_
    have hf50 : (f_Mo_headerByte k0) = (0 : Int32) := by rw [f_Mo_headerByte, if_neg hc1, if_neg hc3, if_neg hc5, if_neg hc7, if_neg hc9, if_neg hc11, if_neg hc13, if_neg hc15, if_neg hc17, if_neg hc19, if_neg hc21, if_neg hc23, if_neg hc25, if_neg hc27, if_neg hc29, if_neg hc31, if_neg hc33, if_neg hc35, if_neg hc37, if_neg hc39, if_neg hc41, if_neg hc43, if_neg hc45, if_neg hc47, if_pos hc49]
    exact W.iret (v := (0 : Int32)) hx hb hr (fun tE ht _ => ⟨⟨_, w0, rfl, ⟨hf50, rfl⟩, cd_Pt ht hP⟩, hS.F ht⟩) hS.2.2 d_Mo_headerByte_214
  by_cases hc51 : k0 = (25 : Int32)
  · refine g_tabIn (tgt := 213) (off := 212) hx hb d_Mo_headerByte_1 hc51 (by decide) (by decide) (by decide) (by decide) ?_
    refine lv_iconst (v := (0 : Int32)) hx hb d_Mo_headerByte_213 (by decide) ?_
    have hf52 : (f_Mo_headerByte k0) = (0 : Int32) := by rw [f_Mo_headerByte, if_neg hc1, if_neg hc3, if_neg hc5, if_neg hc7, if_neg hc9, if_neg hc11, if_neg hc13, if_neg hc15, if_neg hc17, if_neg hc19, if_neg hc21, if_neg hc23, if_neg hc25, if_neg hc27, if_neg hc29, if_neg hc31, if_neg hc33, if_neg hc35, if_neg hc37, if_neg hc39, if_neg hc41, if_neg hc43, if_neg hc45, if_neg hc47, if_neg hc49, if_pos hc51]
    exact W.iret (v := (0 : Int32)) hx hb hr (fun tE ht _ => ⟨⟨_, w0, rfl, ⟨hf52, rfl⟩, cd_Pt ht hP⟩, hS.F ht⟩) hS.2.2 d_Mo_headerByte_214
  by_cases hc53 : k0 = (26 : Int32)
  · refine g_tabIn (tgt := 213) (off := 212) hx hb d_Mo_headerByte_1 hc53 (by decide) (by decide) (by decide) (by decide) ?_
    refine lv_iconst (v := (0 : Int32)) hx hb d_Mo_headerByte_213 (by decide) ?_
    have hf54 : (f_Mo_headerByte k0) = (0 : Int32) := by rw [f_Mo_headerByte, if_neg hc1, if_neg hc3, if_neg hc5, if_neg hc7, if_neg hc9, if_neg hc11, if_neg hc13, if_neg hc15, if_neg hc17, if_neg hc19, if_neg hc21, if_neg hc23, if_neg hc25, if_neg hc27, if_neg hc29, if_neg hc31, if_neg hc33, if_neg hc35, if_neg hc37, if_neg hc39, if_neg hc41, if_neg hc43, if_neg hc45, if_neg hc47, if_neg hc49, if_neg hc51, if_pos hc53]
    exact W.iret (v := (0 : Int32)) hx hb hr (fun tE ht _ => ⟨⟨_, w0, rfl, ⟨hf54, rfl⟩, cd_Pt ht hP⟩, hS.F ht⟩) hS.2.2 d_Mo_headerByte_214
  by_cases hc55 : k0 = (27 : Int32)
  · refine g_tabIn (tgt := 213) (off := 212) hx hb d_Mo_headerByte_1 hc55 (by decide) (by decide) (by decide) (by decide) ?_
    refine lv_iconst (v := (0 : Int32)) hx hb d_Mo_headerByte_213 (by decide) ?_
    have hf56 : (f_Mo_headerByte k0) = (0 : Int32) := by rw [f_Mo_headerByte, if_neg hc1, if_neg hc3, if_neg hc5, if_neg hc7, if_neg hc9, if_neg hc11, if_neg hc13, if_neg hc15, if_neg hc17, if_neg hc19, if_neg hc21, if_neg hc23, if_neg hc25, if_neg hc27, if_neg hc29, if_neg hc31, if_neg hc33, if_neg hc35, if_neg hc37, if_neg hc39, if_neg hc41, if_neg hc43, if_neg hc45, if_neg hc47, if_neg hc49, if_neg hc51, if_neg hc53, if_pos hc55]
    exact W.iret (v := (0 : Int32)) hx hb hr (fun tE ht _ => ⟨⟨_, w0, rfl, ⟨hf56, rfl⟩, cd_Pt ht hP⟩, hS.F ht⟩) hS.2.2 d_Mo_headerByte_214
  by_cases hc57 : k0 = (28 : Int32)
  · refine g_tabIn (tgt := 207) (off := 206) hx hb d_Mo_headerByte_1 hc57 (by decide) (by decide) (by decide) (by decide) ?_
    refine lv_bipush (v := (52 : Int32)) hx hb d_Mo_headerByte_207 (by decide) ?_
    have hf58 : (f_Mo_headerByte k0) = (52 : Int32) := by rw [f_Mo_headerByte, if_neg hc1, if_neg hc3, if_neg hc5, if_neg hc7, if_neg hc9, if_neg hc11, if_neg hc13, if_neg hc15, if_neg hc17, if_neg hc19, if_neg hc21, if_neg hc23, if_neg hc25, if_neg hc27, if_neg hc29, if_neg hc31, if_neg hc33, if_neg hc35, if_neg hc37, if_neg hc39, if_neg hc41, if_neg hc43, if_neg hc45, if_neg hc47, if_neg hc49, if_neg hc51, if_neg hc53, if_neg hc55, if_pos hc57]
    exact W.iret (v := (52 : Int32)) hx hb hr (fun tE ht _ => ⟨⟨_, w0, rfl, ⟨hf58, rfl⟩, cd_Pt ht hP⟩, hS.F ht⟩) hS.2.2 d_Mo_headerByte_209
  by_cases hc59 : k0 = (29 : Int32)
  · refine g_tabIn (tgt := 213) (off := 212) hx hb d_Mo_headerByte_1 hc59 (by decide) (by decide) (by decide) (by decide) ?_
    refine lv_iconst (v := (0 : Int32)) hx hb d_Mo_headerByte_213 (by decide) ?_
    have hf60 : (f_Mo_headerByte k0) = (0 : Int32) := by rw [f_Mo_headerByte, if_neg hc1, if_neg hc3, if_neg hc5, if_neg hc7, if_neg hc9, if_neg hc11, if_neg hc13, if_neg hc15, if_neg hc17, if_neg hc19, if_neg hc21, if_neg hc23, if_neg hc25, if_neg hc27, if_neg hc29, if_neg hc31, if_neg hc33, if_neg hc35, if_neg hc37, if_neg hc39, if_neg hc41, if_neg hc43, if_neg hc45, if_neg hc47, if_neg hc49, if_neg hc51, if_neg hc53, if_neg hc55, if_neg hc57, if_pos hc59]
    exact W.iret (v := (0 : Int32)) hx hb hr (fun tE ht _ => ⟨⟨_, w0, rfl, ⟨hf60, rfl⟩, cd_Pt ht hP⟩, hS.F ht⟩) hS.2.2 d_Mo_headerByte_214
  by_cases hc61 : k0 = (30 : Int32)
  · refine g_tabIn (tgt := 213) (off := 212) hx hb d_Mo_headerByte_1 hc61 (by decide) (by decide) (by decide) (by decide) ?_
    refine lv_iconst (v := (0 : Int32)) hx hb d_Mo_headerByte_213 (by decide) ?_
    have hf62 : (f_Mo_headerByte k0) = (0 : Int32) := by rw [f_Mo_headerByte, if_neg hc1, if_neg hc3, if_neg hc5, if_neg hc7, if_neg hc9, if_neg hc11, if_neg hc13, if_neg hc15, if_neg hc17, if_neg hc19, if_neg hc21, if_neg hc23, if_neg hc25, if_neg hc27, if_neg hc29, if_neg hc31, if_neg hc33, if_neg hc35, if_neg hc37, if_neg hc39, if_neg hc41, if_neg hc43, if_neg hc45, if_neg hc47, if_neg hc49, if_neg hc51, if_neg hc53, if_neg hc55, if_neg hc57, if_neg hc59, if_pos hc61]
    exact W.iret (v := (0 : Int32)) hx hb hr (fun tE ht _ => ⟨⟨_, w0, rfl, ⟨hf62, rfl⟩, cd_Pt ht hP⟩, hS.F ht⟩) hS.2.2 d_Mo_headerByte_214
  by_cases hc63 : k0 = (31 : Int32)
  · refine g_tabIn (tgt := 213) (off := 212) hx hb d_Mo_headerByte_1 hc63 (by decide) (by decide) (by decide) (by decide) ?_
    refine lv_iconst (v := (0 : Int32)) hx hb d_Mo_headerByte_213 (by decide) ?_
    have hf64 : (f_Mo_headerByte k0) = (0 : Int32) := by rw [f_Mo_headerByte, if_neg hc1, if_neg hc3, if_neg hc5, if_neg hc7, if_neg hc9, if_neg hc11, if_neg hc13, if_neg hc15, if_neg hc17, if_neg hc19, if_neg hc21, if_neg hc23, if_neg hc25, if_neg hc27, if_neg hc29, if_neg hc31, if_neg hc33, if_neg hc35, if_neg hc37, if_neg hc39, if_neg hc41, if_neg hc43, if_neg hc45, if_neg hc47, if_neg hc49, if_neg hc51, if_neg hc53, if_neg hc55, if_neg hc57, if_neg hc59, if_neg hc61, if_pos hc63]
    exact W.iret (v := (0 : Int32)) hx hb hr (fun tE ht _ => ⟨⟨_, w0, rfl, ⟨hf64, rfl⟩, cd_Pt ht hP⟩, hS.F ht⟩) hS.2.2 d_Mo_headerByte_214
  by_cases hc65 : k0 = (32 : Int32)
  · refine g_tabIn (tgt := 213) (off := 212) hx hb d_Mo_headerByte_1 hc65 (by decide) (by decide) (by decide) (by decide) ?_
    refine lv_iconst (v := (0 : Int32)) hx hb d_Mo_headerByte_213 (by decide) ?_
    have hf66 : (f_Mo_headerByte k0) = (0 : Int32) := by rw [f_Mo_headerByte, if_neg hc1, if_neg hc3, if_neg hc5, if_neg hc7, if_neg hc9, if_neg hc11, if_neg hc13, if_neg hc15, if_neg hc17, if_neg hc19, if_neg hc21, if_neg hc23, if_neg hc25, if_neg hc27, if_neg hc29, if_neg hc31, if_neg hc33, if_neg hc35, if_neg hc37, if_neg hc39, if_neg hc41, if_neg hc43, if_neg hc45, if_neg hc47, if_neg hc49, if_neg hc51, if_neg hc53, if_neg hc55, if_neg hc57, if_neg hc59, if_neg hc61, if_neg hc63, if_pos hc65]
    exact W.iret (v := (0 : Int32)) hx hb hr (fun tE ht _ => ⟨⟨_, w0, rfl, ⟨hf66, rfl⟩, cd_Pt ht hP⟩, hS.F ht⟩) hS.2.2 d_Mo_headerByte_214
  by_cases hc67 : k0 = (33 : Int32)
  · refine g_tabIn (tgt := 213) (off := 212) hx hb d_Mo_headerByte_1 hc67 (by decide) (by decide) (by decide) (by decide) ?_
    refine lv_iconst (v := (0 : Int32)) hx hb d_Mo_headerByte_213 (by decide) ?_
    have hf68 : (f_Mo_headerByte k0) = (0 : Int32) := by rw [f_Mo_headerByte, if_neg hc1, if_neg hc3, if_neg hc5, if_neg hc7, if_neg hc9, if_neg hc11, if_neg hc13, if_neg hc15, if_neg hc17, if_neg hc19, if_neg hc21, if_neg hc23, if_neg hc25, if_neg hc27, if_neg hc29, if_neg hc31, if_neg hc33, if_neg hc35, if_neg hc37, if_neg hc39, if_neg hc41, if_neg hc43, if_neg hc45, if_neg hc47, if_neg hc49, if_neg hc51, if_neg hc53, if_neg hc55, if_neg hc57, if_neg hc59, if_neg hc61, if_neg hc63, if_neg hc65, if_pos hc67]
    exact W.iret (v := (0 : Int32)) hx hb hr (fun tE ht _ => ⟨⟨_, w0, rfl, ⟨hf68, rfl⟩, cd_Pt ht hP⟩, hS.F ht⟩) hS.2.2 d_Mo_headerByte_214
  by_cases hc69 : k0 = (34 : Int32)
  · refine g_tabIn (tgt := 213) (off := 212) hx hb d_Mo_headerByte_1 hc69 (by decide) (by decide) (by decide) (by decide) ?_
    refine lv_iconst (v := (0 : Int32)) hx hb d_Mo_headerByte_213 (by decide) ?_
    have hf70 : (f_Mo_headerByte k0) = (0 : Int32) := by rw [f_Mo_headerByte, if_neg hc1, if_neg hc3, if_neg hc5, if_neg hc7, if_neg hc9, if_neg hc11, if_neg hc13, if_neg hc15, if_neg hc17, if_neg hc19, if_neg hc21, if_neg hc23, if_neg hc25, if_neg hc27, if_neg hc29, if_neg hc31, if_neg hc33, if_neg hc35, if_neg hc37, if_neg hc39, if_neg hc41, if_neg hc43, if_neg hc45, if_neg hc47, if_neg hc49, if_neg hc51, if_neg hc53, if_neg hc55, if_neg hc57, if_neg hc59, if_neg hc61, if_neg hc63, if_neg hc65, if_neg hc67, if_pos hc69]
    exact W.iret (v := (0 : Int32)) hx hb hr (fun tE ht _ => ⟨⟨_, w0, rfl, ⟨hf70, rfl⟩, cd_Pt ht hP⟩, hS.F ht⟩) hS.2.2 d_Mo_headerByte_214
  by_cases hc71 : k0 = (35 : Int32)
  · refine g_tabIn (tgt := 213) (off := 212) hx hb d_Mo_headerByte_1 hc71 (by decide) (by decide) (by decide) (by decide) ?_
    refine lv_iconst (v := (0 : Int32)) hx hb d_Mo_headerByte_213 (by decide) ?_
    have hf72 : (f_Mo_headerByte k0) = (0 : Int32) := by rw [f_Mo_headerByte, if_neg hc1, if_neg hc3, if_neg hc5, if_neg hc7, if_neg hc9, if_neg hc11, if_neg hc13, if_neg hc15, if_neg hc17, if_neg hc19, if_neg hc21, if_neg hc23, if_neg hc25, if_neg hc27, if_neg hc29, if_neg hc31, if_neg hc33, if_neg hc35, if_neg hc37, if_neg hc39, if_neg hc41, if_neg hc43, if_neg hc45, if_neg hc47, if_neg hc49, if_neg hc51, if_neg hc53, if_neg hc55, if_neg hc57, if_neg hc59, if_neg hc61, if_neg hc63, if_neg hc65, if_neg hc67, if_neg hc69, if_pos hc71]
    exact W.iret (v := (0 : Int32)) hx hb hr (fun tE ht _ => ⟨⟨_, w0, rfl, ⟨hf72, rfl⟩, cd_Pt ht hP⟩, hS.F ht⟩) hS.2.2 d_Mo_headerByte_214
  by_cases hc73 : k0 = (36 : Int32)
  · refine g_tabIn (tgt := 213) (off := 212) hx hb d_Mo_headerByte_1 hc73 (by decide) (by decide) (by decide) (by decide) ?_
    refine lv_iconst (v := (0 : Int32)) hx hb d_Mo_headerByte_213 (by decide) ?_
    have hf74 : (f_Mo_headerByte k0) = (0 : Int32) := by rw [f_Mo_headerByte, if_neg hc1, if_neg hc3, if_neg hc5, if_neg hc7, if_neg hc9, if_neg hc11, if_neg hc13, if_neg hc15, if_neg hc17, if_neg hc19, if_neg hc21, if_neg hc23, if_neg hc25, if_neg hc27, if_neg hc29, if_neg hc31, if_neg hc33, if_neg hc35, if_neg hc37, if_neg hc39, if_neg hc41, if_neg hc43, if_neg hc45, if_neg hc47, if_neg hc49, if_neg hc51, if_neg hc53, if_neg hc55, if_neg hc57, if_neg hc59, if_neg hc61, if_neg hc63, if_neg hc65, if_neg hc67, if_neg hc69, if_neg hc71, if_pos hc73]
    exact W.iret (v := (0 : Int32)) hx hb hr (fun tE ht _ => ⟨⟨_, w0, rfl, ⟨hf74, rfl⟩, cd_Pt ht hP⟩, hS.F ht⟩) hS.2.2 d_Mo_headerByte_214
  by_cases hc75 : k0 = (37 : Int32)
  · refine g_tabIn (tgt := 213) (off := 212) hx hb d_Mo_headerByte_1 hc75 (by decide) (by decide) (by decide) (by decide) ?_
    refine lv_iconst (v := (0 : Int32)) hx hb d_Mo_headerByte_213 (by decide) ?_
    have hf76 : (f_Mo_headerByte k0) = (0 : Int32) := by rw [f_Mo_headerByte, if_neg hc1, if_neg hc3, if_neg hc5, if_neg hc7, if_neg hc9, if_neg hc11, if_neg hc13, if_neg hc15, if_neg hc17, if_neg hc19, if_neg hc21, if_neg hc23, if_neg hc25, if_neg hc27, if_neg hc29, if_neg hc31, if_neg hc33, if_neg hc35, if_neg hc37, if_neg hc39, if_neg hc41, if_neg hc43, if_neg hc45, if_neg hc47, if_neg hc49, if_neg hc51, if_neg hc53, if_neg hc55, if_neg hc57, if_neg hc59, if_neg hc61, if_neg hc63, if_neg hc65, if_neg hc67, if_neg hc69, if_neg hc71, if_neg hc73, if_pos hc75]
    exact W.iret (v := (0 : Int32)) hx hb hr (fun tE ht _ => ⟨⟨_, w0, rfl, ⟨hf76, rfl⟩, cd_Pt ht hP⟩, hS.F ht⟩) hS.2.2 d_Mo_headerByte_214
  by_cases hc77 : k0 = (38 : Int32)
  · refine g_tabIn (tgt := 213) (off := 212) hx hb d_Mo_headerByte_1 hc77 (by decide) (by decide) (by decide) (by decide) ?_
    refine lv_iconst (v := (0 : Int32)) hx hb d_Mo_headerByte_213 (by decide) ?_
    have hf78 : (f_Mo_headerByte k0) = (0 : Int32) := by rw [f_Mo_headerByte, if_neg hc1, if_neg hc3, if_neg hc5, if_neg hc7, if_neg hc9, if_neg hc11, if_neg hc13, if_neg hc15, if_neg hc17, if_neg hc19, if_neg hc21, if_neg hc23, if_neg hc25, if_neg hc27, if_neg hc29, if_neg hc31, if_neg hc33, if_neg hc35, if_neg hc37, if_neg hc39, if_neg hc41, if_neg hc43, if_neg hc45, if_neg hc47, if_neg hc49, if_neg hc51, if_neg hc53, if_neg hc55, if_neg hc57, if_neg hc59, if_neg hc61, if_neg hc63, if_neg hc65, if_neg hc67, if_neg hc69, if_neg hc71, if_neg hc73, if_neg hc75, if_pos hc77]
    exact W.iret (v := (0 : Int32)) hx hb hr (fun tE ht _ => ⟨⟨_, w0, rfl, ⟨hf78, rfl⟩, cd_Pt ht hP⟩, hS.F ht⟩) hS.2.2 d_Mo_headerByte_214
  by_cases hc79 : k0 = (39 : Int32)
  · refine g_tabIn (tgt := 213) (off := 212) hx hb d_Mo_headerByte_1 hc79 (by decide) (by decide) (by decide) (by decide) ?_
    refine lv_iconst (v := (0 : Int32)) hx hb d_Mo_headerByte_213 (by decide) ?_
    have hf80 : (f_Mo_headerByte k0) = (0 : Int32) := by rw [f_Mo_headerByte, if_neg hc1, if_neg hc3, if_neg hc5, if_neg hc7, if_neg hc9, if_neg hc11, if_neg hc13, if_neg hc15, if_neg hc17, if_neg hc19, if_neg hc21, if_neg hc23, if_neg hc25, if_neg hc27, if_neg hc29, if_neg hc31, if_neg hc33, if_neg hc35, if_neg hc37, if_neg hc39, if_neg hc41, if_neg hc43, if_neg hc45, if_neg hc47, if_neg hc49, if_neg hc51, if_neg hc53, if_neg hc55, if_neg hc57, if_neg hc59, if_neg hc61, if_neg hc63, if_neg hc65, if_neg hc67, if_neg hc69, if_neg hc71, if_neg hc73, if_neg hc75, if_neg hc77, if_pos hc79]
    exact W.iret (v := (0 : Int32)) hx hb hr (fun tE ht _ => ⟨⟨_, w0, rfl, ⟨hf80, rfl⟩, cd_Pt ht hP⟩, hS.F ht⟩) hS.2.2 d_Mo_headerByte_214
  by_cases hc81 : k0 = (40 : Int32)
  · refine g_tabIn (tgt := 207) (off := 206) hx hb d_Mo_headerByte_1 hc81 (by decide) (by decide) (by decide) (by decide) ?_
    refine lv_bipush (v := (52 : Int32)) hx hb d_Mo_headerByte_207 (by decide) ?_
    have hf82 : (f_Mo_headerByte k0) = (52 : Int32) := by rw [f_Mo_headerByte, if_neg hc1, if_neg hc3, if_neg hc5, if_neg hc7, if_neg hc9, if_neg hc11, if_neg hc13, if_neg hc15, if_neg hc17, if_neg hc19, if_neg hc21, if_neg hc23, if_neg hc25, if_neg hc27, if_neg hc29, if_neg hc31, if_neg hc33, if_neg hc35, if_neg hc37, if_neg hc39, if_neg hc41, if_neg hc43, if_neg hc45, if_neg hc47, if_neg hc49, if_neg hc51, if_neg hc53, if_neg hc55, if_neg hc57, if_neg hc59, if_neg hc61, if_neg hc63, if_neg hc65, if_neg hc67, if_neg hc69, if_neg hc71, if_neg hc73, if_neg hc75, if_neg hc77, if_neg hc79, if_pos hc81]
    exact W.iret (v := (52 : Int32)) hx hb hr (fun tE ht _ => ⟨⟨_, w0, rfl, ⟨hf82, rfl⟩, cd_Pt ht hP⟩, hS.F ht⟩) hS.2.2 d_Mo_headerByte_209
  by_cases hc83 : k0 = (41 : Int32)
  · refine g_tabIn (tgt := 213) (off := 212) hx hb d_Mo_headerByte_1 hc83 (by decide) (by decide) (by decide) (by decide) ?_
    refine lv_iconst (v := (0 : Int32)) hx hb d_Mo_headerByte_213 (by decide) ?_
    have hf84 : (f_Mo_headerByte k0) = (0 : Int32) := by rw [f_Mo_headerByte, if_neg hc1, if_neg hc3, if_neg hc5, if_neg hc7, if_neg hc9, if_neg hc11, if_neg hc13, if_neg hc15, if_neg hc17, if_neg hc19, if_neg hc21, if_neg hc23, if_neg hc25, if_neg hc27, if_neg hc29, if_neg hc31, if_neg hc33, if_neg hc35, if_neg hc37, if_neg hc39, if_neg hc41, if_neg hc43, if_neg hc45, if_neg hc47, if_neg hc49, if_neg hc51, if_neg hc53, if_neg hc55, if_neg hc57, if_neg hc59, if_neg hc61, if_neg hc63, if_neg hc65, if_neg hc67, if_neg hc69, if_neg hc71, if_neg hc73, if_neg hc75, if_neg hc77, if_neg hc79, if_neg hc81, if_pos hc83]
    exact W.iret (v := (0 : Int32)) hx hb hr (fun tE ht _ => ⟨⟨_, w0, rfl, ⟨hf84, rfl⟩, cd_Pt ht hP⟩, hS.F ht⟩) hS.2.2 d_Mo_headerByte_214
  by_cases hc85 : k0 = (42 : Int32)
  · refine g_tabIn (tgt := 210) (off := 209) hx hb d_Mo_headerByte_1 hc85 (by decide) (by decide) (by decide) (by decide) ?_
    refine lv_bipush (v := (32 : Int32)) hx hb d_Mo_headerByte_210 (by decide) ?_
    have hf86 : (f_Mo_headerByte k0) = (32 : Int32) := by rw [f_Mo_headerByte, if_neg hc1, if_neg hc3, if_neg hc5, if_neg hc7, if_neg hc9, if_neg hc11, if_neg hc13, if_neg hc15, if_neg hc17, if_neg hc19, if_neg hc21, if_neg hc23, if_neg hc25, if_neg hc27, if_neg hc29, if_neg hc31, if_neg hc33, if_neg hc35, if_neg hc37, if_neg hc39, if_neg hc41, if_neg hc43, if_neg hc45, if_neg hc47, if_neg hc49, if_neg hc51, if_neg hc53, if_neg hc55, if_neg hc57, if_neg hc59, if_neg hc61, if_neg hc63, if_neg hc65, if_neg hc67, if_neg hc69, if_neg hc71, if_neg hc73, if_neg hc75, if_neg hc77, if_neg hc79, if_neg hc81, if_neg hc83, if_pos hc85]
    exact W.iret (v := (32 : Int32)) hx hb hr (fun tE ht _ => ⟨⟨_, w0, rfl, ⟨hf86, rfl⟩, cd_Pt ht hP⟩, hS.F ht⟩) hS.2.2 d_Mo_headerByte_212
  refine lv_tableOut (tgt := 213) hx hb d_Mo_headerByte_1 (cd_out0_42 hc1 hc3 hc5 hc7 hc9 hc11 hc13 hc15 hc17 hc19 hc21 hc23 hc25 hc27 hc29 hc31 hc33 hc35 hc37 hc39 hc41 hc43 hc45 hc47 hc49 hc51 hc53 hc55 hc57 hc59 hc61 hc63 hc65 hc67 hc69 hc71 hc73 hc75 hc77 hc79 hc81 hc83 hc85) (by decide) ?_
  refine lv_iconst (v := (0 : Int32)) hx hb d_Mo_headerByte_213 (by decide) ?_
  have hf87 : (f_Mo_headerByte k0) = (0 : Int32) := by rw [f_Mo_headerByte, if_neg hc1, if_neg hc3, if_neg hc5, if_neg hc7, if_neg hc9, if_neg hc11, if_neg hc13, if_neg hc15, if_neg hc17, if_neg hc19, if_neg hc21, if_neg hc23, if_neg hc25, if_neg hc27, if_neg hc29, if_neg hc31, if_neg hc33, if_neg hc35, if_neg hc37, if_neg hc39, if_neg hc41, if_neg hc43, if_neg hc45, if_neg hc47, if_neg hc49, if_neg hc51, if_neg hc53, if_neg hc55, if_neg hc57, if_neg hc59, if_neg hc61, if_neg hc63, if_neg hc65, if_neg hc67, if_neg hc69, if_neg hc71, if_neg hc73, if_neg hc75, if_neg hc77, if_neg hc79, if_neg hc81, if_neg hc83, if_neg hc85]
  exact W.iret (v := (0 : Int32)) hx hb hr (fun tE ht _ => ⟨⟨_, w0, rfl, ⟨hf87, rfl⟩, cd_Pt ht hP⟩, hS.F ht⟩) hS.2.2 d_Mo_headerByte_214
def f_Mo_fieldOf (k0 : Int32) : Int32 := (if (16 : Int32) ≤ k0 then (if (20 : Int32) ≤ k0 then (if (40 : Int32) ≤ k0 then (k0 - (k0 - k0 / (2 : Int32) * (2 : Int32))) else (k0 - (k0 - k0 / (4 : Int32) * (4 : Int32)))) else (k0 - (k0 - k0 / (2 : Int32) * (2 : Int32)))) else k0)
set_option maxHeartbeats 4000000 in
set_option maxRecDepth 100000 in
theorem c_Mo_fieldOf (l : Launch) (D : va_G) (tt : Nat → ClassId) (ad : Nat → Nat) (N : Nat) (A : Nat → Prop) (zs : Nat → Nat) (w0 : Nat → va_E) (k0 : Int32) : Met l y_Mo_fieldOf w_Mo_fieldOf ({ frames := 0, cells := 0, slots := 0, locals := 0 }) (va_Pc [.int k0] (cd_U D tt ad N A zs w0)) (va_Qi (fun r w' => (f_Mo_fieldOf k0) = r ∧ w0 = w') (fun w' t => cd_P D ad N A w' t.heap) A) 0 0 A := by
  refine Met.ofW (cc := b_Mo_fieldOf) (maxL := 1) (ret := (some .int)) (by decide) rfl ?_
  intro p e s m args below meth c s₁ B hml hv
  obtain ⟨rfl, hP, hK, hZ⟩ := hv
  have hx := B.exec
  have hb := B.bytes
  have hr := B.returns
  have hA : ∀ w ∈ cd_AW, w.before _ s = true := fun w h => atoms_spec (ws := w_Mo_fieldOf) B.pre w (List.mem_cons_of_mem _ h)
  have hown : s.vm.findClass R_Mo = some m.cls := findClass_of_methodNamed B.named
  have hlocks := B.notSynchronized
  have hS : va_S A s.heap s.heap [] := va_S.rf
  have hl := lv_entry ([.int k0]) (n := 1) (Nat.le_of_ble_eq_true rfl)
  rw [lg_entry_eq]
  generalize (lg_sl ([.int k0]) ++ List.replicate (1 - (lg_sl ([.int k0])).length) Slot.unset).toArray = ls at hl ⊢
  have hl : lv_has ls 1 [(0, .int k0)] := hl
  refine lv_iload_n hx hb d_Mo_fieldOf_0 rfl (lv_at hl 0 rfl) ?_
  refine lv_bipush (v := (16 : Int32)) hx hb d_Mo_fieldOf_1 (by decide) ?_
  refine lv_icmp_ge (tgt := 10) hx hb d_Mo_fieldOf_3 (by decide) (fun hc1 => ?_) (fun hc1 => ?_)
  · refine lv_iload_n hx hb d_Mo_fieldOf_10 rfl (lv_at hl 0 rfl) ?_
    refine lv_bipush (v := (20 : Int32)) hx hb d_Mo_fieldOf_11 (by decide) ?_
    refine lv_icmp_ge (tgt := 24) hx hb d_Mo_fieldOf_13 (by decide) (fun hc2 => ?_) (fun hc2 => ?_)
    · refine lv_iload_n hx hb d_Mo_fieldOf_24 rfl (lv_at hl 0 rfl) ?_
      refine lv_bipush (v := (40 : Int32)) hx hb d_Mo_fieldOf_25 (by decide) ?_
      refine lv_icmp_ge (tgt := 38) hx hb d_Mo_fieldOf_27 (by decide) (fun hc3 => ?_) (fun hc3 => ?_)
      · refine lv_iload_n hx hb d_Mo_fieldOf_38 rfl (lv_at hl 0 rfl) ?_
        refine lv_iload_n hx hb d_Mo_fieldOf_39 rfl (lv_at hl 0 rfl) ?_
        refine lv_iconst (v := (2 : Int32)) hx hb d_Mo_fieldOf_40 (by decide) ?_
        refine lv_irem hx hb d_Mo_fieldOf_41 (by decide) ?_
        refine lv_isub hx hb d_Mo_fieldOf_42 ?_
        have hf4 : (f_Mo_fieldOf k0) = (k0 - (k0 - k0 / (2 : Int32) * (2 : Int32))) := by rw [f_Mo_fieldOf, if_pos hc1, if_pos hc2, if_pos hc3]
        exact W.iret (v := (k0 - (k0 - k0 / (2 : Int32) * (2 : Int32)))) hx hb hr (fun tE ht _ => ⟨⟨_, w0, rfl, ⟨hf4, rfl⟩, cd_Pt ht hP⟩, hS.F ht⟩) hS.2.2 d_Mo_fieldOf_43
      · refine lv_iload_n hx hb d_Mo_fieldOf_30 rfl (lv_at hl 0 rfl) ?_
        refine lv_iload_n hx hb d_Mo_fieldOf_31 rfl (lv_at hl 0 rfl) ?_
        refine lv_iconst (v := (4 : Int32)) hx hb d_Mo_fieldOf_32 (by decide) ?_
        refine lv_irem hx hb d_Mo_fieldOf_33 (by decide) ?_
        refine lv_isub hx hb d_Mo_fieldOf_34 ?_
        refine lv_goto (tgt := 43) hx hb d_Mo_fieldOf_35 (by decide) ?_
        have hf5 : (f_Mo_fieldOf k0) = (k0 - (k0 - k0 / (4 : Int32) * (4 : Int32))) := by rw [f_Mo_fieldOf, if_pos hc1, if_pos hc2, if_neg hc3]
        exact W.iret (v := (k0 - (k0 - k0 / (4 : Int32) * (4 : Int32)))) hx hb hr (fun tE ht _ => ⟨⟨_, w0, rfl, ⟨hf5, rfl⟩, cd_Pt ht hP⟩, hS.F ht⟩) hS.2.2 d_Mo_fieldOf_43
    · refine lv_iload_n hx hb d_Mo_fieldOf_16 rfl (lv_at hl 0 rfl) ?_
      refine lv_iload_n hx hb d_Mo_fieldOf_17 rfl (lv_at hl 0 rfl) ?_
      refine lv_iconst (v := (2 : Int32)) hx hb d_Mo_fieldOf_18 (by decide) ?_
      refine lv_irem hx hb d_Mo_fieldOf_19 (by decide) ?_
      refine lv_isub hx hb d_Mo_fieldOf_20 ?_
      refine lv_goto (tgt := 43) hx hb d_Mo_fieldOf_21 (by decide) ?_
      have hf6 : (f_Mo_fieldOf k0) = (k0 - (k0 - k0 / (2 : Int32) * (2 : Int32))) := by rw [f_Mo_fieldOf, if_pos hc1, if_neg hc2]
      exact W.iret (v := (k0 - (k0 - k0 / (2 : Int32) * (2 : Int32)))) hx hb hr (fun tE ht _ => ⟨⟨_, w0, rfl, ⟨hf6, rfl⟩, cd_Pt ht hP⟩, hS.F ht⟩) hS.2.2 d_Mo_fieldOf_43
  · refine lv_iload_n hx hb d_Mo_fieldOf_6 rfl (lv_at hl 0 rfl) ?_
    refine lv_goto (tgt := 43) hx hb d_Mo_fieldOf_7 (by decide) ?_
    have hf7 : (f_Mo_fieldOf k0) = k0 := by rw [f_Mo_fieldOf, if_neg hc1]
    exact W.iret (v := k0) hx hb hr (fun tE ht _ => ⟨⟨_, w0, rfl, ⟨hf7, rfl⟩, cd_Pt ht hP⟩, hS.F ht⟩) hS.2.2 d_Mo_fieldOf_43
