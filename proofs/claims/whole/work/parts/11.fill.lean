def f_Arr_fillI_L5 (n : Nat) (u : cd_Ia) (v : Int32) : Nat → Int32 → Int32 → cd_Ia → cd_Ia
  | 0, _, _, _ => default
  | gn + 1, i, x, u' => (if x ≤ i then u' else (f_Arr_fillI_L5 n u v gn (i + (1 : Int32)) x (upd u' i.toNatClampNeg v)))
def f_Arr_fillI (n : Nat) (u : cd_Ia) (v : Int32) : cd_Ia := (f_Arr_fillI_L5 n u v 25 (0 : Int32) (nI n) u)
def o_Arr_fillI_L5 (n : Nat) (u : cd_Ia) (v : Int32) : Nat → Int32 → Int32 → cd_Ia → Prop
  | 0, _, _, _ => False
  | gn + 1, i, x, u' => (¬ x ≤ i → vp_in i n) ∧ (¬ x ≤ i → o_Arr_fillI_L5 n u v gn (i + (1 : Int32)) x (upd u' i.toNatClampNeg v))
def o_Arr_fillI (n : Nat) (u : cd_Ia) (v : Int32) : Prop := (o_Arr_fillI_L5 n u v 25 (0 : Int32) (nI n) u)
set_option maxHeartbeats 4000000 in
set_option maxRecDepth 100000 in
theorem c_Arr_fillI (l : Launch) (D : va_G) (tt : Nat → ClassId) (ad : Nat → Nat) (N : Nat) (A : Nat → Prop) (zs : Nat → Nat) (w0 : Nat → va_E) (q n : Nat) (u : cd_Ia) (v : Int32) (hR0 : cd_IaAt N tt ad w0 q n u) (ho : o_Arr_fillI n u v) : Met l y_Arr_fill1 w_Arr_fill1 ({ frames := 0, cells := 0, slots := 0, locals := 0 }) (va_Pc [.ref (ad q), .int v] (cd_U D tt ad N A zs w0)) (va_Qv (fun w' => cd_IaAt N tt ad w' q n (f_Arr_fillI n u v) ∧ (∀ k : Nat, (k < q ∨ q + 1 ≤ k) → w' k = w0 k)) (fun w' t => cd_P D ad N A w' t.heap) A) 0 0 A := by
  refine Met.ofW (cc := b_Arr_fill1) (maxL := 4) (ret := none) (by decide) rfl ?_
  intro p e s m args below meth c s₁ B hml hv
  obtain ⟨rfl, hP, hK, hZ⟩ := hv
  have hx := B.exec
  have hb := B.bytes
  have hr := B.returns
  have hA : ∀ w ∈ cd_AW, w.before _ s = true := fun w h => atoms_spec (ws := w_Arr_fill1) B.pre w (List.mem_cons_of_mem _ h)
  have hown : s.vm.findClass R_Arr = some m.cls := findClass_of_methodNamed B.named
  have hlocks := B.notSynchronized
  have L5 : ∀ (gn : Nat) (i : Int32) (x : Int32) (u' : cd_Ia) (w : Nat → va_E) (efr : ∀ k : Nat, (k < q ∨ q + 1 ≤ k) → w k = w0 k) (H : Heap) (locs : List Loc) (ls : Array Slot), lv_has ls 4 [(0, .ref (ad q)), (1, .int v), (2, .int i), (3, .int x)] → (f_Arr_fillI n u v) = f_Arr_fillI_L5 n u v gn i x u' → cd_IaAt N tt ad w q n u' → cd_P D ad N A w H → va_S A s.heap H locs → o_Arr_fillI_L5 n u v gn i x u' → W p l e (headSpec w_Arr_fill1 ({ frames := 0, cells := 0, slots := 0, locals := 0 })).room s m [.ref (ad q), .int v].toArray below meth c H locs 0 0 (MQ below (va_Qv (fun w' => cd_IaAt N tt ad w' q n (f_Arr_fillI n u v) ∧ (∀ k : Nat, (k < q ∨ q + 1 ≤ k) → w' k = w0 k)) (fun w' t => cd_P D ad N A w' t.heap) A) [.ref (ad q), .int v].toArray s 0 0 A) (F0 m 5 ls []) := by
    intro gn
    induction gn with
    | zero => intro i x u' w efr H locs ls hl he hL0 hP hS ho; exact ho.elim
    | succ gn ih =>
      intro i x u' w efr H locs ls hl he hL0 hP hS ho
      have ho : (¬ x ≤ i → vp_in i n) ∧ (¬ x ≤ i → o_Arr_fillI_L5 n u v gn (i + (1 : Int32)) x (upd u' i.toNatClampNeg v)) := ho
      obtain ⟨hn1, fa2⟩ := hL0
      refine lv_iload_n hx hb d_Arr_fill1_5 rfl (lv_at hl 2 rfl) ?_
      refine lv_iload_n hx hb d_Arr_fill1_6 rfl (lv_at hl 3 rfl) ?_
      refine lv_icmp_ge (tgt := 20) hx hb d_Arr_fill1_7 (by decide) (fun hc3 => ?_) (fun hc3 => ?_)
      · have hf4 : (f_Arr_fillI n u v) = u' := by rw [he, f_Arr_fillI_L5, if_pos hc3]
        exact W.vret hx hb hr (fun tE ht _ => ⟨⟨w, rfl, ⟨(by rw [hf4]; exact ⟨hn1, fa2⟩), (fun k hk => (efr k (by omega)))⟩, cd_Pt ht hP⟩, hS.F ht⟩) hS.2.2 d_Arr_fill1_20
      · refine lv_aload_n hx hb d_Arr_fill1_10 rfl (lv_at hl 0 rfl) ?_
        refine lv_iload_n hx hb d_Arr_fill1_11 rfl (lv_at hl 2 rfl) ?_
        refine lv_iload_n hx hb d_Arr_fill1_12 rfl (lv_at hl 1 rfl) ?_
        refine g_iast hx hb hK hP hS (k := q) (by omega) fa2 rfl (ho.1 hc3) d_Arr_fill1_13 (fun H locs w1 fa5 e1 hP hS => ?_)
        refine lv_iinc (k := 2) (v := (i + (1 : Int32))) (lv' := [(2, .int (i + (1 : Int32))), (0, .ref (ad q)), (1, .int v), (3, .int x)]) hx hb d_Arr_fill1_14 hl rfl (cd_inc _ _ _ (by decide)) (by decide) rfl (fun ls hl => ?_)
        refine lv_goto (tgt := 5) hx hb d_Arr_fill1_17 (by decide) ?_
        exact ih (i + (1 : Int32)) x (upd u' i.toNatClampNeg v) w1 (fun k hk => ((e1 k (by omega)).trans (efr k (by omega)))) H locs ls (lv_sub hl [1, 2, 0, 3] rfl) (show (f_Arr_fillI n u v) = f_Arr_fillI_L5 n u v gn (i + (1 : Int32)) x (upd u' i.toNatClampNeg v) by rw [he, f_Arr_fillI_L5, if_neg hc3]) (⟨hn1, fa5⟩) hP hS (ho.2 hc3)
  have hS : va_S A s.heap s.heap [] := va_S.rf
  have hl := lv_entry ([.ref (ad q), .int v]) (n := 4) (Nat.le_of_ble_eq_true rfl)
  rw [lg_entry_eq]
  generalize (lg_sl ([.ref (ad q), .int v]) ++ List.replicate (4 - (lg_sl ([.ref (ad q), .int v])).length) Slot.unset).toArray = ls at hl ⊢
  have hl : lv_has ls 4 [(0, .ref (ad q)), (1, .int v)] := hl
  have ho : (o_Arr_fillI_L5 n u v 25 (0 : Int32) (nI n) u) := ho
  obtain ⟨hn6, fa7⟩ := hR0
  refine lv_iconst (v := (0 : Int32)) hx hb d_Arr_fill1_0 (by decide) ?_
  refine lv_istore_n (lv' := [(2, .int (0 : Int32)), (0, .ref (ad q)), (1, .int v)]) hx hb d_Arr_fill1_1 rfl hl (by decide) rfl (fun ls hl => ?_)
  refine lv_aload_n hx hb d_Arr_fill1_2 rfl (lv_at hl 1 rfl) ?_
  refine g_alen (v := (nI n)) hx hb hK hP (k := q) (by omega) fa7 (t0 := 1) rfl rfl d_Arr_fill1_3 ?_
  refine lv_istore_n (lv' := [(3, .int (nI n)), (2, .int (0 : Int32)), (0, .ref (ad q)), (1, .int v)]) hx hb d_Arr_fill1_4 rfl hl (by decide) rfl (fun ls hl => ?_)
  exact L5 25 (0 : Int32) (nI n) u w0 (fun _ _ => rfl) s.heap [] ls (lv_sub hl [2, 3, 1, 0] rfl) (show (f_Arr_fillI n u v) = f_Arr_fillI_L5 n u v 25 (0 : Int32) (nI n) u by rw [f_Arr_fillI]) (⟨hn6, fa7⟩) hP hS (ho)
def f_Arr_fillB_L5 (n : Nat) (u : cd_By) (v : Int32) : Nat → Int32 → Int32 → cd_By → cd_By
  | 0, _, _, _ => default
  | gn + 1, i, x, u' => (if x ≤ i then u' else (f_Arr_fillB_L5 n u v gn (i + (1 : Int32)) x (upd u' i.toNatClampNeg (vp_nar .byte v))))
def f_Arr_fillB (n : Nat) (u : cd_By) (v : Int32) : cd_By := (f_Arr_fillB_L5 n u v 1025 (0 : Int32) (nI n) u)
def o_Arr_fillB_L5 (n : Nat) (u : cd_By) (v : Int32) : Nat → Int32 → Int32 → cd_By → Prop
  | 0, _, _, _ => False
  | gn + 1, i, x, u' => (¬ x ≤ i → vp_in i n) ∧ (¬ x ≤ i → o_Arr_fillB_L5 n u v gn (i + (1 : Int32)) x (upd u' i.toNatClampNeg (vp_nar .byte v)))
def o_Arr_fillB (n : Nat) (u : cd_By) (v : Int32) : Prop := (o_Arr_fillB_L5 n u v 1025 (0 : Int32) (nI n) u)
set_option maxHeartbeats 4000000 in
set_option maxRecDepth 100000 in
theorem c_Arr_fillB (l : Launch) (D : va_G) (tt : Nat → ClassId) (ad : Nat → Nat) (N : Nat) (A : Nat → Prop) (zs : Nat → Nat) (w0 : Nat → va_E) (q n : Nat) (u : cd_By) (v : Int32) (hR0 : cd_ByAt N tt ad w0 q n u) (ho : o_Arr_fillB n u v) : Met l y_Arr_fill0 w_Arr_fill0 ({ frames := 0, cells := 0, slots := 0, locals := 0 }) (va_Pc [.ref (ad q), .int v] (cd_U D tt ad N A zs w0)) (va_Qv (fun w' => cd_ByAt N tt ad w' q n (f_Arr_fillB n u v) ∧ (∀ k : Nat, (k < q ∨ q + 1 ≤ k) → w' k = w0 k)) (fun w' t => cd_P D ad N A w' t.heap) A) 0 0 A := by
  refine Met.ofW (cc := b_Arr_fill0) (maxL := 4) (ret := none) (by decide) rfl ?_
  intro p e s m args below meth c s₁ B hml hv
  obtain ⟨rfl, hP, hK, hZ⟩ := hv
  have hx := B.exec
  have hb := B.bytes
  have hr := B.returns
  have hA : ∀ w ∈ cd_AW, w.before _ s = true := fun w h => atoms_spec (ws := w_Arr_fill0) B.pre w (List.mem_cons_of_mem _ h)
  have hown : s.vm.findClass R_Arr = some m.cls := findClass_of_methodNamed B.named
  have hlocks := B.notSynchronized
  have L5 : ∀ (gn : Nat) (i : Int32) (x : Int32) (u' : cd_By) (w : Nat → va_E) (efr : ∀ k : Nat, (k < q ∨ q + 1 ≤ k) → w k = w0 k) (H : Heap) (locs : List Loc) (ls : Array Slot), lv_has ls 4 [(0, .ref (ad q)), (1, .int v), (2, .int i), (3, .int x)] → (f_Arr_fillB n u v) = f_Arr_fillB_L5 n u v gn i x u' → cd_ByAt N tt ad w q n u' → cd_P D ad N A w H → va_S A s.heap H locs → o_Arr_fillB_L5 n u v gn i x u' → W p l e (headSpec w_Arr_fill0 ({ frames := 0, cells := 0, slots := 0, locals := 0 })).room s m [.ref (ad q), .int v].toArray below meth c H locs 0 0 (MQ below (va_Qv (fun w' => cd_ByAt N tt ad w' q n (f_Arr_fillB n u v) ∧ (∀ k : Nat, (k < q ∨ q + 1 ≤ k) → w' k = w0 k)) (fun w' t => cd_P D ad N A w' t.heap) A) [.ref (ad q), .int v].toArray s 0 0 A) (F0 m 5 ls []) := by
    intro gn
    induction gn with
    | zero => intro i x u' w efr H locs ls hl he hL0 hP hS ho; exact ho.elim
    | succ gn ih =>
      intro i x u' w efr H locs ls hl he hL0 hP hS ho
      have ho : (¬ x ≤ i → vp_in i n) ∧ (¬ x ≤ i → o_Arr_fillB_L5 n u v gn (i + (1 : Int32)) x (upd u' i.toNatClampNeg (vp_nar .byte v))) := ho
      obtain ⟨hn1, fa2⟩ := hL0
      refine lv_iload_n hx hb d_Arr_fill0_5 rfl (lv_at hl 2 rfl) ?_
      refine lv_iload_n hx hb d_Arr_fill0_6 rfl (lv_at hl 3 rfl) ?_
      refine lv_icmp_ge (tgt := 20) hx hb d_Arr_fill0_7 (by decide) (fun hc3 => ?_) (fun hc3 => ?_)
      · have hf4 : (f_Arr_fillB n u v) = u' := by rw [he, f_Arr_fillB_L5, if_pos hc3]
        exact W.vret hx hb hr (fun tE ht _ => ⟨⟨w, rfl, ⟨(by rw [hf4]; exact ⟨hn1, fa2⟩), (fun k hk => (efr k (by omega)))⟩, cd_Pt ht hP⟩, hS.F ht⟩) hS.2.2 d_Arr_fill0_20
      · refine lv_aload_n hx hb d_Arr_fill0_10 rfl (lv_at hl 0 rfl) ?_
        refine lv_iload_n hx hb d_Arr_fill0_11 rfl (lv_at hl 2 rfl) ?_
        refine lv_iload_n hx hb d_Arr_fill0_12 rfl (lv_at hl 1 rfl) ?_
        refine g_bast hx hb hK hP hS (k := q) (by omega) fa2 rfl (ho.1 hc3) d_Arr_fill0_13 (fun H locs w1 fa5 e1 hP hS => ?_)
        refine lv_iinc (k := 2) (v := (i + (1 : Int32))) (lv' := [(2, .int (i + (1 : Int32))), (0, .ref (ad q)), (1, .int v), (3, .int x)]) hx hb d_Arr_fill0_14 hl rfl (cd_inc _ _ _ (by decide)) (by decide) rfl (fun ls hl => ?_)
        refine lv_goto (tgt := 5) hx hb d_Arr_fill0_17 (by decide) ?_
        exact ih (i + (1 : Int32)) x (upd u' i.toNatClampNeg (vp_nar .byte v)) w1 (fun k hk => ((e1 k (by omega)).trans (efr k (by omega)))) H locs ls (lv_sub hl [1, 2, 0, 3] rfl) (show (f_Arr_fillB n u v) = f_Arr_fillB_L5 n u v gn (i + (1 : Int32)) x (upd u' i.toNatClampNeg (vp_nar .byte v)) by rw [he, f_Arr_fillB_L5, if_neg hc3]) (⟨hn1, fa5⟩) hP hS (ho.2 hc3)
  have hS : va_S A s.heap s.heap [] := va_S.rf
  have hl := lv_entry ([.ref (ad q), .int v]) (n := 4) (Nat.le_of_ble_eq_true rfl)
  rw [lg_entry_eq]
  generalize (lg_sl ([.ref (ad q), .int v]) ++ List.replicate (4 - (lg_sl ([.ref (ad q), .int v])).length) Slot.unset).toArray = ls at hl ⊢
  have hl : lv_has ls 4 [(0, .ref (ad q)), (1, .int v)] := hl
  have ho : (o_Arr_fillB_L5 n u v 1025 (0 : Int32) (nI n) u) := ho
  obtain ⟨hn6, fa7⟩ := hR0
  refine lv_iconst (v := (0 : Int32)) hx hb d_Arr_fill0_0 (by decide) ?_
  refine lv_istore_n (lv' := [(2, .int (0 : Int32)), (0, .ref (ad q)), (1, .int v)]) hx hb d_Arr_fill0_1 rfl hl (by decide) rfl (fun ls hl => ?_)
  refine lv_aload_n hx hb d_Arr_fill0_2 rfl (lv_at hl 1 rfl) ?_
  refine g_alen (v := (nI n)) hx hb hK hP (k := q) (by omega) fa7 (t0 := 0) rfl rfl d_Arr_fill0_3 ?_
  refine lv_istore_n (lv' := [(3, .int (nI n)), (2, .int (0 : Int32)), (0, .ref (ad q)), (1, .int v)]) hx hb d_Arr_fill0_4 rfl hl (by decide) rfl (fun ls hl => ?_)
  exact L5 1025 (0 : Int32) (nI n) u w0 (fun _ _ => rfl) s.heap [] ls (lv_sub hl [2, 3, 1, 0] rfl) (show (f_Arr_fillB n u v) = f_Arr_fillB_L5 n u v 1025 (0 : Int32) (nI n) u by rw [f_Arr_fillB]) (⟨hn6, fa7⟩) hP hS (ho)
