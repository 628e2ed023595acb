def f_Row_length (n : Nat) (u : cd_Row) : Int32 := u.1
set_option maxHeartbeats 4000000 in
set_option maxRecDepth 100000 in
theorem c_Row_length (l : Launch) (D : va_G) (tt : Nat → ClassId) (ad : Nat → Nat) (N : Nat) (A : Nat → Prop) (zs : Nat → Nat) (w0 : Nat → va_E) (q n : Nat) (u : cd_Row) (hR0 : cd_RowAt N tt ad w0 q n u) : Met l y_Row_length w_Row_length ({ frames := 0, cells := 0, slots := 0, locals := 0 }) (va_Pc [.ref (ad q)] (cd_U D tt ad N A zs w0)) (va_Qi (fun r w' => (f_Row_length n u) = r ∧ w0 = w') (fun w' t => cd_P D ad N A w' t.heap) A) 0 0 A := by
  refine Met.ofW (cc := b_Row_length) (maxL := 1) (ret := (some .int)) (by decide) rfl ?_
  intro p e s m args below meth c s₁ B hml hv
  obtain ⟨rfl, hP, hK, hZ⟩ := hv
  have hx := B.exec
  have hb := B.bytes
  have hr := B.returns
  have hA : ∀ w ∈ cd_AW, w.before _ s = true := fun w h => atoms_spec (ws := w_Row_length) B.pre w (List.mem_cons_of_mem _ h)
  have hown : s.vm.findClass R_Row = some m.cls := findClass_of_methodNamed B.named
  have hlocks := B.notSynchronized
  have hS : va_S A s.heap s.heap [] := va_S.rf
  have hl := lv_entry ([.ref (ad q)]) (n := 1) (Nat.le_of_ble_eq_true rfl)
  rw [lg_entry_eq]
  generalize (lg_sl ([.ref (ad q)]) ++ List.replicate (1 - (lg_sl ([.ref (ad q)])).length) Slot.unset).toArray = ls at hl ⊢
  have hl : lv_has ls 1 [(0, .ref (ad q))] := hl
  obtain ⟨hn1, fa2, fa3⟩ := hR0
  refine lv_aload_n hx hb d_Row_length_0 rfl (lv_at hl 0 rfl) ?_
  refine g_get (ci := 0) (C := R_Row) (T := F_Row) (Nf := 2) (v := .int u.1) hx hb hA in_Row hown hK hP (k := q) (by omega) fa2 rfl 1 (by decide) (hA _ aw_69) (fun _ h9 => h9) rfl d_Row_length_1 ?_
  have hf4 : (f_Row_length n u) = u.1 := by rw [f_Row_length]
  exact W.iret (v := u.1) hx hb hr (fun tE ht _ => ⟨⟨_, w0, rfl, ⟨hf4, rfl⟩, cd_Pt ht hP⟩, hS.F ht⟩) hS.2.2 d_Row_length_4
def f_Row_at (n : Nat) (u : cd_Row) (k : Int32) : Int32 := (if k < 0 then (-1 : Int32) else (if k < u.1 then ((u.2 k.toNatClampNeg) &&& (255 : Int32)) else (-1 : Int32)))
def o_Row_at (n : Nat) (u : cd_Row) (k : Int32) : Prop := (¬ k < 0 → k < u.1 → vp_in k n)
set_option maxHeartbeats 4000000 in
set_option maxRecDepth 100000 in
theorem c_Row_at (l : Launch) (D : va_G) (tt : Nat → ClassId) (ad : Nat → Nat) (N : Nat) (A : Nat → Prop) (zs : Nat → Nat) (w0 : Nat → va_E) (q n : Nat) (u : cd_Row) (k : Int32) (hR0 : cd_RowAt N tt ad w0 q n u) (ho : o_Row_at n u k) : Met l y_Row_at w_Row_at ({ frames := 0, cells := 0, slots := 0, locals := 0 }) (va_Pc [.ref (ad q), .int k] (cd_U D tt ad N A zs w0)) (va_Qi (fun r w' => (f_Row_at n u k) = r ∧ w0 = w') (fun w' t => cd_P D ad N A w' t.heap) A) 0 0 A := by
  refine Met.ofW (cc := b_Row_at) (maxL := 2) (ret := (some .int)) (by decide) rfl ?_
  intro p e s m args below meth c s₁ B hml hv
  obtain ⟨rfl, hP, hK, hZ⟩ := hv
  have hx := B.exec
  have hb := B.bytes
  have hr := B.returns
  have hA : ∀ w ∈ cd_AW, w.before _ s = true := fun w h => atoms_spec (ws := w_Row_at) B.pre w (List.mem_cons_of_mem _ h)
  have hown : s.vm.findClass R_Row = some m.cls := findClass_of_methodNamed B.named
  have hlocks := B.notSynchronized
  have hS : va_S A s.heap s.heap [] := va_S.rf
  have hl := lv_entry ([.ref (ad q), .int k]) (n := 2) (Nat.le_of_ble_eq_true rfl)
  rw [lg_entry_eq]
  generalize (lg_sl ([.ref (ad q), .int k]) ++ List.replicate (2 - (lg_sl ([.ref (ad q), .int k])).length) Slot.unset).toArray = ls at hl ⊢
  have hl : lv_has ls 2 [(0, .ref (ad q)), (1, .int k)] := hl
  have ho : (¬ k < 0 → k < u.1 → vp_in k n) := ho
  obtain ⟨hn1, fa2, fa3⟩ := hR0
  refine lv_iload_n hx hb d_Row_at_0 rfl (lv_at hl 1 rfl) ?_
  refine lv_if_lt (tgt := 12) hx hb d_Row_at_1 (by decide) (fun hc4 => ?_) (fun hc4 => ?_)
  · refine lv_iconst (v := (-1 : Int32)) hx hb d_Row_at_12 (by decide) ?_
    refine lv_goto (tgt := 26) hx hb d_Row_at_13 (by decide) ?_
    have hf5 : (f_Row_at n u k) = (-1 : Int32) := by rw [f_Row_at, if_pos hc4]
    exact W.iret (v := (-1 : Int32)) hx hb hr (fun tE ht _ => ⟨⟨_, w0, rfl, ⟨hf5, rfl⟩, cd_Pt ht hP⟩, hS.F ht⟩) hS.2.2 d_Row_at_26
  · refine lv_iload_n hx hb d_Row_at_4 rfl (lv_at hl 1 rfl) ?_
    refine lv_aload_n hx hb d_Row_at_5 rfl (lv_at hl 0 rfl) ?_
    refine g_get (ci := 0) (C := R_Row) (T := F_Row) (Nf := 2) (v := .int u.1) hx hb hA in_Row hown hK hP (k := q) (by omega) fa2 rfl 1 (by decide) (hA _ aw_69) (fun _ h9 => h9) rfl d_Row_at_6 ?_
    refine lv_icmp_lt (tgt := 16) hx hb d_Row_at_9 (by decide) (fun hc6 => ?_) (fun hc6 => ?_)
    · refine lv_aload_n hx hb d_Row_at_16 rfl (lv_at hl 0 rfl) ?_
      refine g_get (ci := 0) (C := R_Row) (T := F_Row) (Nf := 2) (v := .ref (ad (q + 1))) hx hb hA in_Row hown hK hP (k := q) (by omega) fa2 rfl 0 (by decide) (hA _ aw_68) (fun _ h9 => h9) rfl d_Row_at_17 ?_
      refine lv_iload_n hx hb d_Row_at_20 rfl (lv_at hl 1 rfl) ?_
      refine g_bald hx hb hK hP (k := (q + 1)) (by omega) fa3 rfl (ho hc4 hc6) d_Row_at_21 ?_
      refine lv_sipush (v := (255 : Int32)) hx hb d_Row_at_22 (by decide) ?_
      refine lv_iand hx hb d_Row_at_25 ?_
      have hf7 : (f_Row_at n u k) = ((u.2 k.toNatClampNeg) &&& (255 : Int32)) := by rw [f_Row_at, if_neg hc4, if_pos hc6]
      exact W.iret (v := ((u.2 k.toNatClampNeg) &&& (255 : Int32))) hx hb hr (fun tE ht _ => ⟨⟨_, w0, rfl, ⟨hf7, rfl⟩, cd_Pt ht hP⟩, hS.F ht⟩) hS.2.2 d_Row_at_26
    · refine lv_iconst (v := (-1 : Int32)) hx hb d_Row_at_12 (by decide) ?_
      refine lv_goto (tgt := 26) hx hb d_Row_at_13 (by decide) ?_
      have hf8 : (f_Row_at n u k) = (-1 : Int32) := by rw [f_Row_at, if_neg hc4, if_neg hc6]
      exact W.iret (v := (-1 : Int32)) hx hb hr (fun tE ht _ => ⟨⟨_, w0, rfl, ⟨hf8, rfl⟩, cd_Pt ht hP⟩, hS.F ht⟩) hS.2.2 d_Row_at_26
def f_Row_number_L23 (n : Nat) (u : cd_Row) (k : Int32) (x : Int32) : Nat → Int32 → Int32 → Int32
  | 0, _, _ => default
  | gn + 1, v, i => (if i < 0 then v else (f_Row_number_L23 n u k x gn ((v <<< ((8 : Int32) &&& 31)) ||| ((u.2 (k + i).toNatClampNeg) &&& (255 : Int32))) (i + (-1 : Int32))))
def f_Row_number (n : Nat) (u : cd_Row) (k : Int32) (x : Int32) : Int32 := (if k < 0 then (0 : Int32) else (if k ≤ (u.1 - x) then (f_Row_number_L23 n u k x 5 (0 : Int32) (x - (1 : Int32))) else (0 : Int32)))
def o_Row_number_L23 (n : Nat) (u : cd_Row) (k : Int32) (x : Int32) : Nat → Int32 → Int32 → Prop
  | 0, _, _ => False
  | gn + 1, v, i => (¬ i < 0 → vp_in (k + i) n) ∧ (¬ i < 0 → o_Row_number_L23 n u k x gn ((v <<< ((8 : Int32) &&& 31)) ||| ((u.2 (k + i).toNatClampNeg) &&& (255 : Int32))) (i + (-1 : Int32)))
def o_Row_number (n : Nat) (u : cd_Row) (k : Int32) (x : Int32) : Prop := (¬ k < 0 → k ≤ (u.1 - x) → o_Row_number_L23 n u k x 5 (0 : Int32) (x - (1 : Int32)))
set_option maxHeartbeats 4000000 in
set_option maxRecDepth 100000 in
theorem c_Row_number (l : Launch) (D : va_G) (tt : Nat → ClassId) (ad : Nat → Nat) (N : Nat) (A : Nat → Prop) (zs : Nat → Nat) (w0 : Nat → va_E) (q n : Nat) (u : cd_Row) (k : Int32) (x : Int32) (hR0 : cd_RowAt N tt ad w0 q n u) (ho : o_Row_number n u k x) : Met l y_Row_number w_Row_number ({ frames := 0, cells := 0, slots := 0, locals := 0 }) (va_Pc [.ref (ad q), .int k, .int x] (cd_U D tt ad N A zs w0)) (va_Qi (fun r w' => (f_Row_number n u k x) = r ∧ w0 = w') (fun w' t => cd_P D ad N A w' t.heap) A) 0 0 A := by
  refine Met.ofW (cc := b_Row_number) (maxL := 5) (ret := (some .int)) (by decide) rfl ?_
  intro p e s m args below meth c s₁ B hml hv
  obtain ⟨rfl, hP, hK, hZ⟩ := hv
  have hx := B.exec
  have hb := B.bytes
  have hr := B.returns
  have hA : ∀ w ∈ cd_AW, w.before _ s = true := fun w h => atoms_spec (ws := w_Row_number) B.pre w (List.mem_cons_of_mem _ h)
  have hown : s.vm.findClass R_Row = some m.cls := findClass_of_methodNamed B.named
  have hlocks := B.notSynchronized
  have L23 : ∀ (gn : Nat) (v : Int32) (i : Int32) (H : Heap) (locs : List Loc) (ls : Array Slot), lv_has ls 5 [(0, .ref (ad q)), (1, .int k), (2, .int x), (3, .int v), (4, .int i)] → (f_Row_number n u k x) = f_Row_number_L23 n u k x gn v i → cd_RowAt N tt ad w0 q n u → cd_P D ad N A w0 H → va_S A s.heap H locs → o_Row_number_L23 n u k x gn v i → W p l e (headSpec w_Row_number ({ frames := 0, cells := 0, slots := 0, locals := 0 })).room s m [.ref (ad q), .int k, .int x].toArray below meth c H locs 0 0 (MQ below (va_Qi (fun r w' => (f_Row_number n u k x) = r ∧ w0 = w') (fun w' t => cd_P D ad N A w' t.heap) A) [.ref (ad q), .int k, .int x].toArray s 0 0 A) (F0 m 23 ls []) := by
    intro gn
    induction gn with
    | zero => intro v i H locs ls hl he hL0 hP hS ho; exact ho.elim
    | succ gn ih =>
      intro v i H locs ls hl he hL0 hP hS ho
      have ho : (¬ i < 0 → vp_in (k + i) n) ∧ (¬ i < 0 → o_Row_number_L23 n u k x gn ((v <<< ((8 : Int32) &&& 31)) ||| ((u.2 (k + i).toNatClampNeg) &&& (255 : Int32))) (i + (-1 : Int32))) := ho
      obtain ⟨hn1, fa2, fa3⟩ := hL0
      refine lv_iload hx hb d_Row_number_23 (lv_at hl 4 rfl) ?_
      refine lv_if_lt (tgt := 53) hx hb d_Row_number_25 (by decide) (fun hc4 => ?_) (fun hc4 => ?_)
      · refine lv_iload_n hx hb d_Row_number_53 rfl (lv_at hl 3 rfl) ?_
        have hf5 : (f_Row_number n u k x) = v := by rw [he, f_Row_number_L23, if_pos hc4]
        exact W.iret (v := v) hx hb hr (fun tE ht _ => ⟨⟨_, w0, rfl, ⟨hf5, rfl⟩, cd_Pt ht hP⟩, hS.F ht⟩) hS.2.2 d_Row_number_54
      · refine lv_iload_n hx hb d_Row_number_28 rfl (lv_at hl 3 rfl) ?_
        refine lv_bipush (v := (8 : Int32)) hx hb d_Row_number_29 (by decide) ?_
        refine lv_ishl hx hb d_Row_number_31 ?_
        refine lv_aload_n hx hb d_Row_number_32 rfl (lv_at hl 0 rfl) ?_
        refine g_get (ci := 0) (C := R_Row) (T := F_Row) (Nf := 2) (v := .ref (ad (q + 1))) hx hb hA in_Row hown hK hP (k := q) (by omega) fa2 rfl 0 (by decide) (hA _ aw_68) (fun _ h9 => h9) rfl d_Row_number_33 ?_
        refine lv_iload_n hx hb d_Row_number_36 rfl (lv_at hl 1 rfl) ?_
        refine lv_iload hx hb d_Row_number_37 (lv_at hl 4 rfl) ?_
        refine lv_iadd hx hb d_Row_number_39 ?_
        refine g_bald hx hb hK hP (k := (q + 1)) (by omega) fa3 rfl (ho.1 hc4) d_Row_number_40 ?_
        refine lv_sipush (v := (255 : Int32)) hx hb d_Row_number_41 (by decide) ?_
        refine lv_iand hx hb d_Row_number_44 ?_
        refine lv_ior hx hb d_Row_number_45 ?_
        refine lv_istore_n (lv' := [(3, .int ((v <<< ((8 : Int32) &&& 31)) ||| ((u.2 (k + i).toNatClampNeg) &&& (255 : Int32)))), (0, .ref (ad q)), (1, .int k), (2, .int x), (4, .int i)]) hx hb d_Row_number_46 rfl hl (by decide) rfl (fun ls hl => ?_)
        refine lv_iinc (k := 4) (v := (i + (-1 : Int32))) (lv' := [(4, .int (i + (-1 : Int32))), (3, .int ((v <<< ((8 : Int32) &&& 31)) ||| ((u.2 (k + i).toNatClampNeg) &&& (255 : Int32)))), (0, .ref (ad q)), (1, .int k), (2, .int x)]) hx hb d_Row_number_47 hl rfl (cd_inc _ _ _ (by decide)) (by decide) rfl (fun ls hl => ?_)
        refine lv_goto (tgt := 23) hx hb d_Row_number_50 (by decide) ?_
        exact ih ((v <<< ((8 : Int32) &&& 31)) ||| ((u.2 (k + i).toNatClampNeg) &&& (255 : Int32))) (i + (-1 : Int32)) H locs ls (lv_sub hl [2, 3, 4, 1, 0] rfl) (show (f_Row_number n u k x) = f_Row_number_L23 n u k x gn ((v <<< ((8 : Int32) &&& 31)) ||| ((u.2 (k + i).toNatClampNeg) &&& (255 : Int32))) (i + (-1 : Int32)) by rw [he, f_Row_number_L23, if_neg hc4]) (⟨hn1, fa2, fa3⟩) hP hS (ho.2 hc4)
  have hS : va_S A s.heap s.heap [] := va_S.rf
  have hl := lv_entry ([.ref (ad q), .int k, .int x]) (n := 5) (Nat.le_of_ble_eq_true rfl)
  rw [lg_entry_eq]
  generalize (lg_sl ([.ref (ad q), .int k, .int x]) ++ List.replicate (5 - (lg_sl ([.ref (ad q), .int k, .int x])).length) Slot.unset).toArray = ls at hl ⊢
  have hl : lv_has ls 5 [(0, .ref (ad q)), (1, .int k), (2, .int x)] := hl
  have ho : (¬ k < 0 → k ≤ (u.1 - x) → o_Row_number_L23 n u k x 5 (0 : Int32) (x - (1 : Int32))) := ho
  obtain ⟨hn6, fa7, fa8⟩ := hR0
  refine lv_iload_n hx hb d_Row_number_0 rfl (lv_at hl 1 rfl) ?_
  refine lv_if_lt (tgt := 14) hx hb d_Row_number_1 (by decide) (fun hc9 => ?_) (fun hc9 => ?_)
  · refine lv_iconst (v := (0 : Int32)) hx hb d_Row_number_14 (by decide) ?_
    have hf10 : (f_Row_number n u k x) = (0 : Int32) := by rw [f_Row_number, if_pos hc9]
    exact W.iret (v := (0 : Int32)) hx hb hr (fun tE ht _ => ⟨⟨_, w0, rfl, ⟨hf10, rfl⟩, cd_Pt ht hP⟩, hS.F ht⟩) hS.2.2 d_Row_number_15
  · refine lv_iload_n hx hb d_Row_number_4 rfl (lv_at hl 1 rfl) ?_
    refine lv_aload_n hx hb d_Row_number_5 rfl (lv_at hl 0 rfl) ?_
    refine g_get (ci := 0) (C := R_Row) (T := F_Row) (Nf := 2) (v := .int u.1) hx hb hA in_Row hown hK hP (k := q) (by omega) fa7 rfl 1 (by decide) (hA _ aw_69) (fun _ h9 => h9) rfl d_Row_number_6 ?_
    refine lv_iload_n hx hb d_Row_number_9 rfl (lv_at hl 2 rfl) ?_
    refine lv_isub hx hb d_Row_number_10 ?_
    refine lv_icmp_le (tgt := 16) hx hb d_Row_number_11 (by decide) (fun hc11 => ?_) (fun hc11 => ?_)
    · refine lv_iconst (v := (0 : Int32)) hx hb d_Row_number_16 (by decide) ?_
      refine lv_istore_n (lv' := [(3, .int (0 : Int32)), (0, .ref (ad q)), (1, .int k), (2, .int x)]) hx hb d_Row_number_17 rfl hl (by decide) rfl (fun ls hl => ?_)
      refine lv_iload_n hx hb d_Row_number_18 rfl (lv_at hl 3 rfl) ?_
      refine lv_iconst (v := (1 : Int32)) hx hb d_Row_number_19 (by decide) ?_
      refine lv_isub hx hb d_Row_number_20 ?_
      refine lv_istore (lv' := [(4, .int (x - (1 : Int32))), (3, .int (0 : Int32)), (0, .ref (ad q)), (1, .int k), (2, .int x)]) hx hb d_Row_number_21 hl (by decide) rfl (fun ls hl => ?_)
      exact L23 5 (0 : Int32) (x - (1 : Int32)) s.heap [] ls (lv_sub hl [2, 3, 4, 1, 0] rfl) (show (f_Row_number n u k x) = f_Row_number_L23 n u k x 5 (0 : Int32) (x - (1 : Int32)) by rw [f_Row_number, if_neg hc9, if_pos hc11]) (⟨hn6, fa7, fa8⟩) hP hS (ho hc9 hc11)
    · refine lv_iconst (v := (0 : Int32)) hx hb d_Row_number_14 (by decide) ?_
      have hf12 : (f_Row_number n u k x) = (0 : Int32) := by rw [f_Row_number, if_neg hc9, if_neg hc11]
      exact W.iret (v := (0 : Int32)) hx hb hr (fun tE ht _ => ⟨⟨_, w0, rfl, ⟨hf12, rfl⟩, cd_Pt ht hP⟩, hS.F ht⟩) hS.2.2 d_Row_number_15
def f_Row_change (n : Nat) (u : cd_Row) (k : Int32) (v : Int32) : Int32 × cd_Row := (if k < 0 then ((0 : Int32), u) else (if k < u.1 then ((1 : Int32), (u.1, (upd u.2 k.toNatClampNeg (vp_nar .byte v.toInt8.toInt32)))) else ((0 : Int32), u)))
def o_Row_change (n : Nat) (u : cd_Row) (k : Int32) (v : Int32) : Prop := (¬ k < 0 → k < u.1 → vp_in k n)
set_option maxHeartbeats 4000000 in
set_option maxRecDepth 100000 in
theorem c_Row_change (l : Launch) (D : va_G) (tt : Nat → ClassId) (ad : Nat → Nat) (N : Nat) (A : Nat → Prop) (zs : Nat → Nat) (w0 : Nat → va_E) (q n : Nat) (u : cd_Row) (k : Int32) (v : Int32) (hR0 : cd_RowAt N tt ad w0 q n u) (ho : o_Row_change n u k v) : Met l y_Row_change w_Row_change ({ frames := 0, cells := 0, slots := 0, locals := 0 }) (va_Pc [.ref (ad q), .int k, .int v] (cd_U D tt ad N A zs w0)) (va_Qi (fun r w' => (f_Row_change n u k v).1 = r ∧ (r = 0 ∨ r = 1) ∧ cd_RowAt N tt ad w' q n ((f_Row_change n u k v).2) ∧ (∀ k : Nat, (k < q ∨ q + 2 ≤ k) → w' k = w0 k)) (fun w' t => cd_P D ad N A w' t.heap) A) 0 0 A := by
  refine Met.ofW (cc := b_Row_change) (maxL := 3) (ret := (some .boolean)) (by decide) rfl ?_
  intro p e s m args below meth c s₁ B hml hv
  obtain ⟨rfl, hP, hK, hZ⟩ := hv
  have hx := B.exec
  have hb := B.bytes
  have hr := B.returns
  have hA : ∀ w ∈ cd_AW, w.before _ s = true := fun w h => atoms_spec (ws := w_Row_change) B.pre w (List.mem_cons_of_mem _ h)
  have hown : s.vm.findClass R_Row = some m.cls := findClass_of_methodNamed B.named
  have hlocks := B.notSynchronized
  have hS : va_S A s.heap s.heap [] := va_S.rf
  have hl := lv_entry ([.ref (ad q), .int k, .int v]) (n := 3) (Nat.le_of_ble_eq_true rfl)
  rw [lg_entry_eq]
  generalize (lg_sl ([.ref (ad q), .int k, .int v]) ++ List.replicate (3 - (lg_sl ([.ref (ad q), .int k, .int v])).length) Slot.unset).toArray = ls at hl ⊢
  have hl : lv_has ls 3 [(0, .ref (ad q)), (1, .int k), (2, .int v)] := hl
  have ho : (¬ k < 0 → k < u.1 → vp_in k n) := ho
  obtain ⟨hn1, fa2, fa3⟩ := hR0
  refine lv_iload_n hx hb d_Row_change_0 rfl (lv_at hl 1 rfl) ?_
  refine lv_if_lt (tgt := 12) hx hb d_Row_change_1 (by decide) (fun hc4 => ?_) (fun hc4 => ?_)
  · refine lv_iconst (v := (0 : Int32)) hx hb d_Row_change_12 (by decide) ?_
    have hf5 : (f_Row_change n u k v) = ((0 : Int32), u) := by rw [f_Row_change, if_pos hc4]
    exact W.zret (ty := .boolean) (v := (0 : Int32)) hx hb hr rfl (fun tE ht _ => ⟨⟨_, w0, rfl, ⟨(by rw [hf5]), (Or.inl rfl), (by rw [hf5]; exact ⟨hn1, fa2, fa3⟩), (fun _ _ => rfl)⟩, cd_Pt ht hP⟩, hS.F ht⟩) hS.2.2 d_Row_change_13
  · refine lv_iload_n hx hb d_Row_change_4 rfl (lv_at hl 1 rfl) ?_
    refine lv_aload_n hx hb d_Row_change_5 rfl (lv_at hl 0 rfl) ?_
    refine g_get (ci := 0) (C := R_Row) (T := F_Row) (Nf := 2) (v := .int u.1) hx hb hA in_Row hown hK hP (k := q) (by omega) fa2 rfl 1 (by decide) (hA _ aw_69) (fun _ h9 => h9) rfl d_Row_change_6 ?_
    refine lv_icmp_lt (tgt := 14) hx hb d_Row_change_9 (by decide) (fun hc6 => ?_) (fun hc6 => ?_)
    · refine lv_aload_n hx hb d_Row_change_14 rfl (lv_at hl 0 rfl) ?_
      refine g_get (ci := 0) (C := R_Row) (T := F_Row) (Nf := 2) (v := .ref (ad (q + 1))) hx hb hA in_Row hown hK hP (k := q) (by omega) fa2 rfl 0 (by decide) (hA _ aw_68) (fun _ h9 => h9) rfl d_Row_change_15 ?_
      refine lv_iload_n hx hb d_Row_change_18 rfl (lv_at hl 1 rfl) ?_
      refine lv_iload_n hx hb d_Row_change_19 rfl (lv_at hl 2 rfl) ?_
      refine lv_i2b hx hb d_Row_change_20 rfl ?_
      refine g_bast hx hb hK hP hS (k := (q + 1)) (by omega) fa3 rfl (ho hc4 hc6) d_Row_change_21 (fun H locs w1 fa7 e1 hP hS => ?_)
      have fa8 := (e1 q (by omega)).trans fa2
      refine lv_iconst (v := (1 : Int32)) hx hb d_Row_change_22 (by decide) ?_
      have hf9 : (f_Row_change n u k v) = ((1 : Int32), (u.1, (upd u.2 k.toNatClampNeg (vp_nar .byte v.toInt8.toInt32)))) := by rw [f_Row_change, if_neg hc4, if_pos hc6]
      exact W.zret (ty := .boolean) (v := (1 : Int32)) hx hb hr rfl (fun tE ht _ => ⟨⟨_, w1, rfl, ⟨(by rw [hf9]), (Or.inr rfl), (by rw [hf9]; exact ⟨hn1, fa8, fa7⟩), (fun k hk => (e1 k (by omega)))⟩, cd_Pt ht hP⟩, hS.F ht⟩) hS.2.2 d_Row_change_23
    · refine lv_iconst (v := (0 : Int32)) hx hb d_Row_change_12 (by decide) ?_
      have hf10 : (f_Row_change n u k v) = ((0 : Int32), u) := by rw [f_Row_change, if_neg hc4, if_neg hc6]
      exact W.zret (ty := .boolean) (v := (0 : Int32)) hx hb hr rfl (fun tE ht _ => ⟨⟨_, w0, rfl, ⟨(by rw [hf10]), (Or.inl rfl), (by rw [hf10]; exact ⟨hn1, fa2, fa3⟩), (fun _ _ => rfl)⟩, cd_Pt ht hP⟩, hS.F ht⟩) hS.2.2 d_Row_change_13
def f_Row_append (n : Nat) (u : cd_Row) (v : Int32) : Int32 × cd_Row := (if u.1 < (nI n) then ((1 : Int32), ((u.1 + (1 : Int32)), (upd u.2 u.1.toNatClampNeg (vp_nar .byte v.toInt8.toInt32)))) else ((0 : Int32), u))
def o_Row_append (n : Nat) (u : cd_Row) (v : Int32) : Prop := (u.1 < (nI n) → vp_in u.1 n)
set_option maxHeartbeats 4000000 in
set_option maxRecDepth 100000 in
theorem c_Row_append (l : Launch) (D : va_G) (tt : Nat → ClassId) (ad : Nat → Nat) (N : Nat) (A : Nat → Prop) (zs : Nat → Nat) (w0 : Nat → va_E) (q n : Nat) (u : cd_Row) (v : Int32) (hR0 : cd_RowAt N tt ad w0 q n u) (ho : o_Row_append n u v) : Met l y_Row_append w_Row_append ({ frames := 0, cells := 0, slots := 0, locals := 0 }) (va_Pc [.ref (ad q), .int v] (cd_U D tt ad N A zs w0)) (va_Qi (fun r w' => (f_Row_append n u v).1 = r ∧ (r = 0 ∨ r = 1) ∧ cd_RowAt N tt ad w' q n ((f_Row_append n u v).2) ∧ (∀ k : Nat, (k < q ∨ q + 2 ≤ k) → w' k = w0 k)) (fun w' t => cd_P D ad N A w' t.heap) A) 0 0 A := by
  refine Met.ofW (cc := b_Row_append) (maxL := 2) (ret := (some .boolean)) (by decide) rfl ?_
  intro p e s m args below meth c s₁ B hml hv
  obtain ⟨rfl, hP, hK, hZ⟩ := hv
  have hx := B.exec
  have hb := B.bytes
  have hr := B.returns
  have hA : ∀ w ∈ cd_AW, w.before _ s = true := fun w h => atoms_spec (ws := w_Row_append) B.pre w (List.mem_cons_of_mem _ h)
  have hown : s.vm.findClass R_Row = some m.cls := findClass_of_methodNamed B.named
  have hlocks := B.notSynchronized
  have hS : va_S A s.heap s.heap [] := va_S.rf
  have hl := lv_entry ([.ref (ad q), .int v]) (n := 2) (Nat.le_of_ble_eq_true rfl)
  rw [lg_entry_eq]
  generalize (lg_sl ([.ref (ad q), .int v]) ++ List.replicate (2 - (lg_sl ([.ref (ad q), .int v])).length) Slot.unset).toArray = ls at hl ⊢
  have hl : lv_has ls 2 [(0, .ref (ad q)), (1, .int v)] := hl
  have ho : (u.1 < (nI n) → vp_in u.1 n) := ho
  obtain ⟨hn1, fa2, fa3⟩ := hR0
  refine lv_aload_n hx hb d_Row_append_0 rfl (lv_at hl 0 rfl) ?_
  refine g_get (ci := 0) (C := R_Row) (T := F_Row) (Nf := 2) (v := .int u.1) hx hb hA in_Row hown hK hP (k := q) (by omega) fa2 rfl 1 (by decide) (hA _ aw_69) (fun _ h9 => h9) rfl d_Row_append_1 ?_
  refine lv_aload_n hx hb d_Row_append_4 rfl (lv_at hl 0 rfl) ?_
  refine g_get (ci := 0) (C := R_Row) (T := F_Row) (Nf := 2) (v := .ref (ad (q + 1))) hx hb hA in_Row hown hK hP (k := q) (by omega) fa2 rfl 0 (by decide) (hA _ aw_68) (fun _ h9 => h9) rfl d_Row_append_5 ?_
  refine g_alen (v := (nI n)) hx hb hK hP (k := (q + 1)) (by omega) fa3 (t0 := 0) rfl rfl d_Row_append_8 ?_
  refine lv_icmp_lt (tgt := 14) hx hb d_Row_append_9 (by decide) (fun hc4 => ?_) (fun hc4 => ?_)
  · refine lv_aload_n hx hb d_Row_append_14 rfl (lv_at hl 0 rfl) ?_
    refine g_get (ci := 0) (C := R_Row) (T := F_Row) (Nf := 2) (v := .ref (ad (q + 1))) hx hb hA in_Row hown hK hP (k := q) (by omega) fa2 rfl 0 (by decide) (hA _ aw_68) (fun _ h9 => h9) rfl d_Row_append_15 ?_
    refine lv_aload_n hx hb d_Row_append_18 rfl (lv_at hl 0 rfl) ?_
    refine g_get (ci := 0) (C := R_Row) (T := F_Row) (Nf := 2) (v := .int u.1) hx hb hA in_Row hown hK hP (k := q) (by omega) fa2 rfl 1 (by decide) (hA _ aw_69) (fun _ h9 => h9) rfl d_Row_append_19 ?_
    refine lv_iload_n hx hb d_Row_append_22 rfl (lv_at hl 1 rfl) ?_
    refine lv_i2b hx hb d_Row_append_23 rfl ?_
    refine g_bast hx hb hK hP hS (k := (q + 1)) (by omega) fa3 rfl (ho hc4) d_Row_append_24 (fun H locs w1 fa5 e1 hP hS => ?_)
    have fa6 := (e1 q (by omega)).trans fa2
    refine lv_aload_n hx hb d_Row_append_25 rfl (lv_at hl 0 rfl) ?_
    refine lv_dup hx hb d_Row_append_26 rfl ?_
    refine g_get (ci := 0) (C := R_Row) (T := F_Row) (Nf := 2) (v := .int u.1) hx hb hA in_Row hown hK hP (k := q) (by omega) fa6 rfl 1 (by decide) (hA _ aw_69) (fun _ h9 => h9) rfl d_Row_append_27 ?_
    refine lv_iconst (v := (1 : Int32)) hx hb d_Row_append_30 (by decide) ?_
    refine lv_iadd hx hb d_Row_append_31 ?_
    refine g_put (ci := 0) (C := R_Row) (T := F_Row) (Nf := 2) (v := .int (u.1 + (1 : Int32))) (ty := .int) hx hb hA in_Row t_Row t_Row_ok n_Row hown hK hP hS (k := q) (by omega) fa6 rfl 1 (by decide) (hA _ aw_69) (fun _ h9 => h9) rfl (by decide +kernel) rfl rfl (Nat.le_of_ble_eq_true rfl) d_Row_append_32 (fun H locs w2 fa7 e2 hP hS => ?_)
    have fa7 : w2 q = .inr (0, [.ref (ad (q + 1)), .int (u.1 + (1 : Int32))]) := fa7
    have fa8 := (e2 (q + 1) (by omega)).trans fa5
    refine lv_iconst (v := (1 : Int32)) hx hb d_Row_append_35 (by decide) ?_
    have hf9 : (f_Row_append n u v) = ((1 : Int32), ((u.1 + (1 : Int32)), (upd u.2 u.1.toNatClampNeg (vp_nar .byte v.toInt8.toInt32)))) := by rw [f_Row_append, if_pos hc4]
    exact W.zret (ty := .boolean) (v := (1 : Int32)) hx hb hr rfl (fun tE ht _ => ⟨⟨_, w2, rfl, ⟨(by rw [hf9]), (Or.inr rfl), (by rw [hf9]; exact ⟨hn1, fa7, fa8⟩), (fun k hk => ((e2 k (by omega)).trans (e1 k (by omega))))⟩, cd_Pt ht hP⟩, hS.F ht⟩) hS.2.2 d_Row_append_36
  · refine lv_iconst (v := (0 : Int32)) hx hb d_Row_append_12 (by decide) ?_
    have hf10 : (f_Row_append n u v) = ((0 : Int32), u) := by rw [f_Row_append, if_neg hc4]
    exact W.zret (ty := .boolean) (v := (0 : Int32)) hx hb hr rfl (fun tE ht _ => ⟨⟨_, w0, rfl, ⟨(by rw [hf10]), (Or.inl rfl), (by rw [hf10]; exact ⟨hn1, fa2, fa3⟩), (fun _ _ => rfl)⟩, cd_Pt ht hP⟩, hS.F ht⟩) hS.2.2 d_Row_append_13
def f_Row_appendNumber_L5 (n : Nat) (u : cd_Row) (v : Int32) (x : Int32) : Nat → Int32 → Int32 → cd_Row → cd_Row
  | 0, _, _, _ => default
  | gn + 1, y, i, u' => (if x ≤ i then u' else (f_Row_appendNumber_L5 n u v x gn (y >>> ((8 : Int32) &&& 31)) (i + (1 : Int32)) ((f_Row_append n u' y).2)))
def f_Row_appendNumber (n : Nat) (u : cd_Row) (v : Int32) (x : Int32) : cd_Row := (f_Row_appendNumber_L5 n u v x 5 v (0 : Int32) u)
def o_Row_appendNumber_L5 (n : Nat) (u : cd_Row) (v : Int32) (x : Int32) : Nat → Int32 → Int32 → cd_Row → Prop
  | 0, _, _, _ => False
  | gn + 1, y, i, u' => (¬ x ≤ i → o_Row_append n u' y) ∧ (¬ x ≤ i → o_Row_appendNumber_L5 n u v x gn (y >>> ((8 : Int32) &&& 31)) (i + (1 : Int32)) ((f_Row_append n u' y).2))
def o_Row_appendNumber (n : Nat) (u : cd_Row) (v : Int32) (x : Int32) : Prop := (o_Row_appendNumber_L5 n u v x 5 v (0 : Int32) u)
set_option maxHeartbeats 4000000 in
set_option maxRecDepth 100000 in
theorem c_Row_appendNumber (l : Launch) (D : va_G) (tt : Nat → ClassId) (ad : Nat → Nat) (N : Nat) (A : Nat → Prop) (zs : Nat → Nat) (w0 : Nat → va_E) (q n : Nat) (u : cd_Row) (v : Int32) (x : Int32) (hR0 : cd_RowAt N tt ad w0 q n u) (ho : o_Row_appendNumber n u v x) : Met l y_Row_appendNumber w_Row_appendNumber ({ frames := 1, cells := 0, slots := 0, locals := 21 }) (va_Pc [.ref (ad q), .int v, .int x] (cd_U D tt ad N A zs w0)) (va_Qv (fun w' => cd_RowAt N tt ad w' q n (f_Row_appendNumber n u v x) ∧ (∀ k : Nat, (k < q ∨ q + 2 ≤ k) → w' k = w0 k)) (fun w' t => cd_P D ad N A w' t.heap) A) 0 0 A := by
  refine Met.ofW (cc := b_Row_appendNumber) (maxL := 5) (ret := none) (by decide) rfl ?_
  intro p e s m args below meth c s₁ B hml hv
  obtain ⟨rfl, hP, hK, hZ⟩ := hv
  have hx := B.exec
  have hb := B.bytes
  have hr := B.returns
  have hA : ∀ w ∈ cd_AW, w.before _ s = true := fun w h => atoms_spec (ws := w_Row_appendNumber) B.pre w (List.mem_cons_of_mem _ h)
  have hown : s.vm.findClass R_Row = some m.cls := findClass_of_methodNamed B.named
  have hlocks := B.notSynchronized
  have L5 : ∀ (gn : Nat) (y : Int32) (i : Int32) (u' : cd_Row) (w : Nat → va_E) (efr : ∀ k : Nat, (k < q ∨ q + 2 ≤ k) → w k = w0 k) (H : Heap) (locs : List Loc) (ls : Array Slot), lv_has ls 5 [(0, .ref (ad q)), (1, .int v), (2, .int x), (3, .int y), (4, .int i)] → (f_Row_appendNumber n u v x) = f_Row_appendNumber_L5 n u v x gn y i u' → cd_RowAt N tt ad w q n u' → cd_P D ad N A w H → va_S A s.heap H locs → o_Row_appendNumber_L5 n u v x gn y i u' → W p l e (headSpec w_Row_appendNumber ({ frames := 1, cells := 0, slots := 0, locals := 21 })).room s m [.ref (ad q), .int v, .int x].toArray below meth c H locs 0 0 (MQ below (va_Qv (fun w' => cd_RowAt N tt ad w' q n (f_Row_appendNumber n u v x) ∧ (∀ k : Nat, (k < q ∨ q + 2 ≤ k) → w' k = w0 k)) (fun w' t => cd_P D ad N A w' t.heap) A) [.ref (ad q), .int v, .int x].toArray s 0 0 A) (F0 m 5 ls []) := by
    intro gn
    induction gn with
    | zero => intro y i u' w efr H locs ls hl he hL0 hP hS ho; exact ho.elim
    | succ gn ih =>
      intro y i u' w efr H locs ls hl he hL0 hP hS ho
      have ho : (¬ x ≤ i → o_Row_append n u' y) ∧ (¬ x ≤ i → o_Row_appendNumber_L5 n u v x gn (y >>> ((8 : Int32) &&& 31)) (i + (1 : Int32)) ((f_Row_append n u' y).2)) := ho
      obtain ⟨hn1, fa2, fa3⟩ := hL0
      refine lv_iload hx hb d_Row_appendNumber_5 (lv_at hl 4 rfl) ?_
      refine lv_iload_n hx hb d_Row_appendNumber_7 rfl (lv_at hl 2 rfl) ?_
      refine lv_icmp_ge (tgt := 28) hx hb d_Row_appendNumber_8 (by decide) (fun hc4 => ?_) (fun hc4 => ?_)
      · have hf5 : (f_Row_appendNumber n u v x) = u' := by rw [he, f_Row_appendNumber_L5, if_pos hc4]
        exact W.vret hx hb hr (fun tE ht _ => ⟨⟨w, rfl, ⟨(by rw [hf5]; exact ⟨hn1, fa2, fa3⟩), (fun k hk => (efr k (by omega)))⟩, cd_Pt ht hP⟩, hS.F ht⟩) hS.2.2 d_Row_appendNumber_28
      · refine lv_aload_n hx hb d_Row_appendNumber_11 rfl (lv_at hl 0 rfl) ?_
        refine lv_iload_n hx hb d_Row_appendNumber_12 rfl (lv_at hl 3 rfl) ?_
        refine va_calli (va_runV (As := [.int y]) (rest := []) ⟨hx, hb, hml, hown, hA⟩ (c_Row_append l D tt ad N A zs w q n u' y (⟨hn1, fa2, fa3⟩) (ho.1 hc4)) (cwV 1 hA (cd_gV aw_233 aw_234 aw_235 aw_5 aw_236) rfl rfl rfl ⟨rfl, by decide, by decide, by decide +kernel⟩ ⟨Nat.le_of_ble_eq_true rfl, Nat.le_of_ble_eq_true rfl⟩) ⟨cd_blind, cd_recv hK hP (k := q) (by omega) fa2 rfl, fun U hU hW => ⟨rfl, cd_pre hK hP hZ hS U hU hW⟩⟩ rfl rfl hl.1 rfl (lv_room (Nat.le_of_ble_eq_true rfl)) d_Row_appendNumber_13 ⟨Nat.zero_le _, Nat.zero_le _⟩) hS (fun _ _ h => h) (fun _ h => h) (fun r6 w1 tE H locs ht hvm hr7 hP hz1 hk1 hS => ?_)
        have hP := cd_Pf ht hP
        obtain ⟨rfl, hbo9, at10, e1⟩ := hr7
        obtain ⟨hn11, fa12, fa13⟩ := at10
        refine lv_pop hx hb d_Row_appendNumber_16 rfl ?_
        refine lv_iload_n hx hb d_Row_appendNumber_17 rfl (lv_at hl 3 rfl) ?_
        refine lv_bipush (v := (8 : Int32)) hx hb d_Row_appendNumber_18 (by decide) ?_
        refine lv_ishr hx hb d_Row_appendNumber_20 ?_
        refine lv_istore_n (lv' := [(3, .int (y >>> ((8 : Int32) &&& 31))), (0, .ref (ad q)), (1, .int v), (2, .int x), (4, .int i)]) hx hb d_Row_appendNumber_21 rfl hl (by decide) rfl (fun ls hl => ?_)
        refine lv_iinc (k := 4) (v := (i + (1 : Int32))) (lv' := [(4, .int (i + (1 : Int32))), (3, .int (y >>> ((8 : Int32) &&& 31))), (0, .ref (ad q)), (1, .int v), (2, .int x)]) hx hb d_Row_appendNumber_22 hl rfl (cd_inc _ _ _ (by decide)) (by decide) rfl (fun ls hl => ?_)
        refine lv_goto (tgt := 5) hx hb d_Row_appendNumber_25 (by decide) ?_
        exact ih (y >>> ((8 : Int32) &&& 31)) (i + (1 : Int32)) ((f_Row_append n u' y).2) w1 (fun k hk => ((e1 k (by omega)).trans (efr k (by omega)))) H locs ls (lv_sub hl [2, 3, 4, 1, 0] rfl) (show (f_Row_appendNumber n u v x) = f_Row_appendNumber_L5 n u v x gn (y >>> ((8 : Int32) &&& 31)) (i + (1 : Int32)) ((f_Row_append n u' y).2) by rw [he, f_Row_appendNumber_L5, if_neg hc4]) (⟨hn11, fa12, fa13⟩) hP hS (ho.2 hc4)
  have hS : va_S A s.heap s.heap [] := va_S.rf
  have hl := lv_entry ([.ref (ad q), .int v, .int x]) (n := 5) (Nat.le_of_ble_eq_true rfl)
  rw [lg_entry_eq]
  generalize (lg_sl ([.ref (ad q), .int v, .int x]) ++ List.replicate (5 - (lg_sl ([.ref (ad q), .int v, .int x])).length) Slot.unset).toArray = ls at hl ⊢
  have hl : lv_has ls 5 [(0, .ref (ad q)), (1, .int v), (2, .int x)] := hl
  have ho : (o_Row_appendNumber_L5 n u v x 5 v (0 : Int32) u) := ho
  obtain ⟨hn14, fa15, fa16⟩ := hR0
  refine lv_iload_n hx hb d_Row_appendNumber_0 rfl (lv_at hl 1 rfl) ?_
  refine lv_istore_n (lv' := [(3, .int v), (0, .ref (ad q)), (1, .int v), (2, .int x)]) hx hb d_Row_appendNumber_1 rfl hl (by decide) rfl (fun ls hl => ?_)
  refine lv_iconst (v := (0 : Int32)) hx hb d_Row_appendNumber_2 (by decide) ?_
  refine lv_istore (lv' := [(4, .int (0 : Int32)), (3, .int v), (0, .ref (ad q)), (1, .int v), (2, .int x)]) hx hb d_Row_appendNumber_3 hl (by decide) rfl (fun ls hl => ?_)
  exact L5 5 v (0 : Int32) u w0 (fun _ _ => rfl) s.heap [] ls (lv_sub hl [2, 3, 4, 1, 0] rfl) (show (f_Row_appendNumber n u v x) = f_Row_appendNumber_L5 n u v x 5 v (0 : Int32) u by rw [f_Row_appendNumber]) (⟨hn14, fa15, fa16⟩) hP hS (ho)
def f_Row_appendBytes (n : Nat) (u : cd_Row) (n1 : Nat) (u1 : cd_By) (x : Int32) : cd_Row := (if x < 0 then u else (if (nI n1) < x then u else (if x ≤ ((nI n) - u.1) then ((u.1 + x), (va_cpy u1 u.2 (0 : Int32).toNatClampNeg u.1.toNatClampNeg x.toNatClampNeg)) else u)))
def o_Row_appendBytes (n : Nat) (u : cd_Row) (n1 : Nat) (u1 : cd_By) (x : Int32) : Prop := (¬ x < 0 → ¬ (nI n1) < x → x ≤ ((nI n) - u.1) → ¬ (0 : Int32) < 0) ∧ (¬ x < 0 → ¬ (nI n1) < x → x ≤ ((nI n) - u.1) → ¬ u.1 < 0) ∧ (¬ x < 0 → ¬ (nI n1) < x → x ≤ ((nI n) - u.1) → ¬ x < 0) ∧ (¬ x < 0 → ¬ (nI n1) < x → x ≤ ((nI n) - u.1) → (0 : Int32).toNatClampNeg + x.toNatClampNeg ≤ n1) ∧ (¬ x < 0 → ¬ (nI n1) < x → x ≤ ((nI n) - u.1) → u.1.toNatClampNeg + x.toNatClampNeg ≤ n) ∧ (¬ x < 0 → ¬ (nI n1) < x → x ≤ ((nI n) - u.1) → ∀ i, i < x.toNatClampNeg → fits .byte (.int (u1 ((0 : Int32).toNatClampNeg + i))) = true)
set_option maxHeartbeats 4000000 in
set_option maxRecDepth 100000 in
theorem c_Row_appendBytes (l : Launch) (D : va_G) (tt : Nat → ClassId) (ad : Nat → Nat) (N : Nat) (A : Nat → Prop) (zs : Nat → Nat) (w0 : Nat → va_E) (q n : Nat) (u : cd_Row) (q1 n1 : Nat) (u1 : cd_By) (x : Int32) (hR0 : cd_RowAt N tt ad w0 q n u) (hR1 : cd_ByAt N tt ad w0 q1 n1 u1) (hap0 : q1 < q ∨ q + 2 ≤ q1) (ho : o_Row_appendBytes n u n1 u1 x) : Met l y_Row_appendBytes w_Row_appendBytes ({ frames := 1, cells := 0, slots := 0, locals := 60 }) (va_Pc [.ref (ad q), .ref (ad q1), .int x] (cd_U D tt ad N A zs w0)) (va_Qv (fun w' => cd_RowAt N tt ad w' q n (f_Row_appendBytes n u n1 u1 x) ∧ (∀ k : Nat, (k < q ∨ q + 2 ≤ k) → w' k = w0 k)) (fun w' t => cd_P D ad N A w' t.heap) A) 0 0 A := by
  refine Met.ofW (cc := b_Row_appendBytes) (maxL := 3) (ret := none) (by decide) rfl ?_
  intro p e s m args below meth c s₁ B hml hv
  obtain ⟨rfl, hP, hK, hZ⟩ := hv
  have hx := B.exec
  have hb := B.bytes
  have hr := B.returns
  have hA : ∀ w ∈ cd_AW, w.before _ s = true := fun w h => atoms_spec (ws := w_Row_appendBytes) B.pre w (List.mem_cons_of_mem _ h)
  have hown : s.vm.findClass R_Row = some m.cls := findClass_of_methodNamed B.named
  have hlocks := B.notSynchronized
  have hS : va_S A s.heap s.heap [] := va_S.rf
  have hl := lv_entry ([.ref (ad q), .ref (ad q1), .int x]) (n := 3) (Nat.le_of_ble_eq_true rfl)
  rw [lg_entry_eq]
  generalize (lg_sl ([.ref (ad q), .ref (ad q1), .int x]) ++ List.replicate (3 - (lg_sl ([.ref (ad q), .ref (ad q1), .int x])).length) Slot.unset).toArray = ls at hl ⊢
  have hl : lv_has ls 3 [(0, .ref (ad q)), (1, .ref (ad q1)), (2, .int x)] := hl
  have ho : (¬ x < 0 → ¬ (nI n1) < x → x ≤ ((nI n) - u.1) → ¬ (0 : Int32) < 0) ∧ (¬ x < 0 → ¬ (nI n1) < x → x ≤ ((nI n) - u.1) → ¬ u.1 < 0) ∧ (¬ x < 0 → ¬ (nI n1) < x → x ≤ ((nI n) - u.1) → ¬ x < 0) ∧ (¬ x < 0 → ¬ (nI n1) < x → x ≤ ((nI n) - u.1) → (0 : Int32).toNatClampNeg + x.toNatClampNeg ≤ n1) ∧ (¬ x < 0 → ¬ (nI n1) < x → x ≤ ((nI n) - u.1) → u.1.toNatClampNeg + x.toNatClampNeg ≤ n) ∧ (¬ x < 0 → ¬ (nI n1) < x → x ≤ ((nI n) - u.1) → ∀ i, i < x.toNatClampNeg → fits .byte (.int (u1 ((0 : Int32).toNatClampNeg + i))) = true) := ho
  obtain ⟨hn1, fa2, fa3⟩ := hR0
  refine lv_iload_n hx hb d_Row_appendBytes_0 rfl (lv_at hl 2 rfl) ?_
  refine lv_if_lt (tgt := 24) hx hb d_Row_appendBytes_1 (by decide) (fun hc4 => ?_) (fun hc4 => ?_)
  · have hf5 : (f_Row_appendBytes n u n1 u1 x) = u := by rw [f_Row_appendBytes, if_pos hc4]
    exact W.vret hx hb hr (fun tE ht _ => ⟨⟨w0, rfl, ⟨(by rw [hf5]; exact ⟨hn1, fa2, fa3⟩), (fun _ _ => rfl)⟩, cd_Pt ht hP⟩, hS.F ht⟩) hS.2.2 d_Row_appendBytes_24
  · refine lv_iload_n hx hb d_Row_appendBytes_4 rfl (lv_at hl 2 rfl) ?_
    refine lv_aload_n hx hb d_Row_appendBytes_5 rfl (lv_at hl 1 rfl) ?_
    obtain ⟨hn6, fa7⟩ := hR1
    refine g_alen (v := (nI n1)) hx hb hK hP (k := q1) (by omega) fa7 (t0 := 0) rfl rfl d_Row_appendBytes_6 ?_
    refine lv_icmp_gt (tgt := 24) hx hb d_Row_appendBytes_7 (by decide) (fun hc8 => ?_) (fun hc8 => ?_)
    · have hf9 : (f_Row_appendBytes n u n1 u1 x) = u := by rw [f_Row_appendBytes, if_neg hc4, if_pos hc8]
      exact W.vret hx hb hr (fun tE ht _ => ⟨⟨w0, rfl, ⟨(by rw [hf9]; exact ⟨hn1, fa2, fa3⟩), (fun _ _ => rfl)⟩, cd_Pt ht hP⟩, hS.F ht⟩) hS.2.2 d_Row_appendBytes_24
    · refine lv_iload_n hx hb d_Row_appendBytes_10 rfl (lv_at hl 2 rfl) ?_
      refine lv_aload_n hx hb d_Row_appendBytes_11 rfl (lv_at hl 0 rfl) ?_
      refine g_get (ci := 0) (C := R_Row) (T := F_Row) (Nf := 2) (v := .ref (ad (q + 1))) hx hb hA in_Row hown hK hP (k := q) (by omega) fa2 rfl 0 (by decide) (hA _ aw_68) (fun _ h9 => h9) rfl d_Row_appendBytes_12 ?_
      refine g_alen (v := (nI n)) hx hb hK hP (k := (q + 1)) (by omega) fa3 (t0 := 0) rfl rfl d_Row_appendBytes_15 ?_
      refine lv_aload_n hx hb d_Row_appendBytes_16 rfl (lv_at hl 0 rfl) ?_
      refine g_get (ci := 0) (C := R_Row) (T := F_Row) (Nf := 2) (v := .int u.1) hx hb hA in_Row hown hK hP (k := q) (by omega) fa2 rfl 1 (by decide) (hA _ aw_69) (fun _ h9 => h9) rfl d_Row_appendBytes_17 ?_
      refine lv_isub hx hb d_Row_appendBytes_20 ?_
      refine lv_icmp_le (tgt := 25) hx hb d_Row_appendBytes_21 (by decide) (fun hc10 => ?_) (fun hc10 => ?_)
      · refine lv_aload_n hx hb d_Row_appendBytes_25 rfl (lv_at hl 1 rfl) ?_
        refine lv_iconst (v := (0 : Int32)) hx hb d_Row_appendBytes_26 (by decide) ?_
        refine lv_aload_n hx hb d_Row_appendBytes_27 rfl (lv_at hl 0 rfl) ?_
        refine g_get (ci := 0) (C := R_Row) (T := F_Row) (Nf := 2) (v := .ref (ad (q + 1))) hx hb hA in_Row hown hK hP (k := q) (by omega) fa2 rfl 0 (by decide) (hA _ aw_68) (fun _ h9 => h9) rfl d_Row_appendBytes_28 ?_
        refine lv_aload_n hx hb d_Row_appendBytes_31 rfl (lv_at hl 0 rfl) ?_
        refine g_get (ci := 0) (C := R_Row) (T := F_Row) (Nf := 2) (v := .int u.1) hx hb hA in_Row hown hK hP (k := q) (by omega) fa2 rfl 1 (by decide) (hA _ aw_69) (fun _ h9 => h9) rfl d_Row_appendBytes_32 ?_
        refine lv_iload_n hx hb d_Row_appendBytes_35 rfl (lv_at hl 2 rfl) ?_
        refine g_copyi (ty := .byte) (t0 := 0) (t1 := 0) hx hb (hml.trans hl.1.symm) hown (hA _ aw_281) (hA _ aw_283) (hA _ aw_282) (hA _ aw_10) hK hP hS (k0 := q1) (k1 := (q + 1)) (by omega) (by omega) fa7 fa3 rfl rfl rfl (ho.1 hc4 hc8 hc10) (ho.2.1 hc4 hc8 hc10) (ho.2.2.1 hc4 hc8 hc10) (ho.2.2.2.1 hc4 hc8 hc10) (ho.2.2.2.2.1 hc4 hc8 hc10) (ho.2.2.2.2.2 hc4 hc8 hc10) (by decide) (by decide) d_Row_appendBytes_36 (fun H locs w1 fa11 e1 hP hS => ?_)
        have fa12 := (e1 q (by omega)).trans fa2
        have fa13 := (e1 q1 (by omega)).trans fa7
        refine lv_aload_n hx hb d_Row_appendBytes_39 rfl (lv_at hl 0 rfl) ?_
        refine lv_dup hx hb d_Row_appendBytes_40 rfl ?_
        refine g_get (ci := 0) (C := R_Row) (T := F_Row) (Nf := 2) (v := .int u.1) hx hb hA in_Row hown hK hP (k := q) (by omega) fa12 rfl 1 (by decide) (hA _ aw_69) (fun _ h9 => h9) rfl d_Row_appendBytes_41 ?_
        refine lv_iload_n hx hb d_Row_appendBytes_44 rfl (lv_at hl 2 rfl) ?_
        refine lv_iadd hx hb d_Row_appendBytes_45 ?_
        refine g_put (ci := 0) (C := R_Row) (T := F_Row) (Nf := 2) (v := .int (u.1 + x)) (ty := .int) hx hb hA in_Row t_Row t_Row_ok n_Row hown hK hP hS (k := q) (by omega) fa12 rfl 1 (by decide) (hA _ aw_69) (fun _ h9 => h9) rfl (by decide +kernel) rfl rfl (Nat.le_of_ble_eq_true rfl) d_Row_appendBytes_46 (fun H locs w2 fa14 e2 hP hS => ?_)
        have fa14 : w2 q = .inr (0, [.ref (ad (q + 1)), .int (u.1 + x)]) := fa14
        have fa15 := (e2 (q + 1) (by omega)).trans fa11
        have fa16 := (e2 q1 (by omega)).trans fa13
        have hf17 : (f_Row_appendBytes n u n1 u1 x) = ((u.1 + x), (va_cpy u1 u.2 (0 : Int32).toNatClampNeg u.1.toNatClampNeg x.toNatClampNeg)) := by rw [f_Row_appendBytes, if_neg hc4, if_neg hc8, if_pos hc10]
        exact W.vret hx hb hr (fun tE ht _ => ⟨⟨w2, rfl, ⟨(by rw [hf17]; exact ⟨hn1, fa14, fa15⟩), (fun k hk => ((e2 k (by omega)).trans (e1 k (by omega))))⟩, cd_Pt ht hP⟩, hS.F ht⟩) hS.2.2 d_Row_appendBytes_49
      · have hf18 : (f_Row_appendBytes n u n1 u1 x) = u := by rw [f_Row_appendBytes, if_neg hc4, if_neg hc8, if_neg hc10]
        exact W.vret hx hb hr (fun tE ht _ => ⟨⟨w0, rfl, ⟨(by rw [hf18]; exact ⟨hn1, fa2, fa3⟩), (fun _ _ => rfl)⟩, cd_Pt ht hP⟩, hS.F ht⟩) hS.2.2 d_Row_appendBytes_24
def f_Row_giveBytes (n : Nat) (u : cd_Row) (n1 : Nat) (u1 : cd_By) (k : Int32) (x : Int32) : cd_By := (if k < 0 then u1 else (if x < 0 then u1 else (if (nI n1) < x then u1 else (if u.1 < k then u1 else (if x ≤ (u.1 - k) then (va_cpy u.2 u1 k.toNatClampNeg (0 : Int32).toNatClampNeg x.toNatClampNeg) else u1)))))
def o_Row_giveBytes (n : Nat) (u : cd_Row) (n1 : Nat) (u1 : cd_By) (k : Int32) (x : Int32) : Prop := (¬ k < 0 → ¬ x < 0 → ¬ (nI n1) < x → ¬ u.1 < k → x ≤ (u.1 - k) → ¬ k < 0) ∧ (¬ k < 0 → ¬ x < 0 → ¬ (nI n1) < x → ¬ u.1 < k → x ≤ (u.1 - k) → ¬ (0 : Int32) < 0) ∧ (¬ k < 0 → ¬ x < 0 → ¬ (nI n1) < x → ¬ u.1 < k → x ≤ (u.1 - k) → ¬ x < 0) ∧ (¬ k < 0 → ¬ x < 0 → ¬ (nI n1) < x → ¬ u.1 < k → x ≤ (u.1 - k) → k.toNatClampNeg + x.toNatClampNeg ≤ n) ∧ (¬ k < 0 → ¬ x < 0 → ¬ (nI n1) < x → ¬ u.1 < k → x ≤ (u.1 - k) → (0 : Int32).toNatClampNeg + x.toNatClampNeg ≤ n1) ∧ (¬ k < 0 → ¬ x < 0 → ¬ (nI n1) < x → ¬ u.1 < k → x ≤ (u.1 - k) → ∀ i, i < x.toNatClampNeg → fits .byte (.int (u.2 (k.toNatClampNeg + i))) = true)
set_option maxHeartbeats 4000000 in
set_option maxRecDepth 100000 in
theorem c_Row_giveBytes (l : Launch) (D : va_G) (tt : Nat → ClassId) (ad : Nat → Nat) (N : Nat) (A : Nat → Prop) (zs : Nat → Nat) (w0 : Nat → va_E) (q n : Nat) (u : cd_Row) (q1 n1 : Nat) (u1 : cd_By) (k : Int32) (x : Int32) (hR0 : cd_RowAt N tt ad w0 q n u) (hR1 : cd_ByAt N tt ad w0 q1 n1 u1) (hap0 : q1 < q ∨ q + 2 ≤ q1) (ho : o_Row_giveBytes n u n1 u1 k x) : Met l y_Row_giveBytes w_Row_giveBytes ({ frames := 1, cells := 0, slots := 0, locals := 60 }) (va_Pc [.ref (ad q), .int k, .ref (ad q1), .int x] (cd_U D tt ad N A zs w0)) (va_Qv (fun w' => cd_ByAt N tt ad w' q1 n1 (f_Row_giveBytes n u n1 u1 k x) ∧ (∀ k : Nat, (k < q1 ∨ q1 + 1 ≤ k) → w' k = w0 k)) (fun w' t => cd_P D ad N A w' t.heap) A) 0 0 A := by
  refine Met.ofW (cc := b_Row_giveBytes) (maxL := 4) (ret := none) (by decide) rfl ?_
  intro p e s m args below meth c s₁ B hml hv
  obtain ⟨rfl, hP, hK, hZ⟩ := hv
  have hx := B.exec
  have hb := B.bytes
  have hr := B.returns
  have hA : ∀ w ∈ cd_AW, w.before _ s = true := fun w h => atoms_spec (ws := w_Row_giveBytes) B.pre w (List.mem_cons_of_mem _ h)
  have hown : s.vm.findClass R_Row = some m.cls := findClass_of_methodNamed B.named
  have hlocks := B.notSynchronized
  have hS : va_S A s.heap s.heap [] := va_S.rf
  have hl := lv_entry ([.ref (ad q), .int k, .ref (ad q1), .int x]) (n := 4) (Nat.le_of_ble_eq_true rfl)
  rw [lg_entry_eq]
  generalize (lg_sl ([.ref (ad q), .int k, .ref (ad q1), .int x]) ++ List.replicate (4 - (lg_sl ([.ref (ad q), .int k, .ref (ad q1), .int x])).length) Slot.unset).toArray = ls at hl ⊢
  have hl : lv_has ls 4 [(0, .ref (ad q)), (1, .int k), (2, .ref (ad q1)), (3, .int x)] := hl
  have ho : (¬ k < 0 → ¬ x < 0 → ¬ (nI n1) < x → ¬ u.1 < k → x ≤ (u.1 - k) → ¬ k < 0) ∧ (¬ k < 0 → ¬ x < 0 → ¬ (nI n1) < x → ¬ u.1 < k → x ≤ (u.1 - k) → ¬ (0 : Int32) < 0) ∧ (¬ k < 0 → ¬ x < 0 → ¬ (nI n1) < x → ¬ u.1 < k → x ≤ (u.1 - k) → ¬ x < 0) ∧ (¬ k < 0 → ¬ x < 0 → ¬ (nI n1) < x → ¬ u.1 < k → x ≤ (u.1 - k) → k.toNatClampNeg + x.toNatClampNeg ≤ n) ∧ (¬ k < 0 → ¬ x < 0 → ¬ (nI n1) < x → ¬ u.1 < k → x ≤ (u.1 - k) → (0 : Int32).toNatClampNeg + x.toNatClampNeg ≤ n1) ∧ (¬ k < 0 → ¬ x < 0 → ¬ (nI n1) < x → ¬ u.1 < k → x ≤ (u.1 - k) → ∀ i, i < x.toNatClampNeg → fits .byte (.int (u.2 (k.toNatClampNeg + i))) = true) := ho
  obtain ⟨hn1, fa2, fa3⟩ := hR0
  refine lv_iload_n hx hb d_Row_giveBytes_0 rfl (lv_at hl 1 rfl) ?_
  refine lv_if_lt (tgt := 32) hx hb d_Row_giveBytes_1 (by decide) (fun hc4 => ?_) (fun hc4 => ?_)
  · have hf5 : (f_Row_giveBytes n u n1 u1 k x) = u1 := by rw [f_Row_giveBytes, if_pos hc4]
    exact W.vret hx hb hr (fun tE ht _ => ⟨⟨w0, rfl, ⟨(by rw [hf5]; exact hR1), (fun _ _ => rfl)⟩, cd_Pt ht hP⟩, hS.F ht⟩) hS.2.2 d_Row_giveBytes_32
  · refine lv_iload_n hx hb d_Row_giveBytes_4 rfl (lv_at hl 3 rfl) ?_
    refine lv_if_lt (tgt := 32) hx hb d_Row_giveBytes_5 (by decide) (fun hc6 => ?_) (fun hc6 => ?_)
    · have hf7 : (f_Row_giveBytes n u n1 u1 k x) = u1 := by rw [f_Row_giveBytes, if_neg hc4, if_pos hc6]
      exact W.vret hx hb hr (fun tE ht _ => ⟨⟨w0, rfl, ⟨(by rw [hf7]; exact hR1), (fun _ _ => rfl)⟩, cd_Pt ht hP⟩, hS.F ht⟩) hS.2.2 d_Row_giveBytes_32
    · refine lv_iload_n hx hb d_Row_giveBytes_8 rfl (lv_at hl 3 rfl) ?_
      refine lv_aload_n hx hb d_Row_giveBytes_9 rfl (lv_at hl 2 rfl) ?_
      obtain ⟨hn8, fa9⟩ := hR1
      refine g_alen (v := (nI n1)) hx hb hK hP (k := q1) (by omega) fa9 (t0 := 0) rfl rfl d_Row_giveBytes_10 ?_
      refine lv_icmp_gt (tgt := 32) hx hb d_Row_giveBytes_11 (by decide) (fun hc10 => ?_) (fun hc10 => ?_)
      · have hf11 : (f_Row_giveBytes n u n1 u1 k x) = u1 := by rw [f_Row_giveBytes, if_neg hc4, if_neg hc6, if_pos hc10]
        exact W.vret hx hb hr (fun tE ht _ => ⟨⟨w0, rfl, ⟨(by rw [hf11]; exact ⟨hn8, fa9⟩), (fun _ _ => rfl)⟩, cd_Pt ht hP⟩, hS.F ht⟩) hS.2.2 d_Row_giveBytes_32
      · refine lv_iload_n hx hb d_Row_giveBytes_14 rfl (lv_at hl 1 rfl) ?_
        refine lv_aload_n hx hb d_Row_giveBytes_15 rfl (lv_at hl 0 rfl) ?_
        refine g_get (ci := 0) (C := R_Row) (T := F_Row) (Nf := 2) (v := .int u.1) hx hb hA in_Row hown hK hP (k := q) (by omega) fa2 rfl 1 (by decide) (hA _ aw_69) (fun _ h9 => h9) rfl d_Row_giveBytes_16 ?_
        refine lv_icmp_gt (tgt := 32) hx hb d_Row_giveBytes_19 (by decide) (fun hc12 => ?_) (fun hc12 => ?_)
        · have hf13 : (f_Row_giveBytes n u n1 u1 k x) = u1 := by rw [f_Row_giveBytes, if_neg hc4, if_neg hc6, if_neg hc10, if_pos hc12]
          exact W.vret hx hb hr (fun tE ht _ => ⟨⟨w0, rfl, ⟨(by rw [hf13]; exact ⟨hn8, fa9⟩), (fun _ _ => rfl)⟩, cd_Pt ht hP⟩, hS.F ht⟩) hS.2.2 d_Row_giveBytes_32
        · refine lv_iload_n hx hb d_Row_giveBytes_22 rfl (lv_at hl 3 rfl) ?_
          refine lv_aload_n hx hb d_Row_giveBytes_23 rfl (lv_at hl 0 rfl) ?_
          refine g_get (ci := 0) (C := R_Row) (T := F_Row) (Nf := 2) (v := .int u.1) hx hb hA in_Row hown hK hP (k := q) (by omega) fa2 rfl 1 (by decide) (hA _ aw_69) (fun _ h9 => h9) rfl d_Row_giveBytes_24 ?_
          refine lv_iload_n hx hb d_Row_giveBytes_27 rfl (lv_at hl 1 rfl) ?_
          refine lv_isub hx hb d_Row_giveBytes_28 ?_
          refine lv_icmp_le (tgt := 33) hx hb d_Row_giveBytes_29 (by decide) (fun hc14 => ?_) (fun hc14 => ?_)
          · refine lv_aload_n hx hb d_Row_giveBytes_33 rfl (lv_at hl 0 rfl) ?_
            refine g_get (ci := 0) (C := R_Row) (T := F_Row) (Nf := 2) (v := .ref (ad (q + 1))) hx hb hA in_Row hown hK hP (k := q) (by omega) fa2 rfl 0 (by decide) (hA _ aw_68) (fun _ h9 => h9) rfl d_Row_giveBytes_34 ?_
            refine lv_iload_n hx hb d_Row_giveBytes_37 rfl (lv_at hl 1 rfl) ?_
            refine lv_aload_n hx hb d_Row_giveBytes_38 rfl (lv_at hl 2 rfl) ?_
            refine lv_iconst (v := (0 : Int32)) hx hb d_Row_giveBytes_39 (by decide) ?_
            refine lv_iload_n hx hb d_Row_giveBytes_40 rfl (lv_at hl 3 rfl) ?_
            refine g_copyi (ty := .byte) (t0 := 0) (t1 := 0) hx hb (hml.trans hl.1.symm) hown (hA _ aw_281) (hA _ aw_283) (hA _ aw_282) (hA _ aw_10) hK hP hS (k0 := (q + 1)) (k1 := q1) (by omega) (by omega) fa3 fa9 rfl rfl rfl (ho.1 hc4 hc6 hc10 hc12 hc14) (ho.2.1 hc4 hc6 hc10 hc12 hc14) (ho.2.2.1 hc4 hc6 hc10 hc12 hc14) (ho.2.2.2.1 hc4 hc6 hc10 hc12 hc14) (ho.2.2.2.2.1 hc4 hc6 hc10 hc12 hc14) (ho.2.2.2.2.2 hc4 hc6 hc10 hc12 hc14) (by decide) (by decide) d_Row_giveBytes_41 (fun H locs w1 fa15 e1 hP hS => ?_)
            have fa16 := (e1 q (by omega)).trans fa2
            have fa17 := (e1 (q + 1) (by omega)).trans fa3
            have hf18 : (f_Row_giveBytes n u n1 u1 k x) = (va_cpy u.2 u1 k.toNatClampNeg (0 : Int32).toNatClampNeg x.toNatClampNeg) := by rw [f_Row_giveBytes, if_neg hc4, if_neg hc6, if_neg hc10, if_neg hc12, if_pos hc14]
            exact W.vret hx hb hr (fun tE ht _ => ⟨⟨w1, rfl, ⟨(by rw [hf18]; exact ⟨hn8, fa15⟩), (fun k hk => (e1 k (by omega)))⟩, cd_Pt ht hP⟩, hS.F ht⟩) hS.2.2 d_Row_giveBytes_44
          · have hf19 : (f_Row_giveBytes n u n1 u1 k x) = u1 := by rw [f_Row_giveBytes, if_neg hc4, if_neg hc6, if_neg hc10, if_neg hc12, if_neg hc14]
            exact W.vret hx hb hr (fun tE ht _ => ⟨⟨w0, rfl, ⟨(by rw [hf19]; exact ⟨hn8, fa9⟩), (fun _ _ => rfl)⟩, cd_Pt ht hP⟩, hS.F ht⟩) hS.2.2 d_Row_giveBytes_32
def f_Row_shorten (n : Nat) (u : cd_Row) (x : Int32) : Int32 × cd_Row := (if x < 0 then ((0 : Int32), u) else (if x ≤ u.1 then ((1 : Int32), (x, u.2)) else ((0 : Int32), u)))
set_option maxHeartbeats 4000000 in
set_option maxRecDepth 100000 in
theorem c_Row_shorten (l : Launch) (D : va_G) (tt : Nat → ClassId) (ad : Nat → Nat) (N : Nat) (A : Nat → Prop) (zs : Nat → Nat) (w0 : Nat → va_E) (q n : Nat) (u : cd_Row) (x : Int32) (hR0 : cd_RowAt N tt ad w0 q n u) : Met l y_Row_shorten w_Row_shorten ({ frames := 0, cells := 0, slots := 0, locals := 0 }) (va_Pc [.ref (ad q), .int x] (cd_U D tt ad N A zs w0)) (va_Qi (fun r w' => (f_Row_shorten n u x).1 = r ∧ (r = 0 ∨ r = 1) ∧ cd_RowAt N tt ad w' q n ((f_Row_shorten n u x).2) ∧ (∀ k : Nat, (k < q ∨ q + 2 ≤ k) → w' k = w0 k)) (fun w' t => cd_P D ad N A w' t.heap) A) 0 0 A := by
  refine Met.ofW (cc := b_Row_shorten) (maxL := 2) (ret := (some .boolean)) (by decide) rfl ?_
  intro p e s m args below meth c s₁ B hml hv
  obtain ⟨rfl, hP, hK, hZ⟩ := hv
  have hx := B.exec
  have hb := B.bytes
  have hr := B.returns
  have hA : ∀ w ∈ cd_AW, w.before _ s = true := fun w h => atoms_spec (ws := w_Row_shorten) B.pre w (List.mem_cons_of_mem _ h)
  have hown : s.vm.findClass R_Row = some m.cls := findClass_of_methodNamed B.named
  have hlocks := B.notSynchronized
  have hS : va_S A s.heap s.heap [] := va_S.rf
  have hl := lv_entry ([.ref (ad q), .int x]) (n := 2) (Nat.le_of_ble_eq_true rfl)
  rw [lg_entry_eq]
  generalize (lg_sl ([.ref (ad q), .int x]) ++ List.replicate (2 - (lg_sl ([.ref (ad q), .int x])).length) Slot.unset).toArray = ls at hl ⊢
  have hl : lv_has ls 2 [(0, .ref (ad q)), (1, .int x)] := hl
  obtain ⟨hn1, fa2, fa3⟩ := hR0
  refine lv_iload_n hx hb d_Row_shorten_0 rfl (lv_at hl 1 rfl) ?_
  refine lv_if_lt (tgt := 12) hx hb d_Row_shorten_1 (by decide) (fun hc4 => ?_) (fun hc4 => ?_)
  · refine lv_iconst (v := (0 : Int32)) hx hb d_Row_shorten_12 (by decide) ?_
    have hf5 : (f_Row_shorten n u x) = ((0 : Int32), u) := by rw [f_Row_shorten, if_pos hc4]
    exact W.zret (ty := .boolean) (v := (0 : Int32)) hx hb hr rfl (fun tE ht _ => ⟨⟨_, w0, rfl, ⟨(by rw [hf5]), (Or.inl rfl), (by rw [hf5]; exact ⟨hn1, fa2, fa3⟩), (fun _ _ => rfl)⟩, cd_Pt ht hP⟩, hS.F ht⟩) hS.2.2 d_Row_shorten_13
  · refine lv_iload_n hx hb d_Row_shorten_4 rfl (lv_at hl 1 rfl) ?_
    refine lv_aload_n hx hb d_Row_shorten_5 rfl (lv_at hl 0 rfl) ?_
    refine g_get (ci := 0) (C := R_Row) (T := F_Row) (Nf := 2) (v := .int u.1) hx hb hA in_Row hown hK hP (k := q) (by omega) fa2 rfl 1 (by decide) (hA _ aw_69) (fun _ h9 => h9) rfl d_Row_shorten_6 ?_
    refine lv_icmp_le (tgt := 14) hx hb d_Row_shorten_9 (by decide) (fun hc6 => ?_) (fun hc6 => ?_)
    · refine lv_aload_n hx hb d_Row_shorten_14 rfl (lv_at hl 0 rfl) ?_
      refine lv_iload_n hx hb d_Row_shorten_15 rfl (lv_at hl 1 rfl) ?_
      refine g_put (ci := 0) (C := R_Row) (T := F_Row) (Nf := 2) (v := .int x) (ty := .int) hx hb hA in_Row t_Row t_Row_ok n_Row hown hK hP hS (k := q) (by omega) fa2 rfl 1 (by decide) (hA _ aw_69) (fun _ h9 => h9) rfl (by decide +kernel) rfl rfl (Nat.le_of_ble_eq_true rfl) d_Row_shorten_16 (fun H locs w1 fa7 e1 hP hS => ?_)
      have fa7 : w1 q = .inr (0, [.ref (ad (q + 1)), .int x]) := fa7
      have fa8 := (e1 (q + 1) (by omega)).trans fa3
      refine lv_iconst (v := (1 : Int32)) hx hb d_Row_shorten_19 (by decide) ?_
      have hf9 : (f_Row_shorten n u x) = ((1 : Int32), (x, u.2)) := by rw [f_Row_shorten, if_neg hc4, if_pos hc6]
      exact W.zret (ty := .boolean) (v := (1 : Int32)) hx hb hr rfl (fun tE ht _ => ⟨⟨_, w1, rfl, ⟨(by rw [hf9]), (Or.inr rfl), (by rw [hf9]; exact ⟨hn1, fa7, fa8⟩), (fun k hk => (e1 k (by omega)))⟩, cd_Pt ht hP⟩, hS.F ht⟩) hS.2.2 d_Row_shorten_20
    · refine lv_iconst (v := (0 : Int32)) hx hb d_Row_shorten_12 (by decide) ?_
      have hf10 : (f_Row_shorten n u x) = ((0 : Int32), u) := by rw [f_Row_shorten, if_neg hc4, if_neg hc6]
      exact W.zret (ty := .boolean) (v := (0 : Int32)) hx hb hr rfl (fun tE ht _ => ⟨⟨_, w0, rfl, ⟨(by rw [hf10]), (Or.inl rfl), (by rw [hf10]; exact ⟨hn1, fa2, fa3⟩), (fun _ _ => rfl)⟩, cd_Pt ht hP⟩, hS.F ht⟩) hS.2.2 d_Row_shorten_13
def f_Row_become (n : Nat) (u : cd_Row) (n1 : Nat) (u1 : cd_Row) : cd_Row := (f_Row_appendBytes n ((0 : Int32), u.2) n1 u1.2 u1.1)
def o_Row_become (n : Nat) (u : cd_Row) (n1 : Nat) (u1 : cd_Row) : Prop := (o_Row_appendBytes n ((0 : Int32), u.2) n1 u1.2 u1.1)
set_option maxHeartbeats 4000000 in
set_option maxRecDepth 100000 in
theorem c_Row_become (l : Launch) (D : va_G) (tt : Nat → ClassId) (ad : Nat → Nat) (N : Nat) (A : Nat → Prop) (zs : Nat → Nat) (w0 : Nat → va_E) (q n : Nat) (u : cd_Row) (q1 n1 : Nat) (u1 : cd_Row) (hR0 : cd_RowAt N tt ad w0 q n u) (hR1 : cd_RowAt N tt ad w0 q1 n1 u1) (hap0 : q1 + 2 ≤ q ∨ q + 2 ≤ q1) (ho : o_Row_become n u n1 u1) : Met l y_Row_become w_Row_become ({ frames := 2, cells := 0, slots := 0, locals := 82 }) (va_Pc [.ref (ad q), .ref (ad q1)] (cd_U D tt ad N A zs w0)) (va_Qv (fun w' => cd_RowAt N tt ad w' q n (f_Row_become n u n1 u1) ∧ (∀ k : Nat, (k < q ∨ q + 2 ≤ k) → w' k = w0 k)) (fun w' t => cd_P D ad N A w' t.heap) A) 0 0 A := by
  refine Met.ofW (cc := b_Row_become) (maxL := 2) (ret := none) (by decide) rfl ?_
  intro p e s m args below meth c s₁ B hml hv
  obtain ⟨rfl, hP, hK, hZ⟩ := hv
  have hx := B.exec
  have hb := B.bytes
  have hr := B.returns
  have hA : ∀ w ∈ cd_AW, w.before _ s = true := fun w h => atoms_spec (ws := w_Row_become) B.pre w (List.mem_cons_of_mem _ h)
  have hown : s.vm.findClass R_Row = some m.cls := findClass_of_methodNamed B.named
  have hlocks := B.notSynchronized
  have hS : va_S A s.heap s.heap [] := va_S.rf
  have hl := lv_entry ([.ref (ad q), .ref (ad q1)]) (n := 2) (Nat.le_of_ble_eq_true rfl)
  rw [lg_entry_eq]
  generalize (lg_sl ([.ref (ad q), .ref (ad q1)]) ++ List.replicate (2 - (lg_sl ([.ref (ad q), .ref (ad q1)])).length) Slot.unset).toArray = ls at hl ⊢
  have hl : lv_has ls 2 [(0, .ref (ad q)), (1, .ref (ad q1))] := hl
  have ho : (o_Row_appendBytes n ((0 : Int32), u.2) n1 u1.2 u1.1) := ho
  obtain ⟨hn1, fa2, fa3⟩ := hR0
  refine lv_aload_n hx hb d_Row_become_0 rfl (lv_at hl 0 rfl) ?_
  refine lv_iconst (v := (0 : Int32)) hx hb d_Row_become_1 (by decide) ?_
  refine g_put (ci := 0) (C := R_Row) (T := F_Row) (Nf := 2) (v := .int (0 : Int32)) (ty := .int) hx hb hA in_Row t_Row t_Row_ok n_Row hown hK hP hS (k := q) (by omega) fa2 rfl 1 (by decide) (hA _ aw_69) (fun _ h9 => h9) rfl (by decide +kernel) rfl rfl (Nat.le_of_ble_eq_true rfl) d_Row_become_2 (fun H locs w1 fa4 e1 hP hS => ?_)
  have fa4 : w1 q = .inr (0, [.ref (ad (q + 1)), .int (0 : Int32)]) := fa4
  have fa5 := (e1 (q + 1) (by omega)).trans fa3
  have at6 := cd_RowAt_keep hR1 (fun k h1 h2 => e1 k (by omega))
  refine lv_aload_n hx hb d_Row_become_5 rfl (lv_at hl 0 rfl) ?_
  refine lv_aload_n hx hb d_Row_become_6 rfl (lv_at hl 1 rfl) ?_
  obtain ⟨hn7, fa8, fa9⟩ := at6
  refine g_get (ci := 0) (C := R_Row) (T := F_Row) (Nf := 2) (v := .ref (ad (q1 + 1))) hx hb hA in_Row hown hK hP (k := q1) (by omega) fa8 rfl 0 (by decide) (hA _ aw_68) (fun _ h9 => h9) rfl d_Row_become_7 ?_
  refine lv_aload_n hx hb d_Row_become_10 rfl (lv_at hl 1 rfl) ?_
  refine g_get (ci := 0) (C := R_Row) (T := F_Row) (Nf := 2) (v := .int u1.1) hx hb hA in_Row hown hK hP (k := q1) (by omega) fa8 rfl 1 (by decide) (hA _ aw_69) (fun _ h9 => h9) rfl d_Row_become_11 ?_
  refine va_callv (va_runV (As := [.ref (ad (q1 + 1)), .int u1.1]) (rest := []) ⟨hx, hb, hml, hown, hA⟩ (c_Row_appendBytes l D tt ad N A zs w1 q n ((0 : Int32), u.2) (q1 + 1) n1 u1.2 u1.1 (⟨hn1, fa4, fa5⟩) (⟨by omega, fa9⟩) (by omega) (ho)) (cwV 2 hA (cd_gV aw_304 aw_278 aw_279 aw_5 aw_280) rfl rfl rfl ⟨rfl, by decide, by decide, by decide +kernel⟩ ⟨Nat.le_of_ble_eq_true rfl, Nat.le_of_ble_eq_true rfl⟩) ⟨cd_blind, cd_recv hK hP (k := q) (by omega) fa4 rfl, fun U hU hW => ⟨rfl, cd_pre hK hP hZ hS U hU hW⟩⟩ rfl rfl hl.1 rfl (lv_room (Nat.le_of_ble_eq_true rfl)) d_Row_become_14 ⟨Nat.zero_le _, Nat.zero_le _⟩) hS (fun _ _ h => h) (fun _ h => h) (fun w2 tE H locs ht hvm hr11 hP hz1 hk1 hS => ?_)
  have hP := cd_Pf ht hP
  obtain ⟨at13, e2⟩ := hr11
  have fa14 := (e2 q1 (by omega)).trans fa8
  have fa15 := (e2 (q1 + 1) (by omega)).trans fa9
  obtain ⟨hn16, fa17, fa18⟩ := at13
  have hf19 : (f_Row_become n u n1 u1) = (f_Row_appendBytes n ((0 : Int32), u.2) n1 u1.2 u1.1) := by rw [f_Row_become]
  exact W.vret hx hb hr (fun tE ht _ => ⟨⟨w2, rfl, ⟨(by rw [hf19]; exact ⟨hn16, fa17, fa18⟩), (fun k hk => ((e2 k (by omega)).trans (e1 k (by omega))))⟩, cd_Pt ht hP⟩, hS.F ht⟩) hS.2.2 d_Row_become_17
