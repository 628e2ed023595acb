def f_Mem_count (u : cd_Mem) : Int32 := u.1
set_option maxHeartbeats 4000000 in
set_option maxRecDepth 100000 in
theorem c_Mem_count (l : Launch) (D : va_G) (tt : Nat → ClassId) (ad : Nat → Nat) (N : Nat) (A : Nat → Prop) (zs : Nat → Nat) (w0 : Nat → va_E) (q : Nat) (u : cd_Mem) (hR0 : cd_MemAt N tt ad w0 q u) : Met l y_Mem_count w_Mem_count ({ frames := 0, cells := 0, slots := 0, locals := 0 }) (va_Pc [.ref (ad q)] (cd_U D tt ad N A zs w0)) (va_Qi (fun r w' => (f_Mem_count u) = r ∧ w0 = w') (fun w' t => cd_P D ad N A w' t.heap) A) 0 0 A := by
  refine Met.ofW (cc := b_Mem_count) (maxL := 1) (ret := (some .int)) (by decide) rfl ?_
  intro p e s m args below meth c s₁ B hml hv
  obtain ⟨rfl, hP, hK, hZ⟩ := hv
  have hx := B.exec
  have hb := B.bytes
  have hr := B.returns
  have hA : ∀ w ∈ cd_AW, w.before _ s = true := fun w h => atoms_spec (ws := w_Mem_count) B.pre w (List.mem_cons_of_mem _ h)
  have hown : s.vm.findClass R_Mem = some m.cls := findClass_of_methodNamed B.named
  have hlocks := B.notSynchronized
  have hS : va_S A s.heap s.heap [] := va_S.rf
  have hl := lv_entry ([.ref (ad q)]) (n := 1) (Nat.le_of_ble_eq_true rfl)
  rw [lg_entry_eq]
  generalize (lg_sl ([.ref (ad q)]) ++ List.replicate (1 - (lg_sl ([.ref (ad q)])).length) Slot.unset).toArray = ls at hl ⊢
  have hl : lv_has ls 1 [(0, .ref (ad q))] := hl
  obtain ⟨hn1, fa2, ⟨rf6, fa3, fa4⟩, fa5⟩ := hR0
  refine lv_aload_n hx hb d_Mem_count_0 rfl (lv_at hl 0 rfl) ?_
  refine g_get (ci := 3) (C := R_Mem) (T := F_Mem) (Nf := 2) (v := .int u.1) hx hb hA in_Mem hown hK hP (k := q) (by omega) fa2 rfl 1 (by decide) (hA _ aw_46) (fun _ h9 => h9) rfl d_Mem_count_1 ?_
  have hf7 : (f_Mem_count u) = u.1 := by rw [f_Mem_count]
  exact W.iret (v := u.1) hx hb hr (fun tE ht _ => ⟨⟨_, w0, rfl, ⟨hf7, rfl⟩, cd_Pt ht hP⟩, hS.F ht⟩) hS.2.2 d_Mem_count_4
def f_Mem_clear (u : cd_Mem) : cd_Mem := ((0 : Int32), u.2.1, u.2.2)
set_option maxHeartbeats 4000000 in
set_option maxRecDepth 100000 in
theorem c_Mem_clear (l : Launch) (D : va_G) (tt : Nat → ClassId) (ad : Nat → Nat) (N : Nat) (A : Nat → Prop) (zs : Nat → Nat) (w0 : Nat → va_E) (q : Nat) (u : cd_Mem) (hR0 : cd_MemAt N tt ad w0 q u) : Met l y_Mem_clear w_Mem_clear ({ frames := 0, cells := 0, slots := 0, locals := 0 }) (va_Pc [.ref (ad q)] (cd_U D tt ad N A zs w0)) (va_Qv (fun w' => cd_MemAt N tt ad w' q (f_Mem_clear u) ∧ (∀ k : Nat, (k < q ∨ q + 14 ≤ k) → w' k = w0 k)) (fun w' t => cd_P D ad N A w' t.heap) A) 0 0 A := by
  refine Met.ofW (cc := b_Mem_clear) (maxL := 1) (ret := none) (by decide) rfl ?_
  intro p e s m args below meth c s₁ B hml hv
  obtain ⟨rfl, hP, hK, hZ⟩ := hv
  have hx := B.exec
  have hb := B.bytes
  have hr := B.returns
  have hA : ∀ w ∈ cd_AW, w.before _ s = true := fun w h => atoms_spec (ws := w_Mem_clear) B.pre w (List.mem_cons_of_mem _ h)
  have hown : s.vm.findClass R_Mem = some m.cls := findClass_of_methodNamed B.named
  have hlocks := B.notSynchronized
  have hS : va_S A s.heap s.heap [] := va_S.rf
  have hl := lv_entry ([.ref (ad q)]) (n := 1) (Nat.le_of_ble_eq_true rfl)
  rw [lg_entry_eq]
  generalize (lg_sl ([.ref (ad q)]) ++ List.replicate (1 - (lg_sl ([.ref (ad q)])).length) Slot.unset).toArray = ls at hl ⊢
  have hl : lv_has ls 1 [(0, .ref (ad q))] := hl
  obtain ⟨hn1, fa2, ⟨rf6, fa3, fa4⟩, fa5⟩ := hR0
  refine lv_aload_n hx hb d_Mem_clear_0 rfl (lv_at hl 0 rfl) ?_
  refine lv_iconst (v := (0 : Int32)) hx hb d_Mem_clear_1 (by decide) ?_
  refine g_put (ci := 3) (C := R_Mem) (T := F_Mem) (Nf := 2) (v := .int (0 : Int32)) (ty := .int) hx hb hA in_Mem t_Mem t_Mem_ok n_Mem hown hK hP hS (k := q) (by omega) fa2 rfl 1 (by decide) (hA _ aw_46) (fun _ h9 => h9) rfl (by decide +kernel) rfl rfl (Nat.le_of_ble_eq_true rfl) d_Mem_clear_2 (fun H locs w1 fa7 e1 hP hS => ?_)
  have fa7 : w1 q = .inr (3, [.ref (ad (q + 1)), .int (0 : Int32)]) := fa7
  have fa8 := (e1 (q + 1) (by omega)).trans fa3
  have fa9 := cd_pool_keep fa5 (fun k h1 h2 => e1 k (by omega))
  have hf10 : (f_Mem_clear u) = ((0 : Int32), u.2.1, u.2.2) := by rw [f_Mem_clear]
  exact W.vret hx hb hr (fun tE ht _ => ⟨⟨w1, rfl, ⟨(by rw [hf10]; exact ⟨hn1, fa7, ⟨rf6, fa8, fa4⟩, fa9⟩), (fun k hk => (e1 k (by omega)))⟩, cd_Pt ht hP⟩, hS.F ht⟩) hS.2.2 d_Mem_clear_5
def f_Mem_isSpan (k : Int32) (x : Int32) : Int32 := (if k < 0 then (0 : Int32) else (if (k - k / (64 : Int32) * (64 : Int32)) = 0 then (if x < (64 : Int32) then (0 : Int32) else (if (1024 : Int32) < x then (0 : Int32) else (if (x - x / (64 : Int32) * (64 : Int32)) = 0 then (if ((2147483647 : Int32) - (x - (1 : Int32))) < k then (0 : Int32) else (1 : Int32)) else (0 : Int32)))) else (0 : Int32)))
set_option maxHeartbeats 4000000 in
set_option maxRecDepth 100000 in
theorem c_Mem_isSpan (l : Launch) (D : va_G) (tt : Nat → ClassId) (ad : Nat → Nat) (N : Nat) (A : Nat → Prop) (zs : Nat → Nat) (w0 : Nat → va_E) (k : Int32) (x : Int32) : Met l y_Mem_isSpan w_Mem_isSpan ({ frames := 0, cells := 0, slots := 0, locals := 0 }) (va_Pc [.int k, .int x] (cd_U D tt ad N A zs w0)) (va_Qi (fun r w' => (f_Mem_isSpan k x) = r ∧ (r = 0 ∨ r = 1) ∧ w0 = w') (fun w' t => cd_P D ad N A w' t.heap) A) 0 0 A := by
  refine Met.ofW (cc := b_Mem_isSpan) (maxL := 2) (ret := (some .boolean)) (by decide) rfl ?_
  intro p e s m args below meth c s₁ B hml hv
  obtain ⟨rfl, hP, hK, hZ⟩ := hv
  have hx := B.exec
  have hb := B.bytes
  have hr := B.returns
  have hA : ∀ w ∈ cd_AW, w.before _ s = true := fun w h => atoms_spec (ws := w_Mem_isSpan) B.pre w (List.mem_cons_of_mem _ h)
  have hown : s.vm.findClass R_Mem = some m.cls := findClass_of_methodNamed B.named
  have hlocks := B.notSynchronized
  have hS : va_S A s.heap s.heap [] := va_S.rf
  have hl := lv_entry ([.int k, .int x]) (n := 2) (Nat.le_of_ble_eq_true rfl)
  rw [lg_entry_eq]
  generalize (lg_sl ([.int k, .int x]) ++ List.replicate (2 - (lg_sl ([.int k, .int x])).length) Slot.unset).toArray = ls at hl ⊢
  have hl : lv_has ls 2 [(0, .int k), (1, .int x)] := hl
  refine lv_iload_n hx hb d_Mem_isSpan_0 rfl (lv_at hl 0 rfl) ?_
  refine lv_if_lt (tgt := 45) hx hb d_Mem_isSpan_1 (by decide) (fun hc1 => ?_) (fun hc1 => ?_)
  · refine lv_iconst (v := (0 : Int32)) hx hb d_Mem_isSpan_45 (by decide) ?_
    have hf2 : (f_Mem_isSpan k x) = (0 : Int32) := by rw [f_Mem_isSpan, if_pos hc1]
    exact W.zret (ty := .boolean) (v := (0 : Int32)) hx hb hr rfl (fun tE ht _ => ⟨⟨_, w0, rfl, ⟨hf2, (Or.inl rfl), rfl⟩, cd_Pt ht hP⟩, hS.F ht⟩) hS.2.2 d_Mem_isSpan_46
  · refine lv_iload_n hx hb d_Mem_isSpan_4 rfl (lv_at hl 0 rfl) ?_
    refine lv_bipush (v := (64 : Int32)) hx hb d_Mem_isSpan_5 (by decide) ?_
    refine lv_irem hx hb d_Mem_isSpan_7 (by decide) ?_
    refine lv_if_ne (tgt := 45) hx hb d_Mem_isSpan_8 (by decide) (fun hc3 => ?_) (fun hc3 => ?_)
    · refine lv_iconst (v := (0 : Int32)) hx hb d_Mem_isSpan_45 (by decide) ?_
      have hf4 : (f_Mem_isSpan k x) = (0 : Int32) := by rw [f_Mem_isSpan, if_neg hc1, if_neg hc3]
      exact W.zret (ty := .boolean) (v := (0 : Int32)) hx hb hr rfl (fun tE ht _ => ⟨⟨_, w0, rfl, ⟨hf4, (Or.inl rfl), rfl⟩, cd_Pt ht hP⟩, hS.F ht⟩) hS.2.2 d_Mem_isSpan_46
    · refine lv_iload_n hx hb d_Mem_isSpan_11 rfl (lv_at hl 1 rfl) ?_
      refine lv_bipush (v := (64 : Int32)) hx hb d_Mem_isSpan_12 (by decide) ?_
      refine lv_icmp_lt (tgt := 45) hx hb d_Mem_isSpan_14 (by decide) (fun hc5 => ?_) (fun hc5 => ?_)
      · refine lv_iconst (v := (0 : Int32)) hx hb d_Mem_isSpan_45 (by decide) ?_
        have hf6 : (f_Mem_isSpan k x) = (0 : Int32) := by rw [f_Mem_isSpan, if_neg hc1, if_pos hc3, if_pos hc5]
        exact W.zret (ty := .boolean) (v := (0 : Int32)) hx hb hr rfl (fun tE ht _ => ⟨⟨_, w0, rfl, ⟨hf6, (Or.inl rfl), rfl⟩, cd_Pt ht hP⟩, hS.F ht⟩) hS.2.2 d_Mem_isSpan_46
      · refine lv_iload_n hx hb d_Mem_isSpan_17 rfl (lv_at hl 1 rfl) ?_
        refine lv_sipush (v := (1024 : Int32)) hx hb d_Mem_isSpan_18 (by decide) ?_
        refine lv_icmp_gt (tgt := 45) hx hb d_Mem_isSpan_21 (by decide) (fun hc7 => ?_) (fun hc7 => ?_)
        · refine lv_iconst (v := (0 : Int32)) hx hb d_Mem_isSpan_45 (by decide) ?_
          have hf8 : (f_Mem_isSpan k x) = (0 : Int32) := by rw [f_Mem_isSpan, if_neg hc1, if_pos hc3, if_neg hc5, if_pos hc7]
          exact W.zret (ty := .boolean) (v := (0 : Int32)) hx hb hr rfl (fun tE ht _ => ⟨⟨_, w0, rfl, ⟨hf8, (Or.inl rfl), rfl⟩, cd_Pt ht hP⟩, hS.F ht⟩) hS.2.2 d_Mem_isSpan_46
        · refine lv_iload_n hx hb d_Mem_isSpan_24 rfl (lv_at hl 1 rfl) ?_
          refine lv_bipush (v := (64 : Int32)) hx hb d_Mem_isSpan_25 (by decide) ?_
          refine lv_irem hx hb d_Mem_isSpan_27 (by decide) ?_
          refine lv_if_ne (tgt := 45) hx hb d_Mem_isSpan_28 (by decide) (fun hc9 => ?_) (fun hc9 => ?_)
          · refine lv_iconst (v := (0 : Int32)) hx hb d_Mem_isSpan_45 (by decide) ?_
            have hf10 : (f_Mem_isSpan k x) = (0 : Int32) := by rw [f_Mem_isSpan, if_neg hc1, if_pos hc3, if_neg hc5, if_neg hc7, if_neg hc9]
            exact W.zret (ty := .boolean) (v := (0 : Int32)) hx hb hr rfl (fun tE ht _ => ⟨⟨_, w0, rfl, ⟨hf10, (Or.inl rfl), rfl⟩, cd_Pt ht hP⟩, hS.F ht⟩) hS.2.2 d_Mem_isSpan_46
          · refine lv_iload_n hx hb d_Mem_isSpan_31 rfl (lv_at hl 0 rfl) ?_
            refine lv_ldc (v := (2147483647 : Int32)) hx hb hown (hA _ aw_129) d_Mem_isSpan_32 ?_
            refine lv_iload_n hx hb d_Mem_isSpan_34 rfl (lv_at hl 1 rfl) ?_
            refine lv_iconst (v := (1 : Int32)) hx hb d_Mem_isSpan_35 (by decide) ?_
            refine lv_isub hx hb d_Mem_isSpan_36 ?_
            refine lv_isub hx hb d_Mem_isSpan_37 ?_
            refine lv_icmp_gt (tgt := 45) hx hb d_Mem_isSpan_38 (by decide) (fun hc11 => ?_) (fun hc11 => ?_)
            · refine lv_iconst (v := (0 : Int32)) hx hb d_Mem_isSpan_45 (by decide) ?_
              have hf12 : (f_Mem_isSpan k x) = (0 : Int32) := by rw [f_Mem_isSpan, if_neg hc1, if_pos hc3, if_neg hc5, if_neg hc7, if_pos hc9, if_pos hc11]
              exact W.zret (ty := .boolean) (v := (0 : Int32)) hx hb hr rfl (fun tE ht _ => ⟨⟨_, w0, rfl, ⟨hf12, (Or.inl rfl), rfl⟩, cd_Pt ht hP⟩, hS.F ht⟩) hS.2.2 d_Mem_isSpan_46
            · refine lv_iconst (v := (1 : Int32)) hx hb d_Mem_isSpan_41 (by decide) ?_
              refine lv_goto (tgt := 46) hx hb d_Mem_isSpan_42 (by decide) ?_
              have hf13 : (f_Mem_isSpan k x) = (1 : Int32) := by rw [f_Mem_isSpan, if_neg hc1, if_pos hc3, if_neg hc5, if_neg hc7, if_pos hc9, if_neg hc11]
              exact W.zret (ty := .boolean) (v := (1 : Int32)) hx hb hr rfl (fun tE ht _ => ⟨⟨_, w0, rfl, ⟨hf13, (Or.inr rfl), rfl⟩, cd_Pt ht hP⟩, hS.F ht⟩) hS.2.2 d_Mem_isSpan_46
def f_Mem_overlap (k : Int32) (x : Int32) (k1 : Int32) (x1 : Int32) : Int32 := (if x ≤ 0 then (0 : Int32) else (if x1 ≤ 0 then (0 : Int32) else (if x1 ≤ (k - k1) then (0 : Int32) else (if x ≤ (k1 - k) then (0 : Int32) else (1 : Int32)))))
set_option maxHeartbeats 4000000 in
set_option maxRecDepth 100000 in
theorem c_Mem_overlap (l : Launch) (D : va_G) (tt : Nat → ClassId) (ad : Nat → Nat) (N : Nat) (A : Nat → Prop) (zs : Nat → Nat) (w0 : Nat → va_E) (k : Int32) (x : Int32) (k1 : Int32) (x1 : Int32) : Met l y_Mem_overlap w_Mem_overlap ({ frames := 0, cells := 0, slots := 0, locals := 0 }) (va_Pc [.int k, .int x, .int k1, .int x1] (cd_U D tt ad N A zs w0)) (va_Qi (fun r w' => (f_Mem_overlap k x k1 x1) = r ∧ (r = 0 ∨ r = 1) ∧ w0 = w') (fun w' t => cd_P D ad N A w' t.heap) A) 0 0 A := by
  refine Met.ofW (cc := b_Mem_overlap) (maxL := 4) (ret := (some .boolean)) (by decide) rfl ?_
  intro p e s m args below meth c s₁ B hml hv
  obtain ⟨rfl, hP, hK, hZ⟩ := hv
  have hx := B.exec
  have hb := B.bytes
  have hr := B.returns
  have hA : ∀ w ∈ cd_AW, w.before _ s = true := fun w h => atoms_spec (ws := w_Mem_overlap) B.pre w (List.mem_cons_of_mem _ h)
  have hown : s.vm.findClass R_Mem = some m.cls := findClass_of_methodNamed B.named
  have hlocks := B.notSynchronized
  have hS : va_S A s.heap s.heap [] := va_S.rf
  have hl := lv_entry ([.int k, .int x, .int k1, .int x1]) (n := 4) (Nat.le_of_ble_eq_true rfl)
  rw [lg_entry_eq]
  generalize (lg_sl ([.int k, .int x, .int k1, .int x1]) ++ List.replicate (4 - (lg_sl ([.int k, .int x, .int k1, .int x1])).length) Slot.unset).toArray = ls at hl ⊢
  have hl : lv_has ls 4 [(0, .int k), (1, .int x), (2, .int k1), (3, .int x1)] := hl
  refine lv_iload_n hx hb d_Mem_overlap_0 rfl (lv_at hl 1 rfl) ?_
  refine lv_if_le (tgt := 26) hx hb d_Mem_overlap_1 (by decide) (fun hc1 => ?_) (fun hc1 => ?_)
  · refine lv_iconst (v := (0 : Int32)) hx hb d_Mem_overlap_26 (by decide) ?_
    have hf2 : (f_Mem_overlap k x k1 x1) = (0 : Int32) := by rw [f_Mem_overlap, if_pos hc1]
    exact W.zret (ty := .boolean) (v := (0 : Int32)) hx hb hr rfl (fun tE ht _ => ⟨⟨_, w0, rfl, ⟨hf2, (Or.inl rfl), rfl⟩, cd_Pt ht hP⟩, hS.F ht⟩) hS.2.2 d_Mem_overlap_27
  · refine lv_iload_n hx hb d_Mem_overlap_4 rfl (lv_at hl 3 rfl) ?_
    refine lv_if_le (tgt := 26) hx hb d_Mem_overlap_5 (by decide) (fun hc3 => ?_) (fun hc3 => ?_)
    · refine lv_iconst (v := (0 : Int32)) hx hb d_Mem_overlap_26 (by decide) ?_
      have hf4 : (f_Mem_overlap k x k1 x1) = (0 : Int32) := by rw [f_Mem_overlap, if_neg hc1, if_pos hc3]
      exact W.zret (ty := .boolean) (v := (0 : Int32)) hx hb hr rfl (fun tE ht _ => ⟨⟨_, w0, rfl, ⟨hf4, (Or.inl rfl), rfl⟩, cd_Pt ht hP⟩, hS.F ht⟩) hS.2.2 d_Mem_overlap_27
    · refine lv_iload_n hx hb d_Mem_overlap_8 rfl (lv_at hl 0 rfl) ?_
      refine lv_iload_n hx hb d_Mem_overlap_9 rfl (lv_at hl 2 rfl) ?_
      refine lv_isub hx hb d_Mem_overlap_10 ?_
      refine lv_iload_n hx hb d_Mem_overlap_11 rfl (lv_at hl 3 rfl) ?_
      refine lv_icmp_ge (tgt := 26) hx hb d_Mem_overlap_12 (by decide) (fun hc5 => ?_) (fun hc5 => ?_)
      · refine lv_iconst (v := (0 : Int32)) hx hb d_Mem_overlap_26 (by decide) ?_
        have hf6 : (f_Mem_overlap k x k1 x1) = (0 : Int32) := by rw [f_Mem_overlap, if_neg hc1, if_neg hc3, if_pos hc5]
        exact W.zret (ty := .boolean) (v := (0 : Int32)) hx hb hr rfl (fun tE ht _ => ⟨⟨_, w0, rfl, ⟨hf6, (Or.inl rfl), rfl⟩, cd_Pt ht hP⟩, hS.F ht⟩) hS.2.2 d_Mem_overlap_27
      · refine lv_iload_n hx hb d_Mem_overlap_15 rfl (lv_at hl 2 rfl) ?_
        refine lv_iload_n hx hb d_Mem_overlap_16 rfl (lv_at hl 0 rfl) ?_
        refine lv_isub hx hb d_Mem_overlap_17 ?_
        refine lv_iload_n hx hb d_Mem_overlap_18 rfl (lv_at hl 1 rfl) ?_
        refine lv_icmp_ge (tgt := 26) hx hb d_Mem_overlap_19 (by decide) (fun hc7 => ?_) (fun hc7 => ?_)
        · refine lv_iconst (v := (0 : Int32)) hx hb d_Mem_overlap_26 (by decide) ?_
          have hf8 : (f_Mem_overlap k x k1 x1) = (0 : Int32) := by rw [f_Mem_overlap, if_neg hc1, if_neg hc3, if_neg hc5, if_pos hc7]
          exact W.zret (ty := .boolean) (v := (0 : Int32)) hx hb hr rfl (fun tE ht _ => ⟨⟨_, w0, rfl, ⟨hf8, (Or.inl rfl), rfl⟩, cd_Pt ht hP⟩, hS.F ht⟩) hS.2.2 d_Mem_overlap_27
        · refine lv_iconst (v := (1 : Int32)) hx hb d_Mem_overlap_22 (by decide) ?_
          refine lv_goto (tgt := 27) hx hb d_Mem_overlap_23 (by decide) ?_
          have hf9 : (f_Mem_overlap k x k1 x1) = (1 : Int32) := by rw [f_Mem_overlap, if_neg hc1, if_neg hc3, if_neg hc5, if_neg hc7]
          exact W.zret (ty := .boolean) (v := (1 : Int32)) hx hb hr rfl (fun tE ht _ => ⟨⟨_, w0, rfl, ⟨hf9, (Or.inr rfl), rfl⟩, cd_Pt ht hP⟩, hS.F ht⟩) hS.2.2 d_Mem_overlap_27
def f_Mem_indexOf_L2 (u : cd_Mem) (k : Int32) : Nat → Int32 → Int32
  | 0, _ => default
  | gn + 1, i => (if u.1 ≤ i then (-1 : Int32) else (if (f_Reg_has (u.2.2 (u.2.1 i.toNatClampNeg)) k) = 0 then (f_Mem_indexOf_L2 u k gn (i + (1 : Int32))) else i))
def f_Mem_indexOf (u : cd_Mem) (k : Int32) : Int32 := (f_Mem_indexOf_L2 u k 7 (0 : Int32))
def o_Mem_indexOf_L2 (u : cd_Mem) (k : Int32) : Nat → Int32 → Prop
  | 0, _ => False
  | gn + 1, i => (¬ u.1 ≤ i → vp_in i 6) ∧ (¬ u.1 ≤ i → (f_Reg_has (u.2.2 (u.2.1 i.toNatClampNeg)) k) = 0 → o_Mem_indexOf_L2 u k gn (i + (1 : Int32)))
def o_Mem_indexOf (u : cd_Mem) (k : Int32) : Prop := (o_Mem_indexOf_L2 u k 7 (0 : Int32))
set_option maxHeartbeats 4000000 in
set_option maxRecDepth 100000 in
theorem c_Mem_indexOf (l : Launch) (D : va_G) (tt : Nat → ClassId) (ad : Nat → Nat) (N : Nat) (A : Nat → Prop) (zs : Nat → Nat) (w0 : Nat → va_E) (q : Nat) (u : cd_Mem) (k : Int32) (hR0 : cd_MemAt N tt ad w0 q u) (ho : o_Mem_indexOf u k) : Met l y_Mem_indexOf w_Mem_indexOf ({ frames := 1, cells := 0, slots := 0, locals := 21 }) (va_Pc [.ref (ad q), .int k] (cd_U D tt ad N A zs w0)) (va_Qi (fun r w' => (f_Mem_indexOf u k) = r ∧ w0 = w') (fun w' t => cd_P D ad N A w' t.heap) A) 0 0 A := by
  refine Met.ofW (cc := b_Mem_indexOf) (maxL := 3) (ret := (some .int)) (by decide) rfl ?_
  intro p e s m args below meth c s₁ B hml hv
  obtain ⟨rfl, hP, hK, hZ⟩ := hv
  have hx := B.exec
  have hb := B.bytes
  have hr := B.returns
  have hA : ∀ w ∈ cd_AW, w.before _ s = true := fun w h => atoms_spec (ws := w_Mem_indexOf) B.pre w (List.mem_cons_of_mem _ h)
  have hown : s.vm.findClass R_Mem = some m.cls := findClass_of_methodNamed B.named
  have hlocks := B.notSynchronized
  have L2 : ∀ (gn : Nat) (i : Int32) (H : Heap) (locs : List Loc) (ls : Array Slot), lv_has ls 3 [(0, .ref (ad q)), (1, .int k), (2, .int i)] → (f_Mem_indexOf u k) = f_Mem_indexOf_L2 u k gn i → cd_MemAt N tt ad w0 q u → cd_P D ad N A w0 H → va_S A s.heap H locs → o_Mem_indexOf_L2 u k gn i → W p l e (headSpec w_Mem_indexOf ({ frames := 1, cells := 0, slots := 0, locals := 21 })).room s m [.ref (ad q), .int k].toArray below meth c H locs 0 0 (MQ below (va_Qi (fun r w' => (f_Mem_indexOf u k) = r ∧ w0 = w') (fun w' t => cd_P D ad N A w' t.heap) A) [.ref (ad q), .int k].toArray s 0 0 A) (F0 m 2 ls []) := by
    intro gn
    induction gn with
    | zero => intro i H locs ls hl he hL0 hP hS ho; exact ho.elim
    | succ gn ih =>
      intro i H locs ls hl he hL0 hP hS ho
      have ho : (¬ u.1 ≤ i → vp_in i 6) ∧ (¬ u.1 ≤ i → (f_Reg_has (u.2.2 (u.2.1 i.toNatClampNeg)) k) = 0 → o_Mem_indexOf_L2 u k gn (i + (1 : Int32))) := ho
      obtain ⟨hn1, fa2, ⟨rf6, fa3, fa4⟩, fa5⟩ := hL0
      refine lv_iload_n hx hb d_Mem_indexOf_2 rfl (lv_at hl 2 rfl) ?_
      refine lv_aload_n hx hb d_Mem_indexOf_3 rfl (lv_at hl 0 rfl) ?_
      refine g_get (ci := 3) (C := R_Mem) (T := F_Mem) (Nf := 2) (v := .int u.1) hx hb hA in_Mem hown hK hP (k := q) (by omega) fa2 rfl 1 (by decide) (hA _ aw_46) (fun _ h9 => h9) rfl d_Mem_indexOf_4 ?_
      refine lv_icmp_ge (tgt := 31) hx hb d_Mem_indexOf_7 (by decide) (fun hc7 => ?_) (fun hc7 => ?_)
      · refine lv_iconst (v := (-1 : Int32)) hx hb d_Mem_indexOf_31 (by decide) ?_
        have hf8 : (f_Mem_indexOf u k) = (-1 : Int32) := by rw [he, f_Mem_indexOf_L2, if_pos hc7]
        exact W.iret (v := (-1 : Int32)) hx hb hr (fun tE ht _ => ⟨⟨_, w0, rfl, ⟨hf8, rfl⟩, cd_Pt ht hP⟩, hS.F ht⟩) hS.2.2 d_Mem_indexOf_32
      · refine lv_aload_n hx hb d_Mem_indexOf_10 rfl (lv_at hl 0 rfl) ?_
        refine g_get (ci := 3) (C := R_Mem) (T := F_Mem) (Nf := 2) (v := .ref (ad (q + 1))) hx hb hA in_Mem hown hK hP (k := q) (by omega) fa2 rfl 0 (by decide) (hA _ aw_45) (fun _ h9 => h9) rfl d_Mem_indexOf_11 ?_
        refine lv_iload_n hx hb d_Mem_indexOf_14 rfl (lv_at hl 2 rfl) ?_
        have hi9 := cd_in6 (ho.1 hc7)
        refine g_aald hx hb hK hP (k := (q + 1)) (by omega) fa3 rfl (ho.1 hc7) (fa4 _ hi9).2 d_Mem_indexOf_15 ?_
        have hi10 := (fa4 _ hi9).1
        refine lv_iload_n hx hb d_Mem_indexOf_16 rfl (lv_at hl 1 rfl) ?_
        obtain ⟨hn11, fa12, fa13⟩ := (fa5 (u.2.1 i.toNatClampNeg) hi10)
        refine va_calli (va_runV (As := [.int k]) (rest := []) ⟨hx, hb, hml, hown, hA⟩ (c_Reg_has l D tt ad N A zs w0 ((q + 2) + 2 * (u.2.1 i.toNatClampNeg)) (u.2.2 (u.2.1 i.toNatClampNeg)) k (⟨hn11, fa12, fa13⟩)) (cwV 1 hA (cd_gV aw_151 aw_152 aw_153 aw_3 aw_154) rfl rfl rfl ⟨rfl, by decide, by decide, by decide +kernel⟩ ⟨Nat.le_of_ble_eq_true rfl, Nat.le_of_ble_eq_true rfl⟩) ⟨cd_blind, cd_recv hK hP (k := ((q + 2) + 2 * (u.2.1 i.toNatClampNeg))) (by omega) fa12 rfl, fun U hU hW => ⟨rfl, cd_pre hK hP hZ hS U hU hW⟩⟩ rfl rfl hl.1 rfl (lv_room (Nat.le_of_ble_eq_true rfl)) d_Mem_indexOf_17 ⟨Nat.zero_le _, Nat.zero_le _⟩) hS (fun _ _ h => h) (fun _ h => h) (fun r14 w1 tE H locs ht hvm hr15 hP hz1 hk1 hS => ?_)
        have hP := cd_Pf ht hP
        obtain ⟨rfl, hbo17, rfl⟩ := hr15
        refine lv_if_eq (tgt := 25) hx hb d_Mem_indexOf_20 (by decide) (fun hc18 => ?_) (fun hc18 => ?_)
        · refine lv_iinc (k := 2) (v := (i + (1 : Int32))) (lv' := [(2, .int (i + (1 : Int32))), (0, .ref (ad q)), (1, .int k)]) hx hb d_Mem_indexOf_25 hl rfl (cd_inc _ _ _ (by decide)) (by decide) rfl (fun ls hl => ?_)
          refine lv_goto (tgt := 2) hx hb d_Mem_indexOf_28 (by decide) ?_
          exact ih (i + (1 : Int32)) H locs ls (lv_sub hl [1, 2, 0] rfl) (show (f_Mem_indexOf u k) = f_Mem_indexOf_L2 u k gn (i + (1 : Int32)) by rw [he, f_Mem_indexOf_L2, if_neg hc7, if_pos hc18]) (⟨hn1, fa2, ⟨rf6, fa3, fa4⟩, fa5⟩) hP hS (ho.2 hc7 hc18)
        · refine lv_iload_n hx hb d_Mem_indexOf_23 rfl (lv_at hl 2 rfl) ?_
          have hf19 : (f_Mem_indexOf u k) = i := by rw [he, f_Mem_indexOf_L2, if_neg hc7, if_neg hc18]
          exact W.iret (v := i) hx hb hr (fun tE ht _ => ⟨⟨_, w0, rfl, ⟨hf19, rfl⟩, cd_Pt ht hP⟩, hS.F ht⟩) hS.2.2 d_Mem_indexOf_24
  have hS : va_S A s.heap s.heap [] := va_S.rf
  have hl := lv_entry ([.ref (ad q), .int k]) (n := 3) (Nat.le_of_ble_eq_true rfl)
  rw [lg_entry_eq]
  generalize (lg_sl ([.ref (ad q), .int k]) ++ List.replicate (3 - (lg_sl ([.ref (ad q), .int k])).length) Slot.unset).toArray = ls at hl ⊢
  have hl : lv_has ls 3 [(0, .ref (ad q)), (1, .int k)] := hl
  have ho : (o_Mem_indexOf_L2 u k 7 (0 : Int32)) := ho
  obtain ⟨hn20, fa21, ⟨rf25, fa22, fa23⟩, fa24⟩ := hR0
  refine lv_iconst (v := (0 : Int32)) hx hb d_Mem_indexOf_0 (by decide) ?_
  refine lv_istore_n (lv' := [(2, .int (0 : Int32)), (0, .ref (ad q)), (1, .int k)]) hx hb d_Mem_indexOf_1 rfl hl (by decide) rfl (fun ls hl => ?_)
  exact L2 7 (0 : Int32) s.heap [] ls (lv_sub hl [1, 2, 0] rfl) (show (f_Mem_indexOf u k) = f_Mem_indexOf_L2 u k 7 (0 : Int32) by rw [f_Mem_indexOf]) (⟨hn20, fa21, ⟨rf25, fa22, fa23⟩, fa24⟩) hP hS (ho)
def f_Mem_holds_L2 (u : cd_Mem) (k : Int32) (x : Int32) : Nat → Int32 → Int32
  | 0, _ => default
  | gn + 1, i => (if x ≤ i then (1 : Int32) else (if (f_Mem_indexOf u (k + i)) = (-1 : Int32) then (0 : Int32) else (f_Mem_holds_L2 u k x gn (i + (1 : Int32)))))
def f_Mem_holds (u : cd_Mem) (k : Int32) (x : Int32) : Int32 := (f_Mem_holds_L2 u k x 9 (0 : Int32))
def o_Mem_holds_L2 (u : cd_Mem) (k : Int32) (x : Int32) : Nat → Int32 → Prop
  | 0, _ => False
  | gn + 1, i => (¬ x ≤ i → o_Mem_indexOf u (k + i)) ∧ (¬ x ≤ i → ¬ (f_Mem_indexOf u (k + i)) = (-1 : Int32) → o_Mem_holds_L2 u k x gn (i + (1 : Int32)))
def o_Mem_holds (u : cd_Mem) (k : Int32) (x : Int32) : Prop := (o_Mem_holds_L2 u k x 9 (0 : Int32))
set_option maxHeartbeats 4000000 in
set_option maxRecDepth 100000 in
theorem c_Mem_holds (l : Launch) (D : va_G) (tt : Nat → ClassId) (ad : Nat → Nat) (N : Nat) (A : Nat → Prop) (zs : Nat → Nat) (w0 : Nat → va_E) (q : Nat) (u : cd_Mem) (k : Int32) (x : Int32) (hR0 : cd_MemAt N tt ad w0 q u) (ho : o_Mem_holds u k x) : Met l y_Mem_holds w_Mem_holds ({ frames := 2, cells := 0, slots := 0, locals := 43 }) (va_Pc [.ref (ad q), .int k, .int x] (cd_U D tt ad N A zs w0)) (va_Qi (fun r w' => (f_Mem_holds u k x) = r ∧ (r = 0 ∨ r = 1) ∧ w0 = w') (fun w' t => cd_P D ad N A w' t.heap) A) 0 0 A := by
  refine Met.ofW (cc := b_Mem_holds) (maxL := 4) (ret := (some .boolean)) (by decide) rfl ?_
  intro p e s m args below meth c s₁ B hml hv
  obtain ⟨rfl, hP, hK, hZ⟩ := hv
  have hx := B.exec
  have hb := B.bytes
  have hr := B.returns
  have hA : ∀ w ∈ cd_AW, w.before _ s = true := fun w h => atoms_spec (ws := w_Mem_holds) B.pre w (List.mem_cons_of_mem _ h)
  have hown : s.vm.findClass R_Mem = some m.cls := findClass_of_methodNamed B.named
  have hlocks := B.notSynchronized
  have L2 : ∀ (gn : Nat) (i : Int32) (H : Heap) (locs : List Loc) (ls : Array Slot), lv_has ls 4 [(0, .ref (ad q)), (1, .int k), (2, .int x), (3, .int i)] → (f_Mem_holds u k x) = f_Mem_holds_L2 u k x gn i → cd_MemAt N tt ad w0 q u → cd_P D ad N A w0 H → va_S A s.heap H locs → o_Mem_holds_L2 u k x gn i → W p l e (headSpec w_Mem_holds ({ frames := 2, cells := 0, slots := 0, locals := 43 })).room s m [.ref (ad q), .int k, .int x].toArray below meth c H locs 0 0 (MQ below (va_Qi (fun r w' => (f_Mem_holds u k x) = r ∧ (r = 0 ∨ r = 1) ∧ w0 = w') (fun w' t => cd_P D ad N A w' t.heap) A) [.ref (ad q), .int k, .int x].toArray s 0 0 A) (F0 m 2 ls []) := by
    intro gn
    induction gn with
    | zero => intro i H locs ls hl he hL0 hP hS ho; exact ho.elim
    | succ gn ih =>
      intro i H locs ls hl he hL0 hP hS ho
      have ho : (¬ x ≤ i → o_Mem_indexOf u (k + i)) ∧ (¬ x ≤ i → ¬ (f_Mem_indexOf u (k + i)) = (-1 : Int32) → o_Mem_holds_L2 u k x gn (i + (1 : Int32))) := ho
      obtain ⟨hn1, fa2, ⟨rf6, fa3, fa4⟩, fa5⟩ := hL0
      refine lv_iload_n hx hb d_Mem_holds_2 rfl (lv_at hl 3 rfl) ?_
      refine lv_iload_n hx hb d_Mem_holds_3 rfl (lv_at hl 2 rfl) ?_
      refine lv_icmp_ge (tgt := 26) hx hb d_Mem_holds_4 (by decide) (fun hc7 => ?_) (fun hc7 => ?_)
      · refine lv_iconst (v := (1 : Int32)) hx hb d_Mem_holds_26 (by decide) ?_
        have hf8 : (f_Mem_holds u k x) = (1 : Int32) := by rw [he, f_Mem_holds_L2, if_pos hc7]
        exact W.zret (ty := .boolean) (v := (1 : Int32)) hx hb hr rfl (fun tE ht _ => ⟨⟨_, w0, rfl, ⟨hf8, (Or.inr rfl), rfl⟩, cd_Pt ht hP⟩, hS.F ht⟩) hS.2.2 d_Mem_holds_27
      · refine lv_aload_n hx hb d_Mem_holds_7 rfl (lv_at hl 0 rfl) ?_
        refine lv_iload_n hx hb d_Mem_holds_8 rfl (lv_at hl 1 rfl) ?_
        refine lv_iload_n hx hb d_Mem_holds_9 rfl (lv_at hl 3 rfl) ?_
        refine lv_iadd hx hb d_Mem_holds_10 ?_
        refine va_calli (va_runV (As := [.int (k + i)]) (rest := []) ⟨hx, hb, hml, hown, hA⟩ (c_Mem_indexOf l D tt ad N A zs w0 q u (k + i) (⟨hn1, fa2, ⟨rf6, fa3, fa4⟩, fa5⟩) (ho.1 hc7)) (cwV 1 hA (cd_gV aw_148 aw_149 aw_756 aw_2 aw_150) rfl rfl rfl ⟨rfl, by decide, by decide, by decide +kernel⟩ ⟨Nat.le_of_ble_eq_true rfl, Nat.le_of_ble_eq_true rfl⟩) ⟨cd_blind, cd_recv hK hP (k := q) (by omega) fa2 rfl, fun U hU hW => ⟨rfl, cd_pre hK hP hZ hS U hU hW⟩⟩ rfl rfl hl.1 rfl (lv_room (Nat.le_of_ble_eq_true rfl)) d_Mem_holds_11 ⟨Nat.zero_le _, Nat.zero_le _⟩) hS (fun _ _ h => h) (fun _ h => h) (fun r9 w1 tE H locs ht hvm hr10 hP hz1 hk1 hS => ?_)
        have hP := cd_Pf ht hP
        obtain ⟨rfl, rfl⟩ := hr10
        refine lv_iconst (v := (-1 : Int32)) hx hb d_Mem_holds_14 (by decide) ?_
        refine lv_icmp_ne (tgt := 20) hx hb d_Mem_holds_15 (by decide) (fun hc12 => ?_) (fun hc12 => ?_)
        · refine lv_iinc (k := 3) (v := (i + (1 : Int32))) (lv' := [(3, .int (i + (1 : Int32))), (0, .ref (ad q)), (1, .int k), (2, .int x)]) hx hb d_Mem_holds_20 hl rfl (cd_inc _ _ _ (by decide)) (by decide) rfl (fun ls hl => ?_)
          refine lv_goto (tgt := 2) hx hb d_Mem_holds_23 (by decide) ?_
          exact ih (i + (1 : Int32)) H locs ls (lv_sub hl [1, 2, 3, 0] rfl) (show (f_Mem_holds u k x) = f_Mem_holds_L2 u k x gn (i + (1 : Int32)) by rw [he, f_Mem_holds_L2, if_neg hc7, if_neg hc12]) (⟨hn1, fa2, ⟨rf6, fa3, fa4⟩, fa5⟩) hP hS (ho.2 hc7 hc12)
        · refine lv_iconst (v := (0 : Int32)) hx hb d_Mem_holds_18 (by decide) ?_
          have hf13 : (f_Mem_holds u k x) = (0 : Int32) := by rw [he, f_Mem_holds_L2, if_neg hc7, if_pos hc12]
          exact W.zret (ty := .boolean) (v := (0 : Int32)) hx hb hr rfl (fun tE ht _ => ⟨⟨_, w0, rfl, ⟨hf13, (Or.inl rfl), rfl⟩, cd_Pt ht hP⟩, hS.F ht⟩) hS.2.2 d_Mem_holds_19
  have hS : va_S A s.heap s.heap [] := va_S.rf
  have hl := lv_entry ([.ref (ad q), .int k, .int x]) (n := 4) (Nat.le_of_ble_eq_true rfl)
  rw [lg_entry_eq]
  generalize (lg_sl ([.ref (ad q), .int k, .int x]) ++ List.replicate (4 - (lg_sl ([.ref (ad q), .int k, .int x])).length) Slot.unset).toArray = ls at hl ⊢
  have hl : lv_has ls 4 [(0, .ref (ad q)), (1, .int k), (2, .int x)] := hl
  have ho : (o_Mem_holds_L2 u k x 9 (0 : Int32)) := ho
  obtain ⟨hn14, fa15, ⟨rf19, fa16, fa17⟩, fa18⟩ := hR0
  refine lv_iconst (v := (0 : Int32)) hx hb d_Mem_holds_0 (by decide) ?_
  refine lv_istore_n (lv' := [(3, .int (0 : Int32)), (0, .ref (ad q)), (1, .int k), (2, .int x)]) hx hb d_Mem_holds_1 rfl hl (by decide) rfl (fun ls hl => ?_)
  exact L2 9 (0 : Int32) s.heap [] ls (lv_sub hl [1, 2, 3, 0] rfl) (show (f_Mem_holds u k x) = f_Mem_holds_L2 u k x 9 (0 : Int32) by rw [f_Mem_holds]) (⟨hn14, fa15, ⟨rf19, fa16, fa17⟩, fa18⟩) hP hS (ho)
def f_Mem_readByte (u : cd_Mem) (k : Int32) : Int32 := (if (f_Mem_indexOf u k) = (-1 : Int32) then (-1 : Int32) else (f_Reg_read (u.2.2 (u.2.1 (f_Mem_indexOf u k).toNatClampNeg)) (k - (u.2.2 (u.2.1 (f_Mem_indexOf u k).toNatClampNeg)).1)))
def o_Mem_readByte (u : cd_Mem) (k : Int32) : Prop := (o_Mem_indexOf u k) ∧ (¬ (f_Mem_indexOf u k) = (-1 : Int32) → vp_in (f_Mem_indexOf u k) 6) ∧ (¬ (f_Mem_indexOf u k) = (-1 : Int32) → vp_in (f_Mem_indexOf u k) 6) ∧ (¬ (f_Mem_indexOf u k) = (-1 : Int32) → o_Reg_read (u.2.2 (u.2.1 (f_Mem_indexOf u k).toNatClampNeg)) (k - (u.2.2 (u.2.1 (f_Mem_indexOf u k).toNatClampNeg)).1))
set_option maxHeartbeats 4000000 in
set_option maxRecDepth 100000 in
theorem c_Mem_readByte (l : Launch) (D : va_G) (tt : Nat → ClassId) (ad : Nat → Nat) (N : Nat) (A : Nat → Prop) (zs : Nat → Nat) (w0 : Nat → va_E) (q : Nat) (u : cd_Mem) (k : Int32) (hR0 : cd_MemAt N tt ad w0 q u) (ho : o_Mem_readByte u k) : Met l y_Mem_readByte w_Mem_readByte ({ frames := 2, cells := 0, slots := 0, locals := 43 }) (va_Pc [.ref (ad q), .int k] (cd_U D tt ad N A zs w0)) (va_Qi (fun r w' => (f_Mem_readByte u k) = r ∧ w0 = w') (fun w' t => cd_P D ad N A w' t.heap) A) 0 0 A := by
  refine Met.ofW (cc := b_Mem_readByte) (maxL := 3) (ret := (some .int)) (by decide) rfl ?_
  intro p e s m args below meth c s₁ B hml hv
  obtain ⟨rfl, hP, hK, hZ⟩ := hv
  have hx := B.exec
  have hb := B.bytes
  have hr := B.returns
  have hA : ∀ w ∈ cd_AW, w.before _ s = true := fun w h => atoms_spec (ws := w_Mem_readByte) B.pre w (List.mem_cons_of_mem _ h)
  have hown : s.vm.findClass R_Mem = some m.cls := findClass_of_methodNamed B.named
  have hlocks := B.notSynchronized
  have hS : va_S A s.heap s.heap [] := va_S.rf
  have hl := lv_entry ([.ref (ad q), .int k]) (n := 3) (Nat.le_of_ble_eq_true rfl)
  rw [lg_entry_eq]
  generalize (lg_sl ([.ref (ad q), .int k]) ++ List.replicate (3 - (lg_sl ([.ref (ad q), .int k])).length) Slot.unset).toArray = ls at hl ⊢
  have hl : lv_has ls 3 [(0, .ref (ad q)), (1, .int k)] := hl
  have ho : (o_Mem_indexOf u k) ∧ (¬ (f_Mem_indexOf u k) = (-1 : Int32) → vp_in (f_Mem_indexOf u k) 6) ∧ (¬ (f_Mem_indexOf u k) = (-1 : Int32) → vp_in (f_Mem_indexOf u k) 6) ∧ (¬ (f_Mem_indexOf u k) = (-1 : Int32) → o_Reg_read (u.2.2 (u.2.1 (f_Mem_indexOf u k).toNatClampNeg)) (k - (u.2.2 (u.2.1 (f_Mem_indexOf u k).toNatClampNeg)).1)) := ho
  obtain ⟨hn1, fa2, ⟨rf6, fa3, fa4⟩, fa5⟩ := hR0
  refine lv_aload_n hx hb d_Mem_readByte_0 rfl (lv_at hl 0 rfl) ?_
  refine lv_iload_n hx hb d_Mem_readByte_1 rfl (lv_at hl 1 rfl) ?_
  refine va_calli (va_runV (As := [.int k]) (rest := []) ⟨hx, hb, hml, hown, hA⟩ (c_Mem_indexOf l D tt ad N A zs w0 q u k (⟨hn1, fa2, ⟨rf6, fa3, fa4⟩, fa5⟩) (ho.1)) (cwV 1 hA (cd_gV aw_148 aw_149 aw_756 aw_2 aw_150) rfl rfl rfl ⟨rfl, by decide, by decide, by decide +kernel⟩ ⟨Nat.le_of_ble_eq_true rfl, Nat.le_of_ble_eq_true rfl⟩) ⟨cd_blind, cd_recv hK hP (k := q) (by omega) fa2 rfl, fun U hU hW => ⟨rfl, cd_pre hK hP hZ hS U hU hW⟩⟩ rfl rfl hl.1 rfl (lv_room (Nat.le_of_ble_eq_true rfl)) d_Mem_readByte_2 ⟨Nat.zero_le _, Nat.zero_le _⟩) hS (fun _ _ h => h) (fun _ h => h) (fun r7 w1 tE H locs ht hvm hr8 hP hz1 hk1 hS => ?_)
  have hP := cd_Pf ht hP
  obtain ⟨rfl, rfl⟩ := hr8
  refine lv_istore_n (lv' := [(2, .int (f_Mem_indexOf u k)), (0, .ref (ad q)), (1, .int k)]) hx hb d_Mem_readByte_5 rfl hl (by decide) rfl (fun ls hl => ?_)
  refine lv_iload_n hx hb d_Mem_readByte_6 rfl (lv_at hl 0 rfl) ?_
  refine lv_iconst (v := (-1 : Int32)) hx hb d_Mem_readByte_7 (by decide) ?_
  refine lv_icmp_ne (tgt := 15) hx hb d_Mem_readByte_8 (by decide) (fun hc10 => ?_) (fun hc10 => ?_)
  · refine lv_aload_n hx hb d_Mem_readByte_15 rfl (lv_at hl 1 rfl) ?_
    refine g_get (ci := 3) (C := R_Mem) (T := F_Mem) (Nf := 2) (v := .ref (ad (q + 1))) hx hb hA in_Mem hown hK hP (k := q) (by omega) fa2 rfl 0 (by decide) (hA _ aw_45) (fun _ h9 => h9) rfl d_Mem_readByte_16 ?_
    refine lv_iload_n hx hb d_Mem_readByte_19 rfl (lv_at hl 0 rfl) ?_
    have hi11 := cd_in6 (ho.2.1 hc10)
    refine g_aald hx hb hK hP (k := (q + 1)) (by omega) fa3 rfl (ho.2.1 hc10) (fa4 _ hi11).2 d_Mem_readByte_20 ?_
    have hi12 := (fa4 _ hi11).1
    refine lv_iload_n hx hb d_Mem_readByte_21 rfl (lv_at hl 2 rfl) ?_
    refine lv_aload_n hx hb d_Mem_readByte_22 rfl (lv_at hl 1 rfl) ?_
    refine g_get (ci := 3) (C := R_Mem) (T := F_Mem) (Nf := 2) (v := .ref (ad (q + 1))) hx hb hA in_Mem hown hK hP (k := q) (by omega) fa2 rfl 0 (by decide) (hA _ aw_45) (fun _ h9 => h9) rfl d_Mem_readByte_23 ?_
    refine lv_iload_n hx hb d_Mem_readByte_26 rfl (lv_at hl 0 rfl) ?_
    have hi13 := cd_in6 (ho.2.2.1 hc10)
    refine g_aald hx hb hK hP (k := (q + 1)) (by omega) fa3 rfl (ho.2.2.1 hc10) (fa4 _ hi13).2 d_Mem_readByte_27 ?_
    have hi14 := (fa4 _ hi13).1
    obtain ⟨hn15, fa16, fa17⟩ := (fa5 (u.2.1 (f_Mem_indexOf u k).toNatClampNeg) hi12)
    refine g_getN (ci := 1) (C := R_Reg) (T := F_Reg) (Nf := 4) (v := .int ((u.2.2 (u.2.1 (f_Mem_indexOf u k).toNatClampNeg)).1)) hx hb hA in_Reg hown hK hP (k := ((q + 2) + 2 * (u.2.1 (f_Mem_indexOf u k).toNatClampNeg))) (by omega) fa16 rfl 1 (by decide) (va_Nw.use rfl (nw_2 hZ.2.2.2.2.2.2)) (fun _ h9 => h9) rfl d_Mem_readByte_28 ?_
    refine lv_isub hx hb d_Mem_readByte_31 ?_
    refine va_calli (va_runV (As := [.int (k - (u.2.2 (u.2.1 (f_Mem_indexOf u k).toNatClampNeg)).1)]) (rest := []) ⟨hx, hb, hml, hown, hA⟩ (c_Reg_read l D tt ad N A zs w0 ((q + 2) + 2 * (u.2.1 (f_Mem_indexOf u k).toNatClampNeg)) (u.2.2 (u.2.1 (f_Mem_indexOf u k).toNatClampNeg)) (k - (u.2.2 (u.2.1 (f_Mem_indexOf u k).toNatClampNeg)).1) (⟨hn15, fa16, fa17⟩) (ho.2.2.2 hc10)) (cwV 1 hA (cd_gV aw_345 aw_259 aw_260 aw_3 aw_261) rfl rfl rfl ⟨rfl, by decide, by decide, by decide +kernel⟩ ⟨Nat.le_of_ble_eq_true rfl, Nat.le_of_ble_eq_true rfl⟩) ⟨cd_blind, cd_recv hK hP (k := ((q + 2) + 2 * (u.2.1 (f_Mem_indexOf u k).toNatClampNeg))) (by omega) fa16 rfl, fun U hU hW => ⟨rfl, cd_pre hK hP hZ hS U hU hW⟩⟩ rfl rfl hl.1 rfl (lv_room (Nat.le_of_ble_eq_true rfl)) d_Mem_readByte_32 ⟨Nat.zero_le _, Nat.zero_le _⟩) hS (fun _ _ h => h) (fun _ h => h) (fun r18 w2 tE H locs ht hvm hr19 hP hz1 hk1 hS => ?_)
    have hP := cd_Pf ht hP
    obtain ⟨rfl, rfl⟩ := hr19
    have hf21 : (f_Mem_readByte u k) = (f_Reg_read (u.2.2 (u.2.1 (f_Mem_indexOf u k).toNatClampNeg)) (k - (u.2.2 (u.2.1 (f_Mem_indexOf u k).toNatClampNeg)).1)) := by rw [f_Mem_readByte, if_neg hc10]
    exact W.iret (v := (f_Reg_read (u.2.2 (u.2.1 (f_Mem_indexOf u k).toNatClampNeg)) (k - (u.2.2 (u.2.1 (f_Mem_indexOf u k).toNatClampNeg)).1))) hx hb hr (fun tE ht _ => ⟨⟨_, w0, rfl, ⟨hf21, rfl⟩, cd_Pt ht hP⟩, hS.F ht⟩) hS.2.2 d_Mem_readByte_35
  · refine lv_iconst (v := (-1 : Int32)) hx hb d_Mem_readByte_11 (by decide) ?_
    refine lv_goto (tgt := 35) hx hb d_Mem_readByte_12 (by decide) ?_
    have hf22 : (f_Mem_readByte u k) = (-1 : Int32) := by rw [f_Mem_readByte, if_pos hc10]
    exact W.iret (v := (-1 : Int32)) hx hb hr (fun tE ht _ => ⟨⟨_, w0, rfl, ⟨hf22, rfl⟩, cd_Pt ht hP⟩, hS.F ht⟩) hS.2.2 d_Mem_readByte_35
def f_Mem_readNumber_L4 (u : cd_Mem) (k : Int32) : Nat → Int32 → Int32 → Int32
  | 0, _, _ => default
  | gn + 1, v, i => (if i < 0 then v else (f_Mem_readNumber_L4 u k gn ((v <<< ((8 : Int32) &&& 31)) ||| (f_Mem_readByte u (k + i))) (i + (-1 : Int32))))
def f_Mem_readNumber (u : cd_Mem) (k : Int32) : Int32 := (f_Mem_readNumber_L4 u k 5 (0 : Int32) (3 : Int32))
def o_Mem_readNumber_L4 (u : cd_Mem) (k : Int32) : Nat → Int32 → Int32 → Prop
  | 0, _, _ => False
  | gn + 1, v, i => (¬ i < 0 → o_Mem_readByte u (k + i)) ∧ (¬ i < 0 → o_Mem_readNumber_L4 u k gn ((v <<< ((8 : Int32) &&& 31)) ||| (f_Mem_readByte u (k + i))) (i + (-1 : Int32)))
def o_Mem_readNumber (u : cd_Mem) (k : Int32) : Prop := (o_Mem_readNumber_L4 u k 5 (0 : Int32) (3 : Int32))
set_option maxHeartbeats 4000000 in
set_option maxRecDepth 100000 in
theorem c_Mem_readNumber (l : Launch) (D : va_G) (tt : Nat → ClassId) (ad : Nat → Nat) (N : Nat) (A : Nat → Prop) (zs : Nat → Nat) (w0 : Nat → va_E) (q : Nat) (u : cd_Mem) (k : Int32) (hR0 : cd_MemAt N tt ad w0 q u) (ho : o_Mem_readNumber u k) : Met l y_Mem_readNumber w_Mem_readNumber ({ frames := 3, cells := 0, slots := 0, locals := 65 }) (va_Pc [.ref (ad q), .int k] (cd_U D tt ad N A zs w0)) (va_Qi (fun r w' => (f_Mem_readNumber u k) = r ∧ w0 = w') (fun w' t => cd_P D ad N A w' t.heap) A) 0 0 A := by
  refine Met.ofW (cc := b_Mem_readNumber) (maxL := 4) (ret := (some .int)) (by decide) rfl ?_
  intro p e s m args below meth c s₁ B hml hv
  obtain ⟨rfl, hP, hK, hZ⟩ := hv
  have hx := B.exec
  have hb := B.bytes
  have hr := B.returns
  have hA : ∀ w ∈ cd_AW, w.before _ s = true := fun w h => atoms_spec (ws := w_Mem_readNumber) B.pre w (List.mem_cons_of_mem _ h)
  have hown : s.vm.findClass R_Mem = some m.cls := findClass_of_methodNamed B.named
  have hlocks := B.notSynchronized
  have L4 : ∀ (gn : Nat) (v : Int32) (i : Int32) (H : Heap) (locs : List Loc) (ls : Array Slot), lv_has ls 4 [(0, .ref (ad q)), (1, .int k), (2, .int v), (3, .int i)] → (f_Mem_readNumber u k) = f_Mem_readNumber_L4 u k gn v i → cd_MemAt N tt ad w0 q u → cd_P D ad N A w0 H → va_S A s.heap H locs → o_Mem_readNumber_L4 u k gn v i → W p l e (headSpec w_Mem_readNumber ({ frames := 3, cells := 0, slots := 0, locals := 65 })).room s m [.ref (ad q), .int k].toArray below meth c H locs 0 0 (MQ below (va_Qi (fun r w' => (f_Mem_readNumber u k) = r ∧ w0 = w') (fun w' t => cd_P D ad N A w' t.heap) A) [.ref (ad q), .int k].toArray s 0 0 A) (F0 m 4 ls []) := by
    intro gn
    induction gn with
    | zero => intro v i H locs ls hl he hL0 hP hS ho; exact ho.elim
    | succ gn ih =>
      intro v i H locs ls hl he hL0 hP hS ho
      have ho : (¬ i < 0 → o_Mem_readByte u (k + i)) ∧ (¬ i < 0 → o_Mem_readNumber_L4 u k gn ((v <<< ((8 : Int32) &&& 31)) ||| (f_Mem_readByte u (k + i))) (i + (-1 : Int32))) := ho
      obtain ⟨hn1, fa2, ⟨rf6, fa3, fa4⟩, fa5⟩ := hL0
      refine lv_iload_n hx hb d_Mem_readNumber_4 rfl (lv_at hl 3 rfl) ?_
      refine lv_if_lt (tgt := 27) hx hb d_Mem_readNumber_5 (by decide) (fun hc7 => ?_) (fun hc7 => ?_)
      · refine lv_iload_n hx hb d_Mem_readNumber_27 rfl (lv_at hl 2 rfl) ?_
        have hf8 : (f_Mem_readNumber u k) = v := by rw [he, f_Mem_readNumber_L4, if_pos hc7]
        exact W.iret (v := v) hx hb hr (fun tE ht _ => ⟨⟨_, w0, rfl, ⟨hf8, rfl⟩, cd_Pt ht hP⟩, hS.F ht⟩) hS.2.2 d_Mem_readNumber_28
      · refine lv_iload_n hx hb d_Mem_readNumber_8 rfl (lv_at hl 2 rfl) ?_
        refine lv_bipush (v := (8 : Int32)) hx hb d_Mem_readNumber_9 (by decide) ?_
        refine lv_ishl hx hb d_Mem_readNumber_11 ?_
        refine lv_aload_n hx hb d_Mem_readNumber_12 rfl (lv_at hl 0 rfl) ?_
        refine lv_iload_n hx hb d_Mem_readNumber_13 rfl (lv_at hl 1 rfl) ?_
        refine lv_iload_n hx hb d_Mem_readNumber_14 rfl (lv_at hl 3 rfl) ?_
        refine lv_iadd hx hb d_Mem_readNumber_15 ?_
        refine va_calli (va_runV (As := [.int (k + i)]) (rest := [.int (v <<< ((8 : Int32) &&& 31))]) ⟨hx, hb, hml, hown, hA⟩ (c_Mem_readByte l D tt ad N A zs w0 q u (k + i) (⟨hn1, fa2, ⟨rf6, fa3, fa4⟩, fa5⟩) (ho.1 hc7)) (cwV 1 hA (cd_gV aw_383 aw_342 aw_343 aw_2 aw_344) rfl rfl rfl ⟨rfl, by decide, by decide, by decide +kernel⟩ ⟨Nat.le_of_ble_eq_true rfl, Nat.le_of_ble_eq_true rfl⟩) ⟨cd_blind, cd_recv hK hP (k := q) (by omega) fa2 rfl, fun U hU hW => ⟨rfl, cd_pre hK hP hZ hS U hU hW⟩⟩ rfl rfl hl.1 rfl (lv_room (Nat.le_of_ble_eq_true rfl)) d_Mem_readNumber_16 ⟨Nat.zero_le _, Nat.zero_le _⟩) hS (fun _ _ h => h) (fun _ h => h) (fun r9 w1 tE H locs ht hvm hr10 hP hz1 hk1 hS => ?_)
        have hP := cd_Pf ht hP
        obtain ⟨rfl, rfl⟩ := hr10
        refine lv_ior hx hb d_Mem_readNumber_19 ?_
        refine lv_istore_n (lv' := [(2, .int ((v <<< ((8 : Int32) &&& 31)) ||| (f_Mem_readByte u (k + i)))), (0, .ref (ad q)), (1, .int k), (3, .int i)]) hx hb d_Mem_readNumber_20 rfl hl (by decide) rfl (fun ls hl => ?_)
        refine lv_iinc (k := 3) (v := (i + (-1 : Int32))) (lv' := [(3, .int (i + (-1 : Int32))), (2, .int ((v <<< ((8 : Int32) &&& 31)) ||| (f_Mem_readByte u (k + i)))), (0, .ref (ad q)), (1, .int k)]) hx hb d_Mem_readNumber_21 hl rfl (cd_inc _ _ _ (by decide)) (by decide) rfl (fun ls hl => ?_)
        refine lv_goto (tgt := 4) hx hb d_Mem_readNumber_24 (by decide) ?_
        exact ih ((v <<< ((8 : Int32) &&& 31)) ||| (f_Mem_readByte u (k + i))) (i + (-1 : Int32)) H locs ls (lv_sub hl [2, 3, 1, 0] rfl) (show (f_Mem_readNumber u k) = f_Mem_readNumber_L4 u k gn ((v <<< ((8 : Int32) &&& 31)) ||| (f_Mem_readByte u (k + i))) (i + (-1 : Int32)) by rw [he, f_Mem_readNumber_L4, if_neg hc7]) (⟨hn1, fa2, ⟨rf6, fa3, fa4⟩, fa5⟩) hP hS (ho.2 hc7)
  have hS : va_S A s.heap s.heap [] := va_S.rf
  have hl := lv_entry ([.ref (ad q), .int k]) (n := 4) (Nat.le_of_ble_eq_true rfl)
  rw [lg_entry_eq]
  generalize (lg_sl ([.ref (ad q), .int k]) ++ List.replicate (4 - (lg_sl ([.ref (ad q), .int k])).length) Slot.unset).toArray = ls at hl ⊢
  have hl : lv_has ls 4 [(0, .ref (ad q)), (1, .int k)] := hl
  have ho : (o_Mem_readNumber_L4 u k 5 (0 : Int32) (3 : Int32)) := ho
  obtain ⟨hn12, fa13, ⟨rf17, fa14, fa15⟩, fa16⟩ := hR0
  refine lv_iconst (v := (0 : Int32)) hx hb d_Mem_readNumber_0 (by decide) ?_
  refine lv_istore_n (lv' := [(2, .int (0 : Int32)), (0, .ref (ad q)), (1, .int k)]) hx hb d_Mem_readNumber_1 rfl hl (by decide) rfl (fun ls hl => ?_)
  refine lv_iconst (v := (3 : Int32)) hx hb d_Mem_readNumber_2 (by decide) ?_
  refine lv_istore_n (lv' := [(3, .int (3 : Int32)), (2, .int (0 : Int32)), (0, .ref (ad q)), (1, .int k)]) hx hb d_Mem_readNumber_3 rfl hl (by decide) rfl (fun ls hl => ?_)
  exact L4 5 (0 : Int32) (3 : Int32) s.heap [] ls (lv_sub hl [2, 3, 1, 0] rfl) (show (f_Mem_readNumber u k) = f_Mem_readNumber_L4 u k 5 (0 : Int32) (3 : Int32) by rw [f_Mem_readNumber]) (⟨hn12, fa13, ⟨rf17, fa14, fa15⟩, fa16⟩) hP hS (ho)
def f_Mem_flagsAt (u : cd_Mem) (k : Int32) : Int32 := (if (f_Mem_indexOf u k) = (-1 : Int32) then (-1 : Int32) else (u.2.2 (u.2.1 (f_Mem_indexOf u k).toNatClampNeg)).2.2.1)
def o_Mem_flagsAt (u : cd_Mem) (k : Int32) : Prop := (o_Mem_indexOf u k) ∧ (¬ (f_Mem_indexOf u k) = (-1 : Int32) → vp_in (f_Mem_indexOf u k) 6)
set_option maxHeartbeats 4000000 in
set_option maxRecDepth 100000 in
theorem c_Mem_flagsAt (l : Launch) (D : va_G) (tt : Nat → ClassId) (ad : Nat → Nat) (N : Nat) (A : Nat → Prop) (zs : Nat → Nat) (w0 : Nat → va_E) (q : Nat) (u : cd_Mem) (k : Int32) (hR0 : cd_MemAt N tt ad w0 q u) (ho : o_Mem_flagsAt u k) : Met l y_Mem_flagsAt w_Mem_flagsAt ({ frames := 2, cells := 0, slots := 0, locals := 43 }) (va_Pc [.ref (ad q), .int k] (cd_U D tt ad N A zs w0)) (va_Qi (fun r w' => (f_Mem_flagsAt u k) = r ∧ w0 = w') (fun w' t => cd_P D ad N A w' t.heap) A) 0 0 A := by
  refine Met.ofW (cc := b_Mem_flagsAt) (maxL := 3) (ret := (some .int)) (by decide) rfl ?_
  intro p e s m args below meth c s₁ B hml hv
  obtain ⟨rfl, hP, hK, hZ⟩ := hv
  have hx := B.exec
  have hb := B.bytes
  have hr := B.returns
  have hA : ∀ w ∈ cd_AW, w.before _ s = true := fun w h => atoms_spec (ws := w_Mem_flagsAt) B.pre w (List.mem_cons_of_mem _ h)
  have hown : s.vm.findClass R_Mem = some m.cls := findClass_of_methodNamed B.named
  have hlocks := B.notSynchronized
  have hS : va_S A s.heap s.heap [] := va_S.rf
  have hl := lv_entry ([.ref (ad q), .int k]) (n := 3) (Nat.le_of_ble_eq_true rfl)
  rw [lg_entry_eq]
  generalize (lg_sl ([.ref (ad q), .int k]) ++ List.replicate (3 - (lg_sl ([.ref (ad q), .int k])).length) Slot.unset).toArray = ls at hl ⊢
  have hl : lv_has ls 3 [(0, .ref (ad q)), (1, .int k)] := hl
  have ho : (o_Mem_indexOf u k) ∧ (¬ (f_Mem_indexOf u k) = (-1 : Int32) → vp_in (f_Mem_indexOf u k) 6) := ho
  obtain ⟨hn1, fa2, ⟨rf6, fa3, fa4⟩, fa5⟩ := hR0
  refine lv_aload_n hx hb d_Mem_flagsAt_0 rfl (lv_at hl 0 rfl) ?_
  refine lv_iload_n hx hb d_Mem_flagsAt_1 rfl (lv_at hl 1 rfl) ?_
  refine va_calli (va_runV (As := [.int k]) (rest := []) ⟨hx, hb, hml, hown, hA⟩ (c_Mem_indexOf l D tt ad N A zs w0 q u k (⟨hn1, fa2, ⟨rf6, fa3, fa4⟩, fa5⟩) (ho.1)) (cwV 1 hA (cd_gV aw_148 aw_149 aw_756 aw_2 aw_150) rfl rfl rfl ⟨rfl, by decide, by decide, by decide +kernel⟩ ⟨Nat.le_of_ble_eq_true rfl, Nat.le_of_ble_eq_true rfl⟩) ⟨cd_blind, cd_recv hK hP (k := q) (by omega) fa2 rfl, fun U hU hW => ⟨rfl, cd_pre hK hP hZ hS U hU hW⟩⟩ rfl rfl hl.1 rfl (lv_room (Nat.le_of_ble_eq_true rfl)) d_Mem_flagsAt_2 ⟨Nat.zero_le _, Nat.zero_le _⟩) hS (fun _ _ h => h) (fun _ h => h) (fun r7 w1 tE H locs ht hvm hr8 hP hz1 hk1 hS => ?_)
  have hP := cd_Pf ht hP
  obtain ⟨rfl, rfl⟩ := hr8
  refine lv_istore_n (lv' := [(2, .int (f_Mem_indexOf u k)), (0, .ref (ad q)), (1, .int k)]) hx hb d_Mem_flagsAt_5 rfl hl (by decide) rfl (fun ls hl => ?_)
  refine lv_iload_n hx hb d_Mem_flagsAt_6 rfl (lv_at hl 0 rfl) ?_
  refine lv_iconst (v := (-1 : Int32)) hx hb d_Mem_flagsAt_7 (by decide) ?_
  refine lv_icmp_ne (tgt := 15) hx hb d_Mem_flagsAt_8 (by decide) (fun hc10 => ?_) (fun hc10 => ?_)
  · refine lv_aload_n hx hb d_Mem_flagsAt_15 rfl (lv_at hl 1 rfl) ?_
    refine g_get (ci := 3) (C := R_Mem) (T := F_Mem) (Nf := 2) (v := .ref (ad (q + 1))) hx hb hA in_Mem hown hK hP (k := q) (by omega) fa2 rfl 0 (by decide) (hA _ aw_45) (fun _ h9 => h9) rfl d_Mem_flagsAt_16 ?_
    refine lv_iload_n hx hb d_Mem_flagsAt_19 rfl (lv_at hl 0 rfl) ?_
    have hi11 := cd_in6 (ho.2 hc10)
    refine g_aald hx hb hK hP (k := (q + 1)) (by omega) fa3 rfl (ho.2 hc10) (fa4 _ hi11).2 d_Mem_flagsAt_20 ?_
    have hi12 := (fa4 _ hi11).1
    obtain ⟨hn13, fa14, fa15⟩ := (fa5 (u.2.1 (f_Mem_indexOf u k).toNatClampNeg) hi12)
    refine g_getN (ci := 1) (C := R_Reg) (T := F_Reg) (Nf := 4) (v := .int ((u.2.2 (u.2.1 (f_Mem_indexOf u k).toNatClampNeg)).2.2.1)) hx hb hA in_Reg hown hK hP (k := ((q + 2) + 2 * (u.2.1 (f_Mem_indexOf u k).toNatClampNeg))) (by omega) fa14 rfl 3 (by decide) (va_Nw.use rfl (nw_7 hZ.2.2.2.2.2.2)) (fun _ h9 => h9) rfl d_Mem_flagsAt_21 ?_
    have hf16 : (f_Mem_flagsAt u k) = (u.2.2 (u.2.1 (f_Mem_indexOf u k).toNatClampNeg)).2.2.1 := by rw [f_Mem_flagsAt, if_neg hc10]
    exact W.iret (v := (u.2.2 (u.2.1 (f_Mem_indexOf u k).toNatClampNeg)).2.2.1) hx hb hr (fun tE ht _ => ⟨⟨_, w0, rfl, ⟨hf16, rfl⟩, cd_Pt ht hP⟩, hS.F ht⟩) hS.2.2 d_Mem_flagsAt_24
  · refine lv_iconst (v := (-1 : Int32)) hx hb d_Mem_flagsAt_11 (by decide) ?_
    refine lv_goto (tgt := 24) hx hb d_Mem_flagsAt_12 (by decide) ?_
    have hf17 : (f_Mem_flagsAt u k) = (-1 : Int32) := by rw [f_Mem_flagsAt, if_pos hc10]
    exact W.iret (v := (-1 : Int32)) hx hb hr (fun tE ht _ => ⟨⟨_, w0, rfl, ⟨hf17, rfl⟩, cd_Pt ht hP⟩, hS.F ht⟩) hS.2.2 d_Mem_flagsAt_24
def f_Mem_writeByte (u : cd_Mem) (k : Int32) (v : Int32) : Int32 × cd_Mem := (if (f_Mem_indexOf u k) = (-1 : Int32) then ((0 : Int32), u) else ((1 : Int32), (u.1, u.2.1, (va_up u.2.2 (u.2.1 (f_Mem_indexOf u k).toNatClampNeg) (f_Reg_write (u.2.2 (u.2.1 (f_Mem_indexOf u k).toNatClampNeg)) (k - (u.2.2 (u.2.1 (f_Mem_indexOf u k).toNatClampNeg)).1) v)))))
def o_Mem_writeByte (u : cd_Mem) (k : Int32) (v : Int32) : Prop := (o_Mem_indexOf u k) ∧ (¬ (f_Mem_indexOf u k) = (-1 : Int32) → vp_in (f_Mem_indexOf u k) 6) ∧ (¬ (f_Mem_indexOf u k) = (-1 : Int32) → vp_in (f_Mem_indexOf u k) 6) ∧ (¬ (f_Mem_indexOf u k) = (-1 : Int32) → o_Reg_write (u.2.2 (u.2.1 (f_Mem_indexOf u k).toNatClampNeg)) (k - (u.2.2 (u.2.1 (f_Mem_indexOf u k).toNatClampNeg)).1) v)
set_option maxHeartbeats 4000000 in
set_option maxRecDepth 100000 in
theorem c_Mem_writeByte (l : Launch) (D : va_G) (tt : Nat → ClassId) (ad : Nat → Nat) (N : Nat) (A : Nat → Prop) (zs : Nat → Nat) (w0 : Nat → va_E) (q : Nat) (u : cd_Mem) (k : Int32) (v : Int32) (hR0 : cd_MemAt N tt ad w0 q u) (ho : o_Mem_writeByte u k v) : Met l y_Mem_writeByte w_Mem_writeByte ({ frames := 2, cells := 0, slots := 0, locals := 43 }) (va_Pc [.ref (ad q), .int k, .int v] (cd_U D tt ad N A zs w0)) (va_Qi (fun r w' => (f_Mem_writeByte u k v).1 = r ∧ (r = 0 ∨ r = 1) ∧ cd_MemAt N tt ad w' q ((f_Mem_writeByte u k v).2) ∧ (∀ k : Nat, (k < q ∨ q + 14 ≤ k) → w' k = w0 k)) (fun w' t => cd_P D ad N A w' t.heap) A) 0 0 A := by
  refine Met.ofW (cc := b_Mem_writeByte) (maxL := 4) (ret := (some .boolean)) (by decide) rfl ?_
  intro p e s m args below meth c s₁ B hml hv
  obtain ⟨rfl, hP, hK, hZ⟩ := hv
  have hx := B.exec
  have hb := B.bytes
  have hr := B.returns
  have hA : ∀ w ∈ cd_AW, w.before _ s = true := fun w h => atoms_spec (ws := w_Mem_writeByte) B.pre w (List.mem_cons_of_mem _ h)
  have hown : s.vm.findClass R_Mem = some m.cls := findClass_of_methodNamed B.named
  have hlocks := B.notSynchronized
  have hS : va_S A s.heap s.heap [] := va_S.rf
  have hl := lv_entry ([.ref (ad q), .int k, .int v]) (n := 4) (Nat.le_of_ble_eq_true rfl)
  rw [lg_entry_eq]
  generalize (lg_sl ([.ref (ad q), .int k, .int v]) ++ List.replicate (4 - (lg_sl ([.ref (ad q), .int k, .int v])).length) Slot.unset).toArray = ls at hl ⊢
  have hl : lv_has ls 4 [(0, .ref (ad q)), (1, .int k), (2, .int v)] := hl
  have ho : (o_Mem_indexOf u k) ∧ (¬ (f_Mem_indexOf u k) = (-1 : Int32) → vp_in (f_Mem_indexOf u k) 6) ∧ (¬ (f_Mem_indexOf u k) = (-1 : Int32) → vp_in (f_Mem_indexOf u k) 6) ∧ (¬ (f_Mem_indexOf u k) = (-1 : Int32) → o_Reg_write (u.2.2 (u.2.1 (f_Mem_indexOf u k).toNatClampNeg)) (k - (u.2.2 (u.2.1 (f_Mem_indexOf u k).toNatClampNeg)).1) v) := ho
  obtain ⟨hn1, fa2, ⟨rf6, fa3, fa4⟩, fa5⟩ := hR0
  refine lv_aload_n hx hb d_Mem_writeByte_0 rfl (lv_at hl 0 rfl) ?_
  refine lv_iload_n hx hb d_Mem_writeByte_1 rfl (lv_at hl 1 rfl) ?_
  refine va_calli (va_runV (As := [.int k]) (rest := []) ⟨hx, hb, hml, hown, hA⟩ (c_Mem_indexOf l D tt ad N A zs w0 q u k (⟨hn1, fa2, ⟨rf6, fa3, fa4⟩, fa5⟩) (ho.1)) (cwV 1 hA (cd_gV aw_148 aw_149 aw_756 aw_2 aw_150) rfl rfl rfl ⟨rfl, by decide, by decide, by decide +kernel⟩ ⟨Nat.le_of_ble_eq_true rfl, Nat.le_of_ble_eq_true rfl⟩) ⟨cd_blind, cd_recv hK hP (k := q) (by omega) fa2 rfl, fun U hU hW => ⟨rfl, cd_pre hK hP hZ hS U hU hW⟩⟩ rfl rfl hl.1 rfl (lv_room (Nat.le_of_ble_eq_true rfl)) d_Mem_writeByte_2 ⟨Nat.zero_le _, Nat.zero_le _⟩) hS (fun _ _ h => h) (fun _ h => h) (fun r7 w1 tE H locs ht hvm hr8 hP hz1 hk1 hS => ?_)
  have hP := cd_Pf ht hP
  obtain ⟨rfl, rfl⟩ := hr8
  refine lv_istore_n (lv' := [(3, .int (f_Mem_indexOf u k)), (0, .ref (ad q)), (1, .int k), (2, .int v)]) hx hb d_Mem_writeByte_5 rfl hl (by decide) rfl (fun ls hl => ?_)
  refine lv_iload_n hx hb d_Mem_writeByte_6 rfl (lv_at hl 0 rfl) ?_
  refine lv_iconst (v := (-1 : Int32)) hx hb d_Mem_writeByte_7 (by decide) ?_
  refine lv_icmp_ne (tgt := 13) hx hb d_Mem_writeByte_8 (by decide) (fun hc10 => ?_) (fun hc10 => ?_)
  · refine lv_aload_n hx hb d_Mem_writeByte_13 rfl (lv_at hl 1 rfl) ?_
    refine g_get (ci := 3) (C := R_Mem) (T := F_Mem) (Nf := 2) (v := .ref (ad (q + 1))) hx hb hA in_Mem hown hK hP (k := q) (by omega) fa2 rfl 0 (by decide) (hA _ aw_45) (fun _ h9 => h9) rfl d_Mem_writeByte_14 ?_
    refine lv_iload_n hx hb d_Mem_writeByte_17 rfl (lv_at hl 0 rfl) ?_
    have hi11 := cd_in6 (ho.2.1 hc10)
    refine g_aald hx hb hK hP (k := (q + 1)) (by omega) fa3 rfl (ho.2.1 hc10) (fa4 _ hi11).2 d_Mem_writeByte_18 ?_
    have hi12 := (fa4 _ hi11).1
    refine lv_iload_n hx hb d_Mem_writeByte_19 rfl (lv_at hl 2 rfl) ?_
    refine lv_aload_n hx hb d_Mem_writeByte_20 rfl (lv_at hl 1 rfl) ?_
    refine g_get (ci := 3) (C := R_Mem) (T := F_Mem) (Nf := 2) (v := .ref (ad (q + 1))) hx hb hA in_Mem hown hK hP (k := q) (by omega) fa2 rfl 0 (by decide) (hA _ aw_45) (fun _ h9 => h9) rfl d_Mem_writeByte_21 ?_
    refine lv_iload_n hx hb d_Mem_writeByte_24 rfl (lv_at hl 0 rfl) ?_
    have hi13 := cd_in6 (ho.2.2.1 hc10)
    refine g_aald hx hb hK hP (k := (q + 1)) (by omega) fa3 rfl (ho.2.2.1 hc10) (fa4 _ hi13).2 d_Mem_writeByte_25 ?_
    have hi14 := (fa4 _ hi13).1
    obtain ⟨hn15, fa16, fa17⟩ := (fa5 (u.2.1 (f_Mem_indexOf u k).toNatClampNeg) hi12)
    refine g_getN (ci := 1) (C := R_Reg) (T := F_Reg) (Nf := 4) (v := .int ((u.2.2 (u.2.1 (f_Mem_indexOf u k).toNatClampNeg)).1)) hx hb hA in_Reg hown hK hP (k := ((q + 2) + 2 * (u.2.1 (f_Mem_indexOf u k).toNatClampNeg))) (by omega) fa16 rfl 1 (by decide) (va_Nw.use rfl (nw_2 hZ.2.2.2.2.2.2)) (fun _ h9 => h9) rfl d_Mem_writeByte_26 ?_
    refine lv_isub hx hb d_Mem_writeByte_29 ?_
    refine lv_iload_n hx hb d_Mem_writeByte_30 rfl (lv_at hl 3 rfl) ?_
    refine va_callv (va_runV (As := [.int (k - (u.2.2 (u.2.1 (f_Mem_indexOf u k).toNatClampNeg)).1), .int v]) (rest := []) ⟨hx, hb, hml, hown, hA⟩ (c_Reg_write l D tt ad N A zs w0 ((q + 2) + 2 * (u.2.1 (f_Mem_indexOf u k).toNatClampNeg)) (u.2.2 (u.2.1 (f_Mem_indexOf u k).toNatClampNeg)) (k - (u.2.2 (u.2.1 (f_Mem_indexOf u k).toNatClampNeg)).1) v (⟨hn15, fa16, fa17⟩) (ho.2.2.2 hc10)) (cwV 2 hA (cd_gV aw_163 aw_164 aw_165 aw_3 aw_166) rfl rfl rfl ⟨rfl, by decide, by decide, by decide +kernel⟩ ⟨Nat.le_of_ble_eq_true rfl, Nat.le_of_ble_eq_true rfl⟩) ⟨cd_blind, cd_recv hK hP (k := ((q + 2) + 2 * (u.2.1 (f_Mem_indexOf u k).toNatClampNeg))) (by omega) fa16 rfl, fun U hU hW => ⟨rfl, cd_pre hK hP hZ hS U hU hW⟩⟩ rfl rfl hl.1 rfl (lv_room (Nat.le_of_ble_eq_true rfl)) d_Mem_writeByte_31 ⟨Nat.zero_le _, Nat.zero_le _⟩) hS (fun _ _ h => h) (fun _ h => h) (fun w2 tE H locs ht hvm hr19 hP hz1 hk1 hS => ?_)
    have hP := cd_Pf ht hP
    obtain ⟨at21, e2⟩ := hr19
    have fa22 := (e2 q (by omega)).trans fa2
    have fa23 := (e2 (q + 1) (by omega)).trans fa3
    have fa24 := cd_pool_put (r := (f_Reg_write (u.2.2 (u.2.1 (f_Mem_indexOf u k).toNatClampNeg)) (k - (u.2.2 (u.2.1 (f_Mem_indexOf u k).toNatClampNeg)).1) v)) fa5 hi12 at21 (fun k h1 => e2 k (by omega))
    refine lv_iconst (v := (1 : Int32)) hx hb d_Mem_writeByte_34 (by decide) ?_
    have hf25 : (f_Mem_writeByte u k v) = ((1 : Int32), (u.1, u.2.1, (va_up u.2.2 (u.2.1 (f_Mem_indexOf u k).toNatClampNeg) (f_Reg_write (u.2.2 (u.2.1 (f_Mem_indexOf u k).toNatClampNeg)) (k - (u.2.2 (u.2.1 (f_Mem_indexOf u k).toNatClampNeg)).1) v)))) := by rw [f_Mem_writeByte, if_neg hc10]
    exact W.zret (ty := .boolean) (v := (1 : Int32)) hx hb hr rfl (fun tE ht _ => ⟨⟨_, w2, rfl, ⟨(by rw [hf25]), (Or.inr rfl), (by rw [hf25]; exact ⟨hn1, fa22, ⟨rf6, fa23, fa4⟩, fa24⟩), (fun k hk => (e2 k (by omega)))⟩, cd_Pt ht hP⟩, hS.F ht⟩) hS.2.2 d_Mem_writeByte_35
  · refine lv_iconst (v := (0 : Int32)) hx hb d_Mem_writeByte_11 (by decide) ?_
    have hf26 : (f_Mem_writeByte u k v) = ((0 : Int32), u) := by rw [f_Mem_writeByte, if_pos hc10]
    exact W.zret (ty := .boolean) (v := (0 : Int32)) hx hb hr rfl (fun tE ht _ => ⟨⟨_, w0, rfl, ⟨(by rw [hf26]), (Or.inl rfl), (by rw [hf26]; exact ⟨hn1, fa2, ⟨rf6, fa3, fa4⟩, fa5⟩), (fun _ _ => rfl)⟩, cd_Pt ht hP⟩, hS.F ht⟩) hS.2.2 d_Mem_writeByte_12
def f_Mem_writeNumber_L13 (u : cd_Mem) (k : Int32) (v : Int32) : Nat → Int32 → cd_Mem → Int32 × cd_Mem
  | 0, _, _ => default
  | gn + 1, i, u' => (if (4 : Int32) ≤ i then ((1 : Int32), u') else (f_Mem_writeNumber_L13 u k v gn (i + (1 : Int32)) ((f_Mem_writeByte u' (k + i) (v >>> (((8 : Int32) * i) &&& 31))).2)))
def f_Mem_writeNumber (u : cd_Mem) (k : Int32) (v : Int32) : Int32 × cd_Mem := (if (f_Mem_holds u k (4 : Int32)) = 0 then ((0 : Int32), u) else (f_Mem_writeNumber_L13 u k v 5 (0 : Int32) u))
def o_Mem_writeNumber_L13 (u : cd_Mem) (k : Int32) (v : Int32) : Nat → Int32 → cd_Mem → Prop
  | 0, _, _ => False
  | gn + 1, i, u' => (¬ (4 : Int32) ≤ i → o_Mem_writeByte u' (k + i) (v >>> (((8 : Int32) * i) &&& 31))) ∧ (¬ (4 : Int32) ≤ i → o_Mem_writeNumber_L13 u k v gn (i + (1 : Int32)) ((f_Mem_writeByte u' (k + i) (v >>> (((8 : Int32) * i) &&& 31))).2))
def o_Mem_writeNumber (u : cd_Mem) (k : Int32) (v : Int32) : Prop := (o_Mem_holds u k (4 : Int32)) ∧ (¬ (f_Mem_holds u k (4 : Int32)) = 0 → o_Mem_writeNumber_L13 u k v 5 (0 : Int32) u)
set_option maxHeartbeats 4000000 in
set_option maxRecDepth 100000 in
theorem c_Mem_writeNumber (l : Launch) (D : va_G) (tt : Nat → ClassId) (ad : Nat → Nat) (N : Nat) (A : Nat → Prop) (zs : Nat → Nat) (w0 : Nat → va_E) (q : Nat) (u : cd_Mem) (k : Int32) (v : Int32) (hR0 : cd_MemAt N tt ad w0 q u) (ho : o_Mem_writeNumber u k v) : Met l y_Mem_writeNumber w_Mem_writeNumber ({ frames := 3, cells := 0, slots := 0, locals := 66 }) (va_Pc [.ref (ad q), .int k, .int v] (cd_U D tt ad N A zs w0)) (va_Qi (fun r w' => (f_Mem_writeNumber u k v).1 = r ∧ (r = 0 ∨ r = 1) ∧ cd_MemAt N tt ad w' q ((f_Mem_writeNumber u k v).2) ∧ (∀ k : Nat, (k < q ∨ q + 14 ≤ k) → w' k = w0 k)) (fun w' t => cd_P D ad N A w' t.heap) A) 0 0 A := by
  refine Met.ofW (cc := b_Mem_writeNumber) (maxL := 4) (ret := (some .boolean)) (by decide) rfl ?_
  intro p e s m args below meth c s₁ B hml hv
  obtain ⟨rfl, hP, hK, hZ⟩ := hv
  have hx := B.exec
  have hb := B.bytes
  have hr := B.returns
  have hA : ∀ w ∈ cd_AW, w.before _ s = true := fun w h => atoms_spec (ws := w_Mem_writeNumber) B.pre w (List.mem_cons_of_mem _ h)
  have hown : s.vm.findClass R_Mem = some m.cls := findClass_of_methodNamed B.named
  have hlocks := B.notSynchronized
  have L13 : ∀ (gn : Nat) (i : Int32) (u' : cd_Mem) (w : Nat → va_E) (efr : ∀ k : Nat, (k < q ∨ q + 14 ≤ k) → w k = w0 k) (H : Heap) (locs : List Loc) (ls : Array Slot), lv_has ls 4 [(0, .ref (ad q)), (1, .int k), (2, .int v), (3, .int i)] → (f_Mem_writeNumber u k v) = f_Mem_writeNumber_L13 u k v gn i u' → cd_MemAt N tt ad w q u' → cd_P D ad N A w H → va_S A s.heap H locs → o_Mem_writeNumber_L13 u k v gn i u' → W p l e (headSpec w_Mem_writeNumber ({ frames := 3, cells := 0, slots := 0, locals := 66 })).room s m [.ref (ad q), .int k, .int v].toArray below meth c H locs 0 0 (MQ below (va_Qi (fun r w' => (f_Mem_writeNumber u k v).1 = r ∧ (r = 0 ∨ r = 1) ∧ cd_MemAt N tt ad w' q ((f_Mem_writeNumber u k v).2) ∧ (∀ k : Nat, (k < q ∨ q + 14 ≤ k) → w' k = w0 k)) (fun w' t => cd_P D ad N A w' t.heap) A) [.ref (ad q), .int k, .int v].toArray s 0 0 A) (F0 m 13 ls []) := by
    intro gn
    induction gn with
    | zero => intro i u' w efr H locs ls hl he hL0 hP hS ho; exact ho.elim
    | succ gn ih =>
      intro i u' w efr H locs ls hl he hL0 hP hS ho
      have ho : (¬ (4 : Int32) ≤ i → o_Mem_writeByte u' (k + i) (v >>> (((8 : Int32) * i) &&& 31))) ∧ (¬ (4 : Int32) ≤ i → o_Mem_writeNumber_L13 u k v gn (i + (1 : Int32)) ((f_Mem_writeByte u' (k + i) (v >>> (((8 : Int32) * i) &&& 31))).2)) := ho
      obtain ⟨hn1, fa2, ⟨rf6, fa3, fa4⟩, fa5⟩ := hL0
      refine lv_iload_n hx hb d_Mem_writeNumber_13 rfl (lv_at hl 3 rfl) ?_
      refine lv_iconst (v := (4 : Int32)) hx hb d_Mem_writeNumber_14 (by decide) ?_
      refine lv_icmp_ge (tgt := 38) hx hb d_Mem_writeNumber_15 (by decide) (fun hc7 => ?_) (fun hc7 => ?_)
      · refine lv_iconst (v := (1 : Int32)) hx hb d_Mem_writeNumber_38 (by decide) ?_
        have hf8 : (f_Mem_writeNumber u k v) = ((1 : Int32), u') := by rw [he, f_Mem_writeNumber_L13, if_pos hc7]
        exact W.zret (ty := .boolean) (v := (1 : Int32)) hx hb hr rfl (fun tE ht _ => ⟨⟨_, w, rfl, ⟨(by rw [hf8]), (Or.inr rfl), (by rw [hf8]; exact ⟨hn1, fa2, ⟨rf6, fa3, fa4⟩, fa5⟩), (fun k hk => (efr k (by omega)))⟩, cd_Pt ht hP⟩, hS.F ht⟩) hS.2.2 d_Mem_writeNumber_39
      · refine lv_aload_n hx hb d_Mem_writeNumber_18 rfl (lv_at hl 0 rfl) ?_
        refine lv_iload_n hx hb d_Mem_writeNumber_19 rfl (lv_at hl 1 rfl) ?_
        refine lv_iload_n hx hb d_Mem_writeNumber_20 rfl (lv_at hl 3 rfl) ?_
        refine lv_iadd hx hb d_Mem_writeNumber_21 ?_
        refine lv_iload_n hx hb d_Mem_writeNumber_22 rfl (lv_at hl 2 rfl) ?_
        refine lv_bipush (v := (8 : Int32)) hx hb d_Mem_writeNumber_23 (by decide) ?_
        refine lv_iload_n hx hb d_Mem_writeNumber_25 rfl (lv_at hl 3 rfl) ?_
        refine lv_imul hx hb d_Mem_writeNumber_26 ?_
        refine lv_ishr hx hb d_Mem_writeNumber_27 ?_
        refine va_calli (va_runV (As := [.int (k + i), .int (v >>> (((8 : Int32) * i) &&& 31))]) (rest := []) ⟨hx, hb, hml, hown, hA⟩ (c_Mem_writeByte l D tt ad N A zs w q u' (k + i) (v >>> (((8 : Int32) * i) &&& 31)) (⟨hn1, fa2, ⟨rf6, fa3, fa4⟩, fa5⟩) (ho.1 hc7)) (cwV 2 hA (cd_gV aw_179 aw_160 aw_161 aw_2 aw_162) rfl rfl rfl ⟨rfl, by decide, by decide, by decide +kernel⟩ ⟨Nat.le_of_ble_eq_true rfl, Nat.le_of_ble_eq_true rfl⟩) ⟨cd_blind, cd_recv hK hP (k := q) (by omega) fa2 rfl, fun U hU hW => ⟨rfl, cd_pre hK hP hZ hS U hU hW⟩⟩ rfl rfl hl.1 rfl (lv_room (Nat.le_of_ble_eq_true rfl)) d_Mem_writeNumber_28 ⟨Nat.zero_le _, Nat.zero_le _⟩) hS (fun _ _ h => h) (fun _ h => h) (fun r9 w1 tE H locs ht hvm hr10 hP hz1 hk1 hS => ?_)
        have hP := cd_Pf ht hP
        obtain ⟨rfl, hbo12, at13, e1⟩ := hr10
        obtain ⟨hn14, fa15, ⟨rf19, fa16, fa17⟩, fa18⟩ := at13
        refine lv_pop hx hb d_Mem_writeNumber_31 rfl ?_
        refine lv_iinc (k := 3) (v := (i + (1 : Int32))) (lv' := [(3, .int (i + (1 : Int32))), (0, .ref (ad q)), (1, .int k), (2, .int v)]) hx hb d_Mem_writeNumber_32 hl rfl (cd_inc _ _ _ (by decide)) (by decide) rfl (fun ls hl => ?_)
        refine lv_goto (tgt := 13) hx hb d_Mem_writeNumber_35 (by decide) ?_
        exact ih (i + (1 : Int32)) ((f_Mem_writeByte u' (k + i) (v >>> (((8 : Int32) * i) &&& 31))).2) w1 (fun k hk => ((e1 k (by omega)).trans (efr k (by omega)))) H locs ls (lv_sub hl [1, 2, 3, 0] rfl) (show (f_Mem_writeNumber u k v) = f_Mem_writeNumber_L13 u k v gn (i + (1 : Int32)) ((f_Mem_writeByte u' (k + i) (v >>> (((8 : Int32) * i) &&& 31))).2) by rw [he, f_Mem_writeNumber_L13, if_neg hc7]) (⟨hn14, fa15, ⟨rf19, fa16, fa17⟩, fa18⟩) hP hS (ho.2 hc7)
  have hS : va_S A s.heap s.heap [] := va_S.rf
  have hl := lv_entry ([.ref (ad q), .int k, .int v]) (n := 4) (Nat.le_of_ble_eq_true rfl)
  rw [lg_entry_eq]
  generalize (lg_sl ([.ref (ad q), .int k, .int v]) ++ List.replicate (4 - (lg_sl ([.ref (ad q), .int k, .int v])).length) Slot.unset).toArray = ls at hl ⊢
  have hl : lv_has ls 4 [(0, .ref (ad q)), (1, .int k), (2, .int v)] := hl
  have ho : (o_Mem_holds u k (4 : Int32)) ∧ (¬ (f_Mem_holds u k (4 : Int32)) = 0 → o_Mem_writeNumber_L13 u k v 5 (0 : Int32) u) := ho
  obtain ⟨hn20, fa21, ⟨rf25, fa22, fa23⟩, fa24⟩ := hR0
  refine lv_aload_n hx hb d_Mem_writeNumber_0 rfl (lv_at hl 0 rfl) ?_
  refine lv_iload_n hx hb d_Mem_writeNumber_1 rfl (lv_at hl 1 rfl) ?_
  refine lv_iconst (v := (4 : Int32)) hx hb d_Mem_writeNumber_2 (by decide) ?_
  refine va_calli (va_runV (As := [.int k, .int (4 : Int32)]) (rest := []) ⟨hx, hb, hml, hown, hA⟩ (c_Mem_holds l D tt ad N A zs w0 q u k (4 : Int32) (⟨hn20, fa21, ⟨rf25, fa22, fa23⟩, fa24⟩) (ho.1)) (cwV 2 hA (cd_gV aw_175 aw_176 aw_177 aw_2 aw_178) rfl rfl rfl ⟨rfl, by decide, by decide, by decide +kernel⟩ ⟨Nat.le_of_ble_eq_true rfl, Nat.le_of_ble_eq_true rfl⟩) ⟨cd_blind, cd_recv hK hP (k := q) (by omega) fa21 rfl, fun U hU hW => ⟨rfl, cd_pre hK hP hZ hS U hU hW⟩⟩ rfl rfl hl.1 rfl (lv_room (Nat.le_of_ble_eq_true rfl)) d_Mem_writeNumber_3 ⟨Nat.zero_le _, Nat.zero_le _⟩) hS (fun _ _ h => h) (fun _ h => h) (fun r26 w2 tE H locs ht hvm hr27 hP hz1 hk1 hS => ?_)
  have hP := cd_Pf ht hP
  obtain ⟨rfl, hbo29, rfl⟩ := hr27
  refine lv_if_ne (tgt := 11) hx hb d_Mem_writeNumber_6 (by decide) (fun hc30 => ?_) (fun hc30 => ?_)
  · refine lv_iconst (v := (0 : Int32)) hx hb d_Mem_writeNumber_11 (by decide) ?_
    refine lv_istore_n (lv' := [(3, .int (0 : Int32)), (0, .ref (ad q)), (1, .int k), (2, .int v)]) hx hb d_Mem_writeNumber_12 rfl hl (by decide) rfl (fun ls hl => ?_)
    exact L13 5 (0 : Int32) u w0 (fun _ _ => rfl) H locs ls (lv_sub hl [1, 2, 3, 0] rfl) (show (f_Mem_writeNumber u k v) = f_Mem_writeNumber_L13 u k v 5 (0 : Int32) u by rw [f_Mem_writeNumber, if_neg hc30]) (⟨hn20, fa21, ⟨rf25, fa22, fa23⟩, fa24⟩) hP hS (ho.2 hc30)
  · refine lv_iconst (v := (0 : Int32)) hx hb d_Mem_writeNumber_9 (by decide) ?_
    have hf31 : (f_Mem_writeNumber u k v) = ((0 : Int32), u) := by rw [f_Mem_writeNumber, if_pos hc30]
    exact W.zret (ty := .boolean) (v := (0 : Int32)) hx hb hr rfl (fun tE ht _ => ⟨⟨_, w0, rfl, ⟨(by rw [hf31]), (Or.inl rfl), (by rw [hf31]; exact ⟨hn20, fa21, ⟨rf25, fa22, fa23⟩, fa24⟩), (fun _ _ => rfl)⟩, cd_Pt ht hP⟩, hS.F ht⟩) hS.2.2 d_Mem_writeNumber_10
