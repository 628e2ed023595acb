-- the fixed bytes of a note
def nt_m (mp : Nat → Int32) (p k : Nat) : Prop := f_Mo_noteByte (nI k) = -1 ∨ f_Mo_noteByte (nI k) = mp (p + k) &&& 255
theorem nb_t1 : ∀ k, k < 20 → 4 ≤ k → k < 12 → f_Mo_noteByte (nI k) = -1 := by decide +kernel
theorem nb_t2 : ∀ i, i < 8 → f_Mo_noteByte (nI (12 + i)) = cd_nn i ∧ ¬ cd_nn i = -1 := by decide +kernel
theorem nb_t3 : f_Mo_noteByte (nI 0) = nI 5 ∧ f_Mo_noteByte (nI 1) = nI 0 ∧ f_Mo_noteByte (nI 2) = nI 0 ∧ f_Mo_noteByte (nI 3) = nI 0 := by decide +kernel
section
variable {up : cd_Row} {sz : Int32} {mp : Nat → Int32} {L : Nat}
theorem nb_five (h : rw_rel up 8192 sz mp L) {p : Nat} (hp : p + 4 ≤ L) : o_Row_number 8192 up (nI p) 4 ∧ (f_Row_number 8192 up (nI p) 4 = 5 ↔ ∀ k, k < 4 → nt_m mp p k) := by
  obtain ⟨p1, -, p2, p3⟩ := tp_4 h (0, 0, 0, 0, 0, 0) hp
  refine ⟨p1, ?_⟩
  obtain ⟨x0, h0, e0⟩ := pu_by (mp p)
  obtain ⟨x1, h1, e1⟩ := pu_by (mp (p + 1))
  obtain ⟨x2, h2, e2⟩ := pu_by (mp (p + 2))
  obtain ⟨x3, h3, e3⟩ := pu_by (mp (p + 3))
  obtain ⟨t0, t1, t2, t3⟩ := nb_t3
  rw [p3, p2, e0, e1, e2, e3, show (5 : Int32) = nI 5 from rfl, w4_eq h0 h1 h2 h3 (by omega)]
  constructor
  · intro q k hk
    have cs : k = 0 ∨ k = 1 ∨ k = 2 ∨ k = 3 := by omega
    rcases cs with rfl | rfl | rfl | rfl
    · refine Or.inr ?_
      rw [t0, show p + 0 = p from rfl, e0]
      congr 1
      omega
    · refine Or.inr ?_
      rw [t1, e1]
      congr 1
      omega
    · refine Or.inr ?_
      rw [t2, e2]
      congr 1
      omega
    · refine Or.inr ?_
      rw [t3, e3]
      congr 1
      omega
  · intro q
    have q0 := q 0 (by omega)
    have q1 := q 1 (by omega)
    have q2 := q 2 (by omega)
    have q3 := q 3 (by omega)
    unfold nt_m at q0 q1 q2 q3
    rw [t0, show p + 0 = p from rfl, e0] at q0
    rw [t1, e1] at q1
    rw [t2, e2] at q2
    rw [t3, e3] at q3
    have y0 : 5 = x0 := by
      rcases q0 with q0 | q0
      · exact absurd q0 (pu_m1 (by omega))
      · exact (nI_eq (by omega) (by omega)).mp q0
    have y1 : 0 = x1 := by
      rcases q1 with q1 | q1
      · exact absurd q1 (pu_m1 (by omega))
      · exact (nI_eq (by omega) (by omega)).mp q1
    have y2 : 0 = x2 := by
      rcases q2 with q2 | q2
      · exact absurd q2 (pu_m1 (by omega))
      · exact (nI_eq (by omega) (by omega)).mp q2
    have y3 : 0 = x3 := by
      rcases q3 with q3 | q3
      · exact absurd q3 (pu_m1 (by omega))
      · exact (nI_eq (by omega) (by omega)).mp q3
    omega
theorem nb_name (h : rw_rel up 8192 sz mp L) {p i : Nat} (hp : p + 20 ≤ L) (hi : i < 8) : o_Row_at 8192 up (nI (p + 12 + i)) ∧ (f_Row_at 8192 up (nI (p + 12 + i)) = cd_nn i ↔ nt_m mp p (12 + i)) := by
  obtain ⟨h1, h2, h3, h4, h5⟩ := h
  obtain ⟨t1, t2⟩ := nb_t2 i hi
  have c1 : ¬ nI (p + 12 + i) < 0 := nI_pos (by omega)
  have c2 : nI (p + 12 + i) < nI L := (nI_ltI (by omega) (by omega)).mpr (by omega)
  unfold o_Row_at f_Row_at nt_m
  rw [h2, if_neg c1, if_pos c2, nI_clamp (by omega), h4 (p + 12 + i) (by omega), t1, Nat.add_assoc]
  refine ⟨fun _ _ => vp_in_nI (by omega) (by omega), ⟨fun q => Or.inr q.symm, fun q => ?_⟩⟩
  rcases q with q | q
  · exact absurd q t2
  · exact q.symm
theorem cl_35 (h : rw_rel up 8192 sz mp L) (u : cd_Tc) {p : Nat} (hp : p + 20 ≤ L) (ke y : Int32) : ∀ (g i : Nat), i + g = 8 → (o_Tc_noteHeadPasses_L35 u 8192 up (nI p) ke 1 y (nI 8) → o_Tc_noteHeadPasses_L35 u 8192 up (nI p) ke (g + 1) y (nI i)) ∧ ((f_Tc_noteHeadPasses_L35 u 8192 up (nI p) ke (g + 1) y (nI i) = f_Tc_noteHeadPasses_L35 u 8192 up (nI p) ke 1 y (nI 8) ∧ ∀ i', i ≤ i' → i' < 8 → nt_m mp p (12 + i')) ∨ (o_Tc_noteHeadPasses_L35 u 8192 up (nI p) ke (g + 1) y (nI i) ∧ ∃ i0, i ≤ i0 ∧ i0 < 8 ∧ (∀ i', i ≤ i' → i' < i0 → nt_m mp p (12 + i')) ∧ ¬ nt_m mp p (12 + i0) ∧ f_Tc_noteHeadPasses_L35 u 8192 up (nI p) ke (g + 1) y (nI i) = (0, (6, nI (p + (12 + i0)))))) := by
  have hL8 := h.1
  intro g
  induction g with
  | zero =>
    intro i hi
    have e : i = 8 := by omega
    subst e
    exact ⟨fun q => q, Or.inl ⟨rfl, fun i' h1 h2 => by omega⟩⟩
  | succ g ih =>
    intro i hi
    have c1 : ¬ (8 : Int32) ≤ nI i := fun q => by have := (nI_leI (a := 8) (by omega) (by omega)).mp q; omega
    obtain ⟨q1, q2⟩ := nb_name h hp (i := i) (by omega)
    have ea : nI p + 12 + nI i = nI (p + 12 + i) := by rw [show (12 : Int32) = nI 12 from rfl, nI_add, nI_add]
    have oS : (f_Row_at 8192 up (nI (p + 12 + i)) = cd_nn i → o_Tc_noteHeadPasses_L35 u 8192 up (nI p) ke (g + 1) y (nI (i + 1))) → o_Tc_noteHeadPasses_L35 u 8192 up (nI p) ke (g + 1 + 1) y (nI i) := by
      intro q
      rw [o_Tc_noteHeadPasses_L35, ea, nI_1, nI_clamp (by omega)]
      exact ⟨fun z => absurd z c1, fun _ => q1, fun _ => vp_in_nI (by omega) (by omega), fun _ z => q z⟩
    have fS : f_Tc_noteHeadPasses_L35 u 8192 up (nI p) ke (g + 1 + 1) y (nI i) = if f_Row_at 8192 up (nI (p + 12 + i)) = cd_nn i then f_Tc_noteHeadPasses_L35 u 8192 up (nI p) ke (g + 1) y (nI (i + 1)) else (0, (6, nI (p + 12 + i))) := by
      rw [f_Tc_noteHeadPasses_L35, if_neg c1, ea, nI_1, nI_clamp (by omega)]
      rfl
    obtain ⟨i1, i2⟩ := ih (i + 1) (by omega)
    rw [fS]
    refine ⟨fun q => oS (fun _ => i1 q), ?_⟩
    by_cases c : f_Row_at 8192 up (nI (p + 12 + i)) = cd_nn i
    · rw [if_pos c]
      have cm := q2.mp c
      rcases i2 with ⟨j1, j2⟩ | ⟨j1, i0, j2, j3, j4, j5, j6⟩
      · refine Or.inl ⟨j1, fun i' h1 h2 => ?_⟩
        by_cases e : i' = i
        · rw [e]; exact cm
        · exact j2 i' (by omega) h2
      · refine Or.inr ⟨oS (fun _ => j1), i0, by omega, j3, fun i' h1 h2 => ?_, j5, j6⟩
        by_cases e : i' = i
        · rw [e]; exact cm
        · exact j4 i' (by omega) h2
    · rw [if_neg c]
      refine Or.inr ⟨oS (fun q => absurd q c), i, Nat.le_refl _, by omega, fun i' h1 h2 => by omega, fun q => c (q2.mpr q), ?_⟩
      rw [Nat.add_assoc]
end
