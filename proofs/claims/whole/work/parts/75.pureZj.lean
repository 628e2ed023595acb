section
variable {up : cd_Row} {sz : Int32} {mp : Nat → Int32} {L : Nat}
/-- the size of a note on both sides: the class's look at it, and what the reference is left with -/
theorem e_nsize (h : rw_rel up 8192 sz mp L) (u : cd_Tc) {S0 S : cd_Mo × cd_Ia × cd_Ia × cd_Ia} {p e : Nat} (hpe : p + 20 ≤ e) (he : e ≤ L) : (f_Tc_noteHeadPasses_L35 u 8192 up (nI p) (nI e) 1 (nI (e - p - 20)) (nI 8) = (0, (6, nI (p + 4))) ∧ o_Mo_note_L23 S0 mp (nI p) (nI e) 1 (nI 20) S ∧ f_Mo_note_L23 S0 mp (nI p) (nI e) 1 (nI 20) S = (-1, mo_w S.1 6 (nI (p + 4)), S.2)) ∨ (f_Tc_noteHeadPasses_L35 u 8192 up (nI p) (nI e) 1 (nI (e - p - 20)) (nI 8) = (1, u) ∧ ∃ a, f_Mo_fourAt S.1 mp (nI p + 4) = nI a ∧ a < 2147483648 ∧ p + (20 + (a + 3) / 4 * 4) ≤ e ∧ (nI p).toInt64 + (20 + ((nI a).toInt64 + 3) / 4 * 4) ≤ (nI e).toInt64 ∧ (20 : Int64) + ((nI a).toInt64 + 3) / 4 * 4 = lN (20 + (a + 3) / 4 * 4) ∧ f_Tc_noteSize u 8192 up (nI p) = nI a ∧ f_Tc_padded u (nI a) = nI ((a + 3) / 4 * 4)) := by
  have hL8 := h.1
  have e4 : nI p + 4 = nI (p + 4) := nI_add p 4
  obtain ⟨n1, n2, -, n4⟩ := tp_4 h S.1 (p := p + 4) (by omega)
  obtain ⟨-, n5, -, -⟩ := tp_4 h S.1 (p := p + 8) (by omega)
  have e8 : nI p + 8 = nI (p + 8) := nI_add p 8
  have eN : f_Tc_noteSize u 8192 up (nI p) = f_Mo_fourAt S.1 mp (nI (p + 4)) := by
    unfold f_Tc_noteSize
    rw [e4]
    exact n4
  have d : (8 : Int32) ≤ nI 8 := by decide
  have ot := nt_otail (S0 := S0) (S := S) (mp := mp) (p := p) (by omega) (nI e) (by rw [e4]; exact n2) (by rw [e8]; exact n5)
  rw [f_Tc_noteHeadPasses_L35, if_pos d, nt_tail (by omega), eN, e4]
  rw [e4] at ot
  rcases pu_case (f_Mo_fourAt S.1 mp (nI (p + 4))) with hk | ⟨a, ha, ea⟩
  · rw [if_pos hk, if_pos hk]
    exact Or.inl ⟨rfl, ot (fun q => absurd hk q), rfl⟩
  · have c0 : ¬ nI a < 0 := nI_pos (by omega)
    obtain ⟨s1, s2, -, s4, s5⟩ := nt_size u (a := a) (p := p) (e := e) ha hpe (by omega)
    rw [ea] at ot ⊢
    rw [if_neg c0, if_neg c0]
    by_cases k : p + (20 + (a + 3) / 4 * 4) ≤ e
    · obtain ⟨t1, t2, t3⟩ := s4 k
      rw [if_neg t1, if_pos t3]
      exact Or.inr ⟨rfl, a, rfl, ha, k, by rw [s1]; exact s2.mpr k, s1, rfl, t2⟩
    · have k2 : ¬ (nI p).toInt64 + (20 + ((nI a).toInt64 + 3) / 4 * 4) ≤ (nI e).toInt64 := by
        rw [s1]
        exact fun q => k (s2.mp q)
      rw [if_neg k2]
      refine Or.inl ⟨?_, ot (fun _ q => absurd q k2), rfl⟩
      rcases s5 k with t | ⟨t1, t2⟩
      · rw [if_pos t]
        rfl
      · rw [if_neg t1, if_neg t2]
        rfl
end
