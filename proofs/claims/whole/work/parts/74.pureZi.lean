section
variable {up : cd_Row} {sz : Int32} {mp : Nat → Int32} {L : Nat}
/-- the head of a note on both sides -/
theorem e_nhead (h : rw_rel up 8192 sz mp L) (u : cd_Tc) {S : cd_Mo × cd_Ia × cd_Ia × cd_Ia} {p e : Nat} (hpe : p < e) (he : e ≤ L) : o_Tc_noteHeadPasses u 8192 up (nI p) (nI e) ∧ ((∃ x, f_Tc_noteHeadPasses u 8192 up (nI p) (nI e) = (0, (6, x)) ∧ o_Mo_note S mp (nI p) (nI e) ∧ f_Mo_note S mp (nI p) (nI e) = (-1, mo_w S.1 6 x, S.2)) ∨ (p + 20 ≤ e ∧ f_Tc_noteHeadPasses u 8192 up (nI p) (nI e) = f_Tc_noteHeadPasses_L35 u 8192 up (nI p) (nI e) 1 (nI (e - p - 20)) (nI 8) ∧ f_Mo_note S mp (nI p) (nI e) = f_Mo_note_L23 S mp (nI p) (nI e) 1 (nI 20) S ∧ (o_Mo_note_L23 S mp (nI p) (nI e) 1 (nI 20) S → o_Mo_note S mp (nI p) (nI e)))) := by
  have hL8 := h.1
  have e20 : nI p + 20 = nI (p + 20) := nI_add p 20
  unfold o_Tc_noteHeadPasses f_Tc_noteHeadPasses o_Mo_note f_Mo_note
  rw [e20]
  by_cases c : p + 20 ≤ e
  · obtain ⟨-, -, es, -, -⟩ := nt_size u (a := 0) (p := p) (e := e) (by omega) c (by omega)
    have c1 : ¬ nI (e - p - 20) < 0 := nI_pos (by omega)
    have c2 : nI (p + 20) ≤ nI e := (nI_leI (by omega) (by omega)).mpr c
    rw [es, if_neg c1, if_pos c2]
    obtain ⟨f1, f2⟩ := nb_five h (p := p) (by omega)
    obtain ⟨n1, -, -, -⟩ := tp_4 h S.1 (p := p + 4) (by omega)
    have o8 : o_Tc_noteHeadPasses_L35 u 8192 up (nI p) (nI e) 1 (nI (e - p - 20)) (nI 8) := by
      rw [o_Tc_noteHeadPasses_L35]
      have d : (8 : Int32) ≤ nI 8 := by decide
      refine ⟨fun _ => ?_, fun q => absurd d q, fun q => absurd d q, fun q => absurd d q⟩
      unfold o_Tc_noteSize
      rw [show nI p + 4 = nI (p + 4) from nI_add p 4]
      exact n1
    obtain ⟨k1, k2⟩ := cl_35 h u (p := p) (by omega) (nI e) (nI (e - p - 20)) 8 0 (by omega)
    obtain ⟨r1, r2⟩ := nt_run h (S0 := S) (S := S) (p := p) (by omega) (nI e) 20 0 (by omega)
    rw [show nI 0 = (0 : Int32) from rfl] at k1 k2 r1 r2
    refine ⟨⟨fun _ => f1, fun _ _ => k1 o8⟩, ?_⟩
    rcases r2 with ⟨r2, r3⟩ | ⟨r2, k0, r3, r4, r5, r6, r7⟩
    · rw [if_pos (f2.mpr (fun k hk => r3 k (by omega) (by omega)))]
      rcases k2 with ⟨k2, -⟩ | ⟨-, i0, -, k3, -, k5, -⟩
      · exact Or.inr ⟨c, k2, r2, fun q _ => r1 q⟩
      · exact absurd (r3 (12 + i0) (by omega) (by omega)) k5
    · by_cases k4 : 4 ≤ k0
      · rw [if_pos (f2.mpr (fun k hk => r5 k (by omega) (by omega)))]
        rw [if_pos k4] at r7
        have k12 : 12 ≤ k0 := by
          by_cases q : k0 < 12
          · exact absurd (Or.inl (nb_t1 k0 r4 k4 q)) r6
          · omega
        rcases k2 with ⟨-, k3⟩ | ⟨-, i0, -, k3, k4', k5, k6⟩
        · exact absurd (by have := k3 (k0 - 12) (by omega) (by omega); rw [show 12 + (k0 - 12) = k0 by omega] at this; exact this) r6
        · have ei : 12 + i0 = k0 := by
            rcases Nat.lt_trichotomy (12 + i0) k0 with q | q | q
            · exact absurd (r5 (12 + i0) (by omega) q) k5
            · exact q
            · exact absurd (by have := k4' (k0 - 12) (by omega) (by omega); rw [show 12 + (k0 - 12) = k0 by omega] at this; exact this) r6
          rw [ei] at k6
          exact Or.inl ⟨_, k6, fun _ => r2, r7⟩
      · have d : ¬ f_Row_number 8192 up (nI p) 4 = 5 := fun q => r6 (f2.mp q k0 (by omega))
        rw [if_neg d]
        rw [if_neg k4] at r7
        exact Or.inl ⟨_, rfl, fun _ => r2, r7⟩
  · have c2 : ¬ nI (p + 20) ≤ nI e := fun q => c ((nI_leI (by omega) (by omega)).mp q)
    have e1 : (nI e - nI p).toInt = (e : Int) - p := by
      rw [pu_sub (by rw [nI_toInt (by omega), nI_toInt (by omega)]; omega) (by rw [nI_toInt (by omega), nI_toInt (by omega)]; omega), nI_toInt (by omega), nI_toInt (by omega)]
    have z20 : (20 : Int32).toInt = 20 := by decide
    have z0 : (0 : Int32).toInt = 0 := by decide
    have c1 : nI e - nI p - 20 < 0 := by
      rw [pu_lt, pu_sub (by rw [e1]; omega) (by rw [e1]; omega), e1]
      omega
    rw [if_pos c1, if_neg c2]
    exact ⟨⟨fun q => absurd c1 q, fun q => absurd c1 q⟩, Or.inl ⟨_, rfl, fun q => absurd q c2, rfl⟩⟩
end
