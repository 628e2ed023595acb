-- the size of a note, padded, against the room there is
theorem nt_size (u : cd_Tc) {a p e : Nat} (ha : a < 2147483648) (hp : p + 20 ≤ e) (he : e ≤ 8192) : (20 : Int64) + ((nI a).toInt64 + 3) / 4 * 4 = lN (20 + (a + 3) / 4 * 4) ∧ ((nI p).toInt64 + lN (20 + (a + 3) / 4 * 4) ≤ (nI e).toInt64 ↔ p + (20 + (a + 3) / 4 * 4) ≤ e) ∧ nI e - nI p - 20 = nI (e - p - 20) ∧ (p + (20 + (a + 3) / 4 * 4) ≤ e → ¬ nI (e - p - 20) < nI a ∧ f_Tc_padded u (nI a) = nI ((a + 3) / 4 * 4) ∧ f_Tc_padded u (nI a) ≤ nI (e - p - 20)) ∧ (¬ p + (20 + (a + 3) / 4 * 4) ≤ e → nI (e - p - 20) < nI a ∨ (¬ nI (e - p - 20) < nI a ∧ ¬ f_Tc_padded u (nI a) ≤ nI (e - p - 20))) := by
  have pad : a ≤ 8192 → f_Tc_padded u (nI a) = nI ((a + 3) / 4 * 4) := by
    intro h
    unfold f_Tc_padded
    rw [show (3 : Int32) = nI 3 from rfl, show (4 : Int32) = nI 4 from rfl, nI_add, pk_div (by omega) (by omega) (by omega), pk_mul]
  refine ⟨?_, ?_, ?_, fun h => ?_, fun h => ?_⟩
  · rw [nI_l (by omega), show (3 : Int64) = lN 3 from rfl, show (4 : Int64) = lN 4 from rfl, show (20 : Int64) = lN 20 from rfl, lN_add, pk_lDiv (by omega) (by omega) (by omega), lN_mul, lN_add]
  · rw [nI_l (by omega), nI_l (by omega), lN_add, pk_lLE (by omega) (by omega)]
  · rw [pu_eq, show (20 : Int32) = nI 20 from rfl]
    have e1 : (nI e - nI p).toInt = (e : Int) - p := by
      rw [pu_sub (by rw [nI_toInt (by omega), nI_toInt (by omega)]; omega) (by rw [nI_toInt (by omega), nI_toInt (by omega)]; omega), nI_toInt (by omega), nI_toInt (by omega)]
    rw [pu_sub (by rw [e1, nI_toInt (by omega)]; omega) (by rw [e1, nI_toInt (by omega)]; omega), e1, nI_toInt (by omega), nI_toInt (by omega)]
    omega
  · have hp2 := pad (by omega)
    refine ⟨nI_nlt (by omega) (by omega), hp2, ?_⟩
    rw [hp2]
    exact nI_le (by omega) (by omega)
  · by_cases c : e - p - 20 < a
    · exact Or.inl ((nI_ltI (by omega) (by omega)).mpr c)
    · refine Or.inr ⟨nI_nlt (by omega) (by omega), ?_⟩
      rw [pad (by omega)]
      exact nI_ge (by omega) (by omega)
