theorem pu_nar {x : Int32} (h : fits .byte (.int x) = true) : vp_nar .byte x = x := by
  rw [vp_nar_byte]
  have h2 : -128 ≤ x ∧ x ≤ 127 := by simpa [fits] using h
  obtain ⟨h3, h4⟩ := h2
  rw [pu_le] at h3 h4
  have e1 : (-128 : Int32).toInt = -128 := by decide
  have e2 : (127 : Int32).toInt = 127 := by decide
  rw [pu_eq, Int8.toInt_toInt32, Int32.toInt_toInt8]
  exact Int.bmod_eq_of_le (by omega) (by omega)
theorem pu_copyL {S : cd_Mo × cd_By} {ml : Nat → Int32} {L : Nat} (hL : L ≤ 8192) (hf : ∀ j, j < L → fits .byte (.int (ml j)) = true) : ∀ (g x : Nat) (S' : cd_Mo × cd_By), S'.1.2.2.1 = nI L → x ≤ L → L - x < g → (∀ j, j < x → S'.2 j = ml j) → o_Mo_copy_L27 S ml g (nI x) S' ∧ (f_Mo_copy_L27 S ml g (nI x) S').1 = nI L ∧ (f_Mo_copy_L27 S ml g (nI x) S').2.1 = S'.1 ∧ ∀ j, j < L → (f_Mo_copy_L27 S ml g (nI x) S').2.2 j = ml j := by
  intro g
  induction g with
  | zero => intro x S' _ _ h; omega
  | succ g ih =>
    intro x S' h1 h2 h3 h4
    have cx : (nI x).toNatClampNeg = x := nI_clamp (by omega)
    unfold o_Mo_copy_L27 f_Mo_copy_L27
    rw [h1, cx]
    by_cases c : nI L ≤ nI x
    · have hx : x = L := by have := (nI_leI (by omega) (by omega)).mp c; omega
      subst hx
      rw [if_pos c]
      exact ⟨⟨fun z => absurd c z, fun z => absurd c z, fun z => absurd c z⟩, rfl, rfl, h4⟩
    · have hx : x < L := by
        have : ¬ L ≤ x := fun z => c ((nI_leI (by omega) (by omega)).mpr z)
        omega
      rw [if_neg c, nI_1]
      obtain ⟨i1, i2, i3, i4⟩ := ih (x + 1) (S'.1, upd S'.2 x (vp_nar .byte (ml x))) h1 (by omega) (by omega) (fun j hj => by
        show upd S'.2 x _ j = ml j
        by_cases e : j = x
        · rw [e, pu_upds]; exact pu_nar (hf x hx)
        · rw [pu_updn e]; exact h4 j (by omega))
      exact ⟨⟨fun _ => vp_in_nI (by omega) (by omega), fun _ => vp_in_nI (by omega) (by omega), fun _ => i1⟩, i2, i3, i4⟩
theorem pu_become {up uf : cd_Row} {L : Nat} (hL : L ≤ 6588) (h : uf.1 = nI L) (hf : sb_Fit uf.2) (hg : sb_Fit up.2) : o_Row_become 8192 up 6588 uf ∧ (f_Row_become 8192 up 6588 uf).1 = nI L ∧ (∀ j, j < L → (f_Row_become 8192 up 6588 uf).2 j = uf.2 j) ∧ sb_Fit (f_Row_become 8192 up 6588 uf).2 := by
  unfold o_Row_become f_Row_become o_Row_appendBytes f_Row_appendBytes
  rw [h]
  have c1 : ¬ nI L < 0 := nI_pos (by omega)
  have c2 : ¬ nI 6588 < nI L := nI_nlt (by omega) (by omega)
  have e0 : nI 8192 - (0 : Int32) = nI 8192 := by decide
  dsimp only
  rw [e0]
  have c3 : nI L ≤ nI 8192 := nI_le (by omega) (by omega)
  rw [if_neg c1, if_neg c2, if_pos c3, pu_cz]
  have cL : (nI L).toNatClampNeg = L := nI_clamp (by omega)
  rw [cL]
  refine ⟨⟨fun _ _ _ => by decide, fun _ _ _ => by decide, fun _ _ _ => c1, fun _ _ _ => by omega, fun _ _ _ => by omega, fun _ _ _ i _ => hf _⟩, ?_, fun j hj => ?_, sb_fitC hf hg⟩
  · show (0 : Int32) + nI L = nI L
    rw [show (0 : Int32) = nI 0 from rfl, nI_add]
    rw [Nat.zero_add]
  · exact sb_cpy0 hj
/-- copy on both sides -/
theorem e_copy (u : cd_Has) {uf up : cd_Row} {S : cd_Mo × cd_By} {ml : Nat → Int32} (h : fl_rel uf S.1.2.1 ml) (hg : sb_Fit up.2) : o_Desk_copy u uf up ∧ o_Mo_copy S ml ∧ (f_Desk_copy u uf up).1 = (f_Mo_copy S ml).1 ∧ ∃ L', rw_rel (f_Desk_copy u uf up).2 8192 (nI L') (f_Mo_copy S ml).2.2 L' ∧ (f_Mo_copy S ml).2.1 = mo_t S.1 (nI L') := by
  unfold o_Desk_copy o_Mo_copy f_Desk_copy f_Mo_copy f_Row_length
  rcases h with ⟨g1, g2, g3⟩ | ⟨L, h1, h2, h3, h4, h5⟩
  · obtain ⟨b1, b2, b3, b4⟩ := pu_become (up := up) (L := 0) (by omega) g2 g3 hg
    obtain ⟨c1, c2, c3, c4⟩ := pu_copyL (S := S) (ml := ml) (L := 0) (by omega) (fun j hj => by omega) 8193 0 (((0 : Int32), S.1.2.1, (0 : Int32), S.1.2.2.2.1, S.1.2.2.2.2.1, S.1.2.2.2.2.2), S.2) rfl (by omega) (by omega) (fun j hj => by omega)
    rw [if_pos g1]
    refine ⟨b1, ⟨fun z => absurd g1 z, fun _ => c1⟩, b2.trans c2.symm, 0, ⟨by omega, b2, rfl, fun j hj => by omega, b4⟩, c3⟩
  · obtain ⟨b1, b2, b3, b4⟩ := pu_become (up := up) h1 h2 h5 hg
    have hne : ¬ S.1.2.1 = -1 := by rw [h3]; exact pu_m1 (by omega)
    obtain ⟨c1, c2, c3, c4⟩ := pu_copyL (S := S) (ml := ml) (L := L) (by omega) (fun j hj => by rw [← h4 j hj]; exact h5 j) 8193 0 (((0 : Int32), S.1.2.1, S.1.2.1, S.1.2.2.2.1, S.1.2.2.2.2.1, S.1.2.2.2.2.2), S.2) h3 (by omega) (by omega) (fun j hj => by omega)
    rw [if_neg hne]
    refine ⟨b1, ⟨fun _ => c1, fun z => absurd z hne⟩, b2.trans c2.symm, L, ⟨by omega, b2, rfl, fun j hj => ?_, b4⟩, ?_⟩
    · rw [b3 j hj, h4 j hj]
      exact (c4 j hj).symm
    · refine c3.trans ?_
      show ((0 : Int32), S.1.2.1, S.1.2.1, S.1.2.2.2.1, S.1.2.2.2.2.1, S.1.2.2.2.2.2) = mo_t S.1 (nI L)
      dsimp only [mo_t]
      rw [h3]
