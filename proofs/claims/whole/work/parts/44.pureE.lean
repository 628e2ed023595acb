-- rows of bytes: tape and file
def rw_rel (u : cd_Row) (room : Nat) (sz : Int32) (mp : Nat → Int32) (L : Nat) : Prop := L ≤ room ∧ u.1 = nI L ∧ sz = nI L ∧ (∀ j, j < L → u.2 j = mp j) ∧ sb_Fit u.2
abbrev mo_t (u : cd_Mo) (t : Int32) : cd_Mo := ((0 : Int32), u.2.1, t, u.2.2.2.1, u.2.2.2.2.1, u.2.2.2.2.2)
theorem pu_case (k : Int32) : k < 0 ∨ ∃ m : Nat, m < 2147483648 ∧ k = nI m := by
  by_cases h : k < 0
  · exact Or.inl h
  · rw [pu_lt] at h
    have h0 : (0 : Int32).toInt = 0 := by decide
    obtain ⟨m, h1, h2, -⟩ := pu_of (x := k) (by omega)
    exact Or.inr ⟨m, h1, h2⟩
theorem pu_ne_neg {k : Int32} (h : k < 0) {n : Nat} (hn : n < 2147483648) : ¬ k = nI n := by
  intro z
  rw [z] at h
  exact nI_pos (by omega) h
theorem pu_cz : (0 : Int32).toNatClampNeg = 0 := by decide
theorem pu_c1 : (1 : Int32).toNatClampNeg = 1 := by decide
theorem pu_upds {f : Nat → Int32} {k : Nat} {x : Int32} : upd f k x k = x := by rw [pu_upd, if_pos rfl]
theorem pu_updn {f : Nat → Int32} {k j : Nat} {x : Int32} (h : j ≠ k) : upd f k x j = f j := by rw [pu_upd, if_neg h]
/-- put on both sides -/
theorem e_put (u : cd_Has) {up : cd_Row} {S : cd_Mo × cd_By} {L : Nat} (h : rw_rel up 8192 S.1.2.2.1 S.2 L) (k v : Int32) : o_Desk_put u up k v ∧ o_Mo_put S k v ∧ (f_Desk_put u up k v).1 = (f_Mo_put S k v).1 ∧ ∃ L', rw_rel (f_Desk_put u up k v).2 8192 (nI L') (f_Mo_put S k v).2.2 L' ∧ (f_Mo_put S k v).2.1 = mo_t S.1 (nI L') := by
  obtain ⟨h1, h2, h3, h4, h5⟩ := h
  unfold o_Desk_put o_Mo_put f_Desk_put f_Mo_put f_Row_length o_Row_change o_Row_append f_Row_append f_Row_change
  rw [h2, h3]
  have e8 : (8192 : Int32) = nI 8192 := rfl
  rcases pu_case k with hk | ⟨m, hm, rfl⟩
  · have c0 := pu_ne_neg hk (n := L) (by omega)
    rw [if_neg c0, if_pos hk, if_pos hk]
    exact ⟨⟨fun _ z => absurd hk z, fun z => absurd z c0⟩, fun z => absurd hk z, rfl, L, ⟨h1, h2, rfl, h4, h5⟩, rfl⟩
  · have k0 : ¬ nI m < 0 := nI_pos (by omega)
    have cm : (nI m).toNatClampNeg = m := nI_clamp (by omega)
    have cL : (nI L).toNatClampNeg = L := nI_clamp (by omega)
    simp only [cm, cL]
    rw [if_neg k0, if_neg k0]
    rcases Nat.lt_trichotomy m L with c | c | c
    · have c1 : ¬ nI m = nI L := fun z => by have := (nI_eq (by omega) (by omega)).mp z; omega
      have c2 : nI m < nI L := (nI_ltI (by omega) (by omega)).mpr c
      have c3 : ¬ nI L < nI m := fun z => by have := (nI_ltI (by omega) (by omega)).mp z; omega
      have c4 : ¬ nI m = (8192 : Int32) := fun z => by rw [e8] at z; have := (nI_eq (by omega) (by omega)).mp z; omega
      rw [if_neg c1, if_pos c2, if_neg c3, if_neg c4, if_neg c1]
      refine ⟨⟨fun _ _ _ => vp_in_nI (by omega) (by omega), fun z => absurd z c1⟩, fun _ _ _ => vp_in_nI (by omega) (by omega), rfl, L, ⟨h1, rfl, rfl, fun j hj => ?_, sb_fitU h5 (pu_fb v)⟩, rfl⟩
      show upd up.2 m _ j = upd S.2 m _ j
      by_cases e : j = m
      · rw [e, pu_upds, pu_upds]
      · rw [pu_updn e, pu_updn e]
        exact h4 j hj
    · subst c
      have c0 : ¬ nI m < nI m := fun z => by have := (nI_ltI (a := m) (b := m) (by omega) (by omega)).mp z; omega
      rw [if_pos rfl, if_neg c0]
      by_cases e : m = 8192
      · have c4 : nI m = (8192 : Int32) := by rw [e]; rfl
        have c5 : ¬ nI m < nI 8192 := fun z => by have := (nI_ltI (by omega) (by omega)).mp z; omega
        rw [if_pos c4, if_neg c5]
        exact ⟨⟨fun z => absurd rfl z, fun _ z => absurd z c5⟩, fun _ _ z => absurd c4 z, rfl, m, ⟨h1, h2, rfl, h4, h5⟩, rfl⟩
      · have c4 : ¬ nI m = (8192 : Int32) := fun z => by rw [e8] at z; have := (nI_eq (by omega) (by omega)).mp z; omega
        have c5 : nI m < nI 8192 := (nI_ltI (by omega) (by omega)).mpr (by omega)
        rw [if_neg c4, if_pos c5, if_pos rfl]
        refine ⟨⟨fun z => absurd rfl z, fun _ _ => vp_in_nI (by omega) (by omega)⟩, fun _ _ _ => vp_in_nI (by omega) (by omega), rfl, m + 1, ⟨by omega, nI_1 m, rfl, fun j hj => ?_, sb_fitU h5 (pu_fb v)⟩, ?_⟩
        · show upd up.2 m _ j = upd S.2 m _ j
          by_cases e2 : j = m
          · rw [e2, pu_upds, pu_upds]
          · rw [pu_updn e2, pu_updn e2]
            exact h4 j (by omega)
        · rw [nI_1]
    · have c1 : ¬ nI m = nI L := fun z => by have := (nI_eq (by omega) (by omega)).mp z; omega
      have c2 : ¬ nI m < nI L := fun z => by have := (nI_ltI (by omega) (by omega)).mp z; omega
      have c3 : nI L < nI m := (nI_ltI (by omega) (by omega)).mpr c
      rw [if_neg c1, if_neg c2, if_pos c3]
      exact ⟨⟨fun _ _ z => absurd z c2, fun z => absurd z c1⟩, fun _ z => absurd c3 z, rfl, L, ⟨h1, h2, rfl, h4, h5⟩, rfl⟩
/-- cut on both sides -/
theorem e_cut (u : cd_Has) {up : cd_Row} {v : cd_Mo} {mp : Nat → Int32} {L : Nat} (h : rw_rel up 8192 v.2.2.1 mp L) (k : Int32) : (f_Desk_cut u up k).1 = (f_Mo_cut v k).1 ∧ ∃ L', rw_rel (f_Desk_cut u up k).2 8192 (nI L') mp L' ∧ (f_Mo_cut v k).2 = mo_t v (nI L') := by
  obtain ⟨h1, h2, h3, h4, h5⟩ := h
  unfold f_Desk_cut f_Mo_cut f_Row_shorten
  rw [h2, h3]
  rcases pu_case k with hk | ⟨m, hm, rfl⟩
  · rw [if_pos hk, if_pos hk]
    exact ⟨rfl, L, ⟨h1, h2, rfl, h4, h5⟩, rfl⟩
  · have k0 : ¬ nI m < 0 := nI_pos (by omega)
    rw [if_neg k0, if_neg k0]
    by_cases c : nI m ≤ nI L
    · rw [if_pos c, if_pos c]
      have c2 := (nI_leI (by omega) (by omega)).mp c
      exact ⟨rfl, m, ⟨by omega, rfl, rfl, fun j hj => h4 j (by omega), h5⟩, rfl⟩
    · rw [if_neg c, if_neg c]
      exact ⟨rfl, L, ⟨h1, h2, rfl, h4, h5⟩, rfl⟩
/-- the file: none yet (the class: an empty row), or a row -/
def fl_rel (uf : cd_Row) (sz : Int32) (ml : Nat → Int32) : Prop := (sz = -1 ∧ uf.1 = nI 0 ∧ sb_Fit uf.2) ∨ ∃ L, rw_rel uf 6588 sz ml L
theorem e_byteAt (u : cd_Has) {uf : cd_Row} {v : cd_Mo} {ml : Nat → Int32} (h : fl_rel uf v.2.1 ml) (k : Int32) : o_Desk_byteAt u uf k ∧ o_Mo_byteAt v ml k ∧ f_Desk_byteAt u uf k = (f_Mo_byteAt v ml k).1 ∧ (f_Mo_byteAt v ml k).2 = mo_z v := by
  unfold o_Desk_byteAt o_Mo_byteAt f_Desk_byteAt f_Mo_byteAt o_Row_at f_Row_at
  rcases pu_case k with hk | ⟨m, hm, rfl⟩
  · rw [if_pos hk, if_pos hk]
    exact ⟨fun z => absurd hk z, fun z => absurd hk z, rfl, rfl⟩
  · have k0 : ¬ nI m < 0 := nI_pos (by omega)
    have cm : (nI m).toNatClampNeg = m := nI_clamp (by omega)
    rw [if_neg k0, if_neg k0, cm]
    rcases h with ⟨g1, g2, -⟩ | ⟨L, h1, h2, h3, h4, h5⟩
    · rw [g1, g2]
      have c1 : ¬ nI m < nI 0 := nI_nlt (Nat.zero_le _) (by omega)
      have c2 : (-1 : Int32) ≤ nI m := by
        rw [pu_le, nI_toInt (by omega)]
        have : (-1 : Int32).toInt = -1 := by decide
        omega
      rw [if_neg c1, if_pos c2]
      exact ⟨fun _ z => absurd z c1, fun _ z => absurd c2 z, rfl, by dsimp only [mo_z]; rw [g1]⟩
    · rw [h2, h3]
      by_cases c : m < L
      · have c1 : nI m < nI L := (nI_ltI (by omega) (by omega)).mpr c
        have c2 : ¬ nI L ≤ nI m := fun z => by have := (nI_leI (by omega) (by omega)).mp z; omega
        rw [if_pos c1, if_neg c2, h4 m c]
        exact ⟨fun _ _ => vp_in_nI (by omega) (by omega), fun _ _ => vp_in_nI (by omega) (by omega), rfl, by dsimp only [mo_z]; rw [h3]⟩
      · have c1 : ¬ nI m < nI L := fun z => by have := (nI_ltI (by omega) (by omega)).mp z; omega
        have c2 : nI L ≤ nI m := (nI_leI (by omega) (by omega)).mpr (by omega)
        rw [if_neg c1, if_pos c2]
        exact ⟨fun _ z => absurd z c1, fun _ z => absurd c2 z, rfl, by dsimp only [mo_z]; rw [h3]⟩
theorem e_error (u : cd_Has) {uc : cd_Tc} {v : cd_Mo} (h1 : uc.1 = v.2.2.2.2.1) (h2 : uc.2 = v.2.2.2.2.2) (k : Int32) : f_Desk_error u uc k = (f_Mo_error v k).1 ∧ (f_Mo_error v k).2 = mo_z v := by
  unfold f_Desk_error f_Mo_error f_Tc_wrong f_Tc_place
  by_cases c : k = 0
  · rw [if_pos c, if_pos c]
    exact ⟨h1, rfl⟩
  · rw [if_neg c, if_neg c]
    by_cases c2 : k = 1
    · rw [if_pos c2, if_pos c2]
      exact ⟨h2, rfl⟩
    · rw [if_neg c2, if_neg c2]
      exact ⟨rfl, rfl⟩
