-- the header looked at on both sides
def hd_o (i : Nat) : Nat := [0, 1, 2, 3, 4, 5, 6, 7, 8, 9, 10, 11, 12, 13, 14, 15, 16, 18, 20, 24, 28, 32, 36, 40, 42, 44, 46, 48, 50, 52].getD i 0
def hd_n (i : Nat) : Nat := [127, 69, 76, 70, 1, 1, 1, 0, 0, 0, 0, 0, 0, 0, 0, 0, 4, 8, 1, 0, 52, 0, 0, 52, 32, 0, 0, 0, 0].getD i 0
theorem hd_t1 : ∀ i, i < 29 → hd_o (i + 1) = hd_o i + hd_w i ∧ hd_o i + hd_w i ≤ 52 ∧ cd_hv i = nI (hd_n i) ∧ hd_n i < 256 := by decide +kernel
theorem hd_t2a : ∀ i, i < 29 → ∀ j, j < hd_w i → f_Mo_headerByte (nI (hd_o i + j)) = (if j = 0 then cd_hv i else 0) := by decide +kernel
theorem hd_t2b : ∀ i, i < 29 → ∀ j, j < hd_w i → f_Mo_fieldOf (nI (hd_o i + j)) = nI (hd_o i) := by decide +kernel
theorem hd_t2c : ∀ i, i < 29 → ∀ j, j < hd_w i → (i = 25 ∨ (hd_o i + j ≠ 44 ∧ hd_o i + j ≠ 45)) := by decide +kernel
theorem hd_t2 (i : Nat) (hi : i < 29) (j : Nat) (_ : j < 4) (hj : j < hd_w i) : f_Mo_headerByte (nI (hd_o i + j)) = (if j = 0 then cd_hv i else 0) ∧ f_Mo_fieldOf (nI (hd_o i + j)) = nI (hd_o i) ∧ (i ≠ 25 → hd_o i + j ≠ 44 ∧ hd_o i + j ≠ 45) := by
  refine ⟨hd_t2a i hi j hj, hd_t2b i hi j hj, fun h => ?_⟩
  rcases hd_t2c i hi j hj with e | e
  · exact absurd e h
  · exact e
theorem w4_2 (a b : Int32) : a ||| (b <<< ((8 : Int32) &&& 31)) = pu_w4 a b (nI 0) (nI 0) := by
  show _ = ((a ||| (b <<< ((8 : Int32) &&& 31))) ||| (nI 0 <<< ((16 : Int32) &&& 31))) ||| (nI 0 <<< ((24 : Int32) &&& 31))
  rw [show nI 0 <<< ((16 : Int32) &&& 31) = 0 by decide, show nI 0 <<< ((24 : Int32) &&& 31) = 0 by decide, Int32.or_zero, Int32.or_zero]
section
variable {up : cd_Row} {sz : Int32} {mp : Nat → Int32} {L : Nat}
theorem hd_field (h : rw_rel up 8192 sz mp L) (hL : 52 ≤ L) {i : Nat} (hi : i < 29) : o_Row_number 8192 up (nI (hd_o i)) (cd_hw i) ∧ (f_Row_number 8192 up (nI (hd_o i)) (cd_hw i) = cd_hv i ↔ ∀ j, j < hd_w i → mp (hd_o i + j) &&& 255 = if j = 0 then cd_hv i else 0) := by
  obtain ⟨a1, a2, a3, a4⟩ := hd_t1 i hi
  obtain ⟨b1, b2⟩ := hd_wok i hi
  rw [b1, a3]
  rcases b2 with e | e | e
  · rw [e] at a2 ⊢
    obtain ⟨p1, p2⟩ := tp_1 h (p := hd_o i) (by omega)
    refine ⟨p1, ?_⟩
    rw [show nI 1 = (1 : Int32) from rfl, p2]
    constructor
    · intro q j hj
      have : j = 0 := by omega
      subst this
      rw [if_pos rfl]
      exact q
    · intro q
      have := q 0 (by omega)
      rw [if_pos rfl] at this
      exact this
  · rw [e] at a2 ⊢
    obtain ⟨p1, -, p2, p3⟩ := tp_2 h (0, 0, 0, 0, 0, 0) (p := hd_o i) (by omega)
    refine ⟨p1, ?_⟩
    rw [show nI 2 = (2 : Int32) from rfl, p3, p2, w4_2]
    obtain ⟨x0, h0, e0⟩ := pu_by (mp (hd_o i))
    obtain ⟨x1, h1, e1⟩ := pu_by (mp (hd_o i + 1))
    rw [e0, e1, w4_eq h0 h1 (by omega) (by omega) (by omega)]
    constructor
    · intro q j hj
      by_cases c : j = 0
      · subst c
        rw [if_pos rfl]
        show mp (hd_o i) &&& 255 = _
        rw [e0]
        congr 1
        omega
      · have : j = 1 := by omega
        subst this
        rw [if_neg (by omega), e1, show (0 : Int32) = nI 0 from rfl]
        congr 1
        omega
    · intro q
      have q0 := q 0 (by omega)
      have q1 := q 1 (by omega)
      rw [if_pos rfl, show hd_o i + 0 = hd_o i by omega, e0, nI_eq (by omega) (by omega)] at q0
      rw [if_neg (by omega), e1, show (0 : Int32) = nI 0 from rfl, nI_eq (by omega) (by omega)] at q1
      omega
  · rw [e] at a2 ⊢
    obtain ⟨p1, -, p2, p3⟩ := tp_4 h (0, 0, 0, 0, 0, 0) (p := hd_o i) (by omega)
    refine ⟨p1, ?_⟩
    rw [show nI 4 = (4 : Int32) from rfl, p3, p2]
    obtain ⟨x0, h0, e0⟩ := pu_by (mp (hd_o i))
    obtain ⟨x1, h1, e1⟩ := pu_by (mp (hd_o i + 1))
    obtain ⟨x2, h2, e2⟩ := pu_by (mp (hd_o i + 2))
    obtain ⟨x3, h3, e3⟩ := pu_by (mp (hd_o i + 3))
    rw [e0, e1, e2, e3, w4_eq h0 h1 h2 h3 (by omega)]
    constructor
    · intro q j hj
      by_cases c : j = 0
      · subst c
        rw [if_pos rfl]
        show mp (hd_o i) &&& 255 = _
        rw [e0]
        congr 1
        omega
      · rw [if_neg c, show (0 : Int32) = nI 0 from rfl]
        have : j = 1 ∨ j = 2 ∨ j = 3 := by omega
        rcases this with rfl | rfl | rfl
        · rw [e1]; congr 1; omega
        · rw [e2]; congr 1; omega
        · rw [e3]; congr 1; omega
    · intro q
      have q0 := q 0 (by omega)
      have q1 := q 1 (by omega)
      have q2 := q 2 (by omega)
      have q3 := q 3 (by omega)
      rw [if_pos rfl, show hd_o i + 0 = hd_o i by omega, e0, nI_eq (by omega) (by omega)] at q0
      rw [if_neg (by omega), e1, show (0 : Int32) = nI 0 from rfl, nI_eq (by omega) (by omega)] at q1
      rw [if_neg (by omega), e2, show (0 : Int32) = nI 0 from rfl, nI_eq (by omega) (by omega)] at q2
      rw [if_neg (by omega), e3, show (0 : Int32) = nI 0 from rfl, nI_eq (by omega) (by omega)] at q3
      omega
abbrev mo_w (u : cd_Mo) (k x : Int32) : cd_Mo := (u.1, u.2.1, u.2.2.1, u.2.2.2.1, k, x)
/-- the bytes of one field, looked at by the reference -/
theorem hd_run {v0 v : cd_Mo} {i : Nat} (hi : i < 29) (h25 : i ≠ 25) : ∀ (k j : Nat), j + k = hd_w i → ((∀ j', j ≤ j' → j' < hd_w i → mp (hd_o i + j') &&& 255 = if j' = 0 then cd_hv i else 0) ∧ (o_Mo_headerFits_L21 v0 mp (53 - hd_o (i + 1)) (nI (hd_o (i + 1))) v → o_Mo_headerFits_L21 v0 mp (53 - (hd_o i + j)) (nI (hd_o i + j)) v) ∧ f_Mo_headerFits_L21 v0 mp (53 - (hd_o i + j)) (nI (hd_o i + j)) v = f_Mo_headerFits_L21 v0 mp (53 - hd_o (i + 1)) (nI (hd_o (i + 1))) v) ∨ ((∃ j', j ≤ j' ∧ j' < hd_w i ∧ ¬ mp (hd_o i + j') &&& 255 = if j' = 0 then cd_hv i else 0) ∧ o_Mo_headerFits_L21 v0 mp (53 - (hd_o i + j)) (nI (hd_o i + j)) v ∧ f_Mo_headerFits_L21 v0 mp (53 - (hd_o i + j)) (nI (hd_o i + j)) v = (0, mo_w v 2 (nI (hd_o i)))) := by
  obtain ⟨a1, a2, a3, a4⟩ := hd_t1 i hi
  intro k
  induction k with
  | zero =>
    intro j hj
    have e : j = hd_w i := by omega
    subst e
    rw [← a1]
    exact Or.inl ⟨fun j' h1 h2 => by omega, fun q => q, rfl⟩
  | succ k ih =>
    intro j hj
    have hw4 : hd_w i ≤ 4 := by rcases (hd_wok i hi).2 with e | e | e <;> omega
    obtain ⟨t1, t2, t3⟩ := hd_t2 i hi j (by omega) (by omega)
    obtain ⟨t4, t5⟩ := t3 h25
    obtain ⟨g, hg⟩ : ∃ g, 53 - (hd_o i + j) = g + 1 := ⟨52 - (hd_o i + j), by omega⟩
    have hg2 : 53 - (hd_o i + (j + 1)) = g := by omega
    have ih' := ih (j + 1) (by omega)
    rw [hg2] at ih'
    rw [hg]
    have c1 : ¬ (52 : Int32) ≤ nI (hd_o i + j) := fun q => by have := (nI_leI (a := 52) (by omega) (by omega)).mp q; omega
    have c2 : ¬ nI (hd_o i + j) = (44 : Int32) := fun q => t4 ((nI_eq (b := 44) (by omega) (by omega)).mp q)
    have c3 : ¬ nI (hd_o i + j) = (45 : Int32) := fun q => t5 ((nI_eq (b := 45) (by omega) (by omega)).mp q)
    have v81 : vp_in (nI (hd_o i + j)) 8192 := vp_in_nI (by omega) (by omega)
    rw [o_Mo_headerFits_L21, f_Mo_headerFits_L21, if_neg c1, if_neg c2, if_neg c3, nI_clamp (by omega), t1, t2, nI_1]
    by_cases c : mp (hd_o i + j) &&& 255 = if j = 0 then cd_hv i else 0
    · rw [if_pos c]
      rcases ih' with ⟨i1, i2, i3⟩ | ⟨⟨j', i0, i1, i2⟩, i3, i4⟩
      · refine Or.inl ⟨fun j' h1 h2 => ?_, fun q => ⟨fun z => absurd z c1, fun _ z => absurd z c2, fun _ z => absurd z c2, fun _ z => absurd z c2, fun _ _ _ => v81, fun _ _ _ _ => i2 q, fun _ _ z => absurd z c3⟩, i3⟩
        by_cases e : j' = j
        · rw [e]; exact c
        · exact i1 j' (by omega) h2
      · exact Or.inr ⟨⟨j', by omega, i1, i2⟩, ⟨fun z => absurd z c1, fun _ z => absurd z c2, fun _ z => absurd z c2, fun _ z => absurd z c2, fun _ _ _ => v81, fun _ _ _ _ => i3, fun _ _ z => absurd z c3⟩, i4⟩
    · rw [if_neg c]
      exact Or.inr ⟨⟨j, Nat.le_refl _, by omega, c⟩, ⟨fun z => absurd z c1, fun _ z => absurd z c2, fun _ z => absurd z c2, fun _ z => absurd z c2, fun _ _ _ => v81, fun _ _ _ z => absurd z c, fun _ _ z => absurd z c3⟩, rfl⟩
end
