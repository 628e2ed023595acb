-- numbers: Int32 by toInt
theorem pu_rng (x : Int32) : -2147483648 ≤ x.toInt ∧ x.toInt < 2147483648 := ⟨by have := Int32.le_toInt x; omega, by have := Int32.toInt_lt x; omega⟩
theorem pu_lt {x y : Int32} : x < y ↔ x.toInt < y.toInt := Int32.lt_iff_toInt_lt
theorem pu_le {x y : Int32} : x ≤ y ↔ x.toInt ≤ y.toInt := Int32.le_iff_toInt_le
theorem pu_eq {x y : Int32} : x = y ↔ x.toInt = y.toInt := Int32.toInt_inj.symm
theorem pu_add {x y : Int32} (h1 : -2147483648 ≤ x.toInt + y.toInt) (h2 : x.toInt + y.toInt < 2147483648) : (x + y).toInt = x.toInt + y.toInt := by
  rw [Int32.toInt_add]
  exact Int.bmod_eq_of_le (by omega) (by omega)
theorem pu_sub {x y : Int32} (h1 : -2147483648 ≤ x.toInt - y.toInt) (h2 : x.toInt - y.toInt < 2147483648) : (x - y).toInt = x.toInt - y.toInt := by
  rw [Int32.toInt_sub]
  exact Int.bmod_eq_of_le (by omega) (by omega)
theorem pu_cl (x : Int32) : x.toNatClampNeg = x.toInt.toNat := rfl
theorem pu_of {x : Int32} (h : 0 ≤ x.toInt) : ∃ n : Nat, n < 2147483648 ∧ x = nI n ∧ x.toInt = (n : Int) := by
  have hr := pu_rng x
  refine ⟨x.toInt.toNat, by omega, ?_, by omega⟩
  rw [pu_eq, nI_toInt (by omega)]
  omega
theorem pu_rem64 {x : Int32} (h : 0 ≤ x.toInt) : (x - x / 64 * 64).toInt = x.toInt % 64 := by
  obtain ⟨n, h1, h2, h3⟩ := pu_of h
  have h4 : nI n - nI n / nI 64 * nI 64 = nI (n % 64) := pk_rem (by omega) (by omega) (by omega)
  rw [h2]
  rw [show (64 : Int32) = nI 64 from rfl, h4, nI_toInt (by omega), nI_toInt (by omega)]
  omega
-- regions
def rg_in (r : cd_Reg) (k : Int) : Prop := r.1.toInt ≤ k ∧ k < r.1.toInt + r.2.1.toInt
def rg_ok (r : cd_Reg) : Prop := 0 ≤ r.1.toInt ∧ r.1.toInt % 64 = 0 ∧ 64 ≤ r.2.1.toInt ∧ r.2.1.toInt ≤ 1024 ∧ r.2.1.toInt % 64 = 0 ∧ r.1.toInt + r.2.1.toInt ≤ 2147483648 ∧ 0 ≤ r.2.2.1.toInt ∧ r.2.2.1.toInt ≤ 7
theorem pu_has {r : cd_Reg} (h : rg_ok r) (k : Int32) : (f_Reg_has r k = 0 ↔ ¬ rg_in r k.toInt) ∧ (f_Reg_has r k = 1 ↔ rg_in r k.toInt) := by
  obtain ⟨h1, h2, h3, h4, h5, h6, h7, h8⟩ := h
  have hr := pu_rng k
  unfold f_Reg_has rg_in
  by_cases c1 : k < r.1
  · rw [if_pos c1]
    rw [pu_lt] at c1
    exact ⟨⟨fun _ => by omega, fun _ => rfl⟩, ⟨fun h => absurd h (by decide), fun h => by omega⟩⟩
  · rw [if_neg c1]
    rw [pu_lt] at c1
    have e : (k - r.1).toInt = k.toInt - r.1.toInt := pu_sub (by omega) (by omega)
    by_cases c2 : r.2.1 ≤ k - r.1
    · rw [if_pos c2]
      rw [pu_le, e] at c2
      exact ⟨⟨fun _ => by omega, fun _ => rfl⟩, ⟨fun h => absurd h (by decide), fun h => by omega⟩⟩
    · rw [if_neg c2]
      rw [pu_le, e] at c2
      exact ⟨⟨fun h => absurd h (by decide), fun h => absurd (by omega) h⟩, ⟨fun _ => by omega, fun _ => rfl⟩⟩
-- the class's memory
abbrev mm_rg (u : cd_Mem) (i : Nat) : cd_Reg := u.2.2 (u.2.1 i)
def mm_ok (u : cd_Mem) (n : Nat) : Prop := n ≤ 6 ∧ u.1 = nI n ∧ (∀ i, i < 6 → u.2.1 i < 6) ∧ (∀ i j, i < 6 → j < 6 → u.2.1 i = u.2.1 j → i = j) ∧ (∀ i, i < n → rg_ok (mm_rg u i)) ∧ (∀ i j, i < j → j < n → (mm_rg u i).1.toInt + (mm_rg u i).2.1.toInt ≤ (mm_rg u j).1.toInt) ∧ (∀ r, r < 6 → sb_Fit (u.2.2 r).2.2.2)
theorem pu_indexL {u : cd_Mem} {n : Nat} (h : mm_ok u n) (k : Int32) : ∀ (g x : Nat), x ≤ n → n - x < g → (∀ i, i < x → ¬ rg_in (mm_rg u i) k.toInt) → o_Mem_indexOf_L2 u k g (nI x) ∧ ((f_Mem_indexOf_L2 u k g (nI x) = -1 ∧ ∀ i, i < n → ¬ rg_in (mm_rg u i) k.toInt) ∨ ∃ i, i < n ∧ f_Mem_indexOf_L2 u k g (nI x) = nI i ∧ rg_in (mm_rg u i) k.toInt) := by
  obtain ⟨hn, hc, hp, hj, hok, hso, hf⟩ := h
  intro g
  induction g with
  | zero => intro x _ h2 _; omega
  | succ g ih =>
    intro x hx hg hb
    have hcl : (nI x).toNatClampNeg = x := nI_clamp (by omega)
    unfold f_Mem_indexOf_L2 o_Mem_indexOf_L2
    rw [hc, hcl]
    by_cases c1 : nI n ≤ nI x
    · have hxn : x = n := by have := (nI_leI (by omega) (by omega)).mp c1; omega
      subst hxn
      rw [if_pos c1]
      exact ⟨⟨fun z => absurd c1 z, fun z => absurd c1 z⟩, Or.inl ⟨rfl, hb⟩⟩
    · have hxn : x < n := by
        have : ¬ n ≤ x := fun z => c1 ((nI_leI (by omega) (by omega)).mpr z)
        omega
      rw [if_neg c1]
      have hh := pu_has (hok x hxn) k
      by_cases c2 : f_Reg_has (u.2.2 (u.2.1 x)) k = 0
      · rw [if_pos c2]
        have hnot := hh.1.mp c2
        obtain ⟨i1, i2⟩ := ih (x + 1) (by omega) (by omega) (fun i hi => by
          by_cases e : i = x
          · subst e; exact hnot
          · exact hb i (by omega))
        rw [nI_1]
        exact ⟨⟨fun _ => vp_in_nI (by omega) (by omega), fun _ _ => i1⟩, i2⟩
      · rw [if_neg c2]
        refine ⟨⟨fun _ => vp_in_nI (by omega) (by omega), fun _ z => absurd z c2⟩, Or.inr ⟨x, hxn, rfl, ?_⟩⟩
        exact Classical.byContradiction fun z => c2 (hh.1.mpr z)
theorem pu_index {u : cd_Mem} {n : Nat} (h : mm_ok u n) (k : Int32) : o_Mem_indexOf u k ∧ ((f_Mem_indexOf u k = -1 ∧ ∀ i, i < n → ¬ rg_in (mm_rg u i) k.toInt) ∨ ∃ i, i < n ∧ f_Mem_indexOf u k = nI i ∧ rg_in (mm_rg u i) k.toInt) := by
  have := pu_indexL h k 7 0 (Nat.zero_le _) (by have := h.1; omega) (fun i hi => by omega)
  exact this
