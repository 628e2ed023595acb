theorem pl_rng (x : Int64) : -9223372036854775808 ≤ x.toInt ∧ x.toInt < 9223372036854775808 := ⟨by have := Int64.le_toInt x; omega, by have := Int64.toInt_lt x; omega⟩
theorem pl_lt {x y : Int64} : x < y ↔ x.toInt < y.toInt := Int64.lt_iff_toInt_lt
theorem pl_le {x y : Int64} : x ≤ y ↔ x.toInt ≤ y.toInt := Int64.le_iff_toInt_le
theorem pl_i {x : Int32} : x.toInt64.toInt = x.toInt := Int32.toInt_toInt64 x
theorem pl_add {x y : Int64} (h1 : -9223372036854775808 ≤ x.toInt + y.toInt) (h2 : x.toInt + y.toInt < 9223372036854775808) : (x + y).toInt = x.toInt + y.toInt := by
  rw [Int64.toInt_add]
  exact Int.bmod_eq_of_le (by omega) (by omega)
theorem pl_sub {x y : Int64} (h1 : -9223372036854775808 ≤ x.toInt - y.toInt) (h2 : x.toInt - y.toInt < 9223372036854775808) : (x - y).toInt = x.toInt - y.toInt := by
  rw [Int64.toInt_sub]
  exact Int.bmod_eq_of_le (by omega) (by omega)
theorem pl_n {x : Int64} (h1 : -2147483648 ≤ x.toInt) (h2 : x.toInt < 2147483648) : x.toInt32.toInt = x.toInt := by
  rw [Int64.toInt_toInt32]
  exact Int.bmod_eq_of_le (by omega) (by omega)
-- the reference's regions
abbrev rr_rg (ma ms mf mb : Nat → Int32) (k : Nat) : cd_Reg := (ma k, ms k, mf k, fun j => mb (1024 * k + j))
def rg_sm (r r' : cd_Reg) : Prop := r.1 = r'.1 ∧ r.2.1 = r'.2.1 ∧ r.2.2.1 = r'.2.2.1 ∧ ∀ j, j < 1024 → r.2.2.2 j = r'.2.2.2 j
theorem rg_sm_ok {r r' : cd_Reg} (h : rg_sm r r') (ho : rg_ok r) : rg_ok r' := by
  obtain ⟨h1, h2, h3, -⟩ := h
  unfold rg_ok at ho ⊢
  rw [h1, h2, h3] at ho
  exact ho
theorem rg_sm_in {r r' : cd_Reg} (h : rg_sm r r') (k : Int) : rg_in r k ↔ rg_in r' k := by
  unfold rg_in
  rw [h.1, h.2.1]
def rm_ok (ma ms mf mb mr : Nat → Int32) (o n : Nat) : Prop := o < 3 ∧ n ≤ 6 ∧ mr o = nI n ∧ ∀ i, i < n → rg_ok (rr_rg ma ms mf mb (6 * o + i))
theorem pu_withinL {u : cd_Mo} {ma ms mf mb mr : Nat → Int32} {o n : Nat} (h : rm_ok ma ms mf mb mr o n) (a : Int64) (ha : -9223372036854775808 ≤ a.toInt) : ∀ (g x : Nat), x ≤ n → n - x < g → (∀ i, i < x → ¬ rg_in (rr_rg ma ms mf mb (6 * o + i)) a.toInt) → o_Mo_within_L6 u ma ms mr (nI o) a g (nI (6 * o + x)) ∧ ((f_Mo_within_L6 u ma ms mr (nI o) a g (nI (6 * o + x)) = -1 ∧ ∀ i, i < n → ¬ rg_in (rr_rg ma ms mf mb (6 * o + i)) a.toInt) ∨ ∃ i, i < n ∧ f_Mo_within_L6 u ma ms mr (nI o) a g (nI (6 * o + x)) = nI (6 * o + i) ∧ rg_in (rr_rg ma ms mf mb (6 * o + i)) a.toInt) := by
  obtain ⟨ho, hn, hc, hok⟩ := h
  intro g
  induction g with
  | zero => intro x _ h2 _; omega
  | succ g ih =>
    intro x hx hg hb
    have hcl : (nI (6 * o + x)).toNatClampNeg = 6 * o + x := nI_clamp (by omega)
    have hco : (nI o).toNatClampNeg = o := nI_clamp (by omega)
    have e6 : (6 : Int32) * nI o + nI n = nI (6 * o + n) := by rw [show (6 : Int32) = nI 6 from rfl, pk_mul, nI_add]
    unfold f_Mo_within_L6 o_Mo_within_L6
    rw [hco, hc, hcl, e6]
    have v3 : vp_in (nI o) 3 := vp_in_nI ho (by omega)
    by_cases c1 : nI (6 * o + n) ≤ nI (6 * o + x)
    · have hxn : x = n := by have := (nI_leI (by omega) (by omega)).mp c1; omega
      subst hxn
      rw [if_pos c1]
      exact ⟨⟨v3, fun z => absurd c1 z, fun z => absurd c1 z, fun z => absurd c1 z, fun z => absurd c1 z, fun z => absurd c1 z⟩, Or.inl ⟨rfl, hb⟩⟩
    · have hxn : x < n := by
        have : ¬ 6 * o + n ≤ 6 * o + x := fun z => c1 ((nI_leI (by omega) (by omega)).mpr z)
        omega
      rw [if_neg c1]
      obtain ⟨k1, k2, k3, k4, k5, k6, k7, k8⟩ := hok x hxn
      have v18 : vp_in (nI (6 * o + x)) 18 := vp_in_nI (by omega) (by omega)
      have hnext : ¬ rg_in (rr_rg ma ms mf mb (6 * o + x)) a.toInt → _ := fun hnot => ih (x + 1) (by omega) (by omega) (fun i hi => by
          by_cases e : i = x
          · subst e; exact hnot
          · exact hb i (by omega))
      have ee : nI (6 * o + x) + 1 = nI (6 * o + (x + 1)) := by rw [nI_1]; rfl
      rw [ee]
      dsimp only [rr_rg] at k1 k3 k4 k6
      have esum : ((ma (6 * o + x)).toInt64 + (ms (6 * o + x)).toInt64).toInt = (ma (6 * o + x)).toInt + (ms (6 * o + x)).toInt := by
        rw [pl_add (by rw [pl_i, pl_i]; omega) (by rw [pl_i, pl_i]; omega), pl_i, pl_i]
      by_cases c2 : a < (ma (6 * o + x)).toInt64
      · rw [if_pos c2]
        have hnot : ¬ rg_in (rr_rg ma ms mf mb (6 * o + x)) a.toInt := by
          rw [pl_lt, pl_i] at c2
          intro z
          have := z.1
          dsimp only [rr_rg] at this
          omega
        obtain ⟨i1, i2⟩ := hnext hnot
        exact ⟨⟨v3, fun _ => v18, fun _ _ => i1, fun _ z => absurd c2 z, fun _ z => absurd c2 z, fun _ z => absurd c2 z⟩, i2⟩
      · rw [if_neg c2]
        by_cases c3 : (ma (6 * o + x)).toInt64 + (ms (6 * o + x)).toInt64 ≤ a
        · rw [if_pos c3]
          have hnot : ¬ rg_in (rr_rg ma ms mf mb (6 * o + x)) a.toInt := by
            rw [pl_le, esum] at c3
            intro z
            have := z.2
            dsimp only [rr_rg] at this
            omega
          obtain ⟨i1, i2⟩ := hnext hnot
          exact ⟨⟨v3, fun _ => v18, fun _ z => absurd z c2, fun _ _ => v18, fun _ _ => v18, fun _ _ _ => i1⟩, i2⟩
        · rw [if_neg c3]
          refine ⟨⟨v3, fun _ => v18, fun _ z => absurd z c2, fun _ _ => v18, fun _ _ => v18, fun _ _ z => absurd z c3⟩, Or.inr ⟨x, hxn, rfl, ?_⟩⟩
          rw [pl_lt, pl_i] at c2
          rw [pl_le, esum] at c3
          unfold rg_in
          dsimp only [rr_rg]
          omega
theorem pu_within {u : cd_Mo} {ma ms mf mb mr : Nat → Int32} {o n : Nat} (h : rm_ok ma ms mf mb mr o n) (a : Int64) : o_Mo_within u ma ms mr (nI o) a ∧ ((f_Mo_within u ma ms mr (nI o) a = -1 ∧ ∀ i, i < n → ¬ rg_in (rr_rg ma ms mf mb (6 * o + i)) a.toInt) ∨ ∃ i, i < n ∧ f_Mo_within u ma ms mr (nI o) a = nI (6 * o + i) ∧ rg_in (rr_rg ma ms mf mb (6 * o + i)) a.toInt) := by
  have e6 : (6 : Int32) * nI o = nI (6 * o + 0) := by rw [show (6 : Int32) = nI 6 from rfl, pk_mul]; rfl
  unfold o_Mo_within f_Mo_within
  rw [e6]
  exact pu_withinL (u := u) h a (pl_rng a).1 7 0 (Nat.zero_le _) (by have := h.2.1; omega) (fun i hi => by omega)
