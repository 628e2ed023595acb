/-- a region added on both sides -/
theorem mr_add {u u' : cd_Mem} {ma ms mf mb mr ma' ms' mf' mb' mr' : Nat → Int32} {o n : Nat} (h : mr_rel u ma ms mf mb mr o n) {k x y : Int32} (hi : mm_ins u u' n k x y) (g1 : ma' (6 * o + n) = k) (g2 : ms' (6 * o + n) = x) (g3 : mf' (6 * o + n) = y) (g4 : ∀ j, j < 1024 → mb' (1024 * (6 * o + n) + j) = 0) (g5 : ∀ i, i < n → ma' (6 * o + i) = ma (6 * o + i) ∧ ms' (6 * o + i) = ms (6 * o + i) ∧ mf' (6 * o + i) = mf (6 * o + i)) (g6 : ∀ z, 6144 * o ≤ z → z < 1024 * (6 * o + n) → mb' z = mb z) (g7 : mr' o = nI (n + 1)) : mr_rel u' ma' ms' mf' mb' mr' o (n + 1) := by
  obtain ⟨hm, ho, hr, si, ta, s1, s2, s3⟩ := h
  obtain ⟨hok, p, hp, q1, ⟨f, q2, q3⟩, q4⟩ := hi
  have old : ∀ i, i < n → ∀ r, rg_sm r (rr_rg ma ms mf mb (6 * o + i)) → rg_sm r (rr_rg ma' ms' mf' mb' (6 * o + i)) := by
    intro i hi r hr
    obtain ⟨a1, a2, a3, a4⟩ := hr
    obtain ⟨b1, b2, b3⟩ := g5 i hi
    exact ⟨a1.trans b1.symm, a2.trans b2.symm, a3.trans b3.symm, fun j hj => (a4 j hj).trans (g6 _ (by omega) (by omega)).symm⟩
  refine ⟨hok, ho, g7, (fun j => if j = p then n else if j < p then si j else si (j - 1)), (fun i => if i = n then p else if ta i < p then ta i else ta i + 1), fun j hj => ?_, fun i hi => ?_, fun j hj => ?_⟩
  · dsimp only
    by_cases e : j = p
    · rw [if_pos e, if_pos rfl]
      exact ⟨by omega, e.symm⟩
    · rw [if_neg e]
      by_cases e2 : j < p
      · obtain ⟨t1, t2⟩ := s1 j (by omega)
        rw [if_pos e2, if_neg (by omega), t2, if_pos e2]
        exact ⟨by omega, rfl⟩
      · obtain ⟨t1, t2⟩ := s1 (j - 1) (by omega)
        rw [if_neg e2, if_neg (by omega), t2, if_neg (by omega)]
        exact ⟨by omega, by omega⟩
  · dsimp only
    by_cases e : i = n
    · rw [if_pos e, if_pos rfl]
      exact ⟨by omega, e.symm⟩
    · obtain ⟨t1, t2⟩ := s2 i (by omega)
      rw [if_neg e]
      by_cases e2 : ta i < p
      · rw [if_pos e2, if_neg (by omega), if_pos e2]
        exact ⟨by omega, t2⟩
      · rw [if_neg e2, if_neg (by omega), if_neg (by omega)]
        exact ⟨by omega, t2⟩
  · dsimp only
    by_cases e : j = p
    · rw [if_pos e, e, q2]
      exact ⟨g1.symm, g2.symm, g3.symm, fun z hz => (q3 z hz).trans (g4 z hz).symm⟩
    · rw [if_neg e]
      by_cases e2 : j < p
      · rw [if_pos e2, q1 j e2]
        exact old _ (s1 j (by omega)).1 _ (s3 j (by omega))
      · rw [if_neg e2, q4 j (by omega) (by omega)]
        exact old _ (s1 (j - 1) (by omega)).1 _ (s3 (j - 1) (by omega))
theorem mr_in {u : cd_Mem} {ma ms mf mb mr : Nat → Int32} {o n : Nat} (h : mr_rel u ma ms mf mb mr o n) (a : Int) : (∃ i, i < n ∧ rg_in (rr_rg ma ms mf mb (6 * o + i)) a) ↔ ∃ i, i < n ∧ rg_in (mm_rg u i) a := by
  obtain ⟨hm, ho, hr, si, ta, s1, s2, s3⟩ := h
  constructor
  · rintro ⟨i, hi, h⟩
    obtain ⟨t1, t2⟩ := s2 i hi
    have h4 := s3 (ta i) t1
    rw [t2] at h4
    exact ⟨ta i, t1, (rg_sm_in h4 a).mpr h⟩
  · rintro ⟨i, hi, h⟩
    exact ⟨si i, (s1 i hi).1, (rg_sm_in (s3 i hi) a).mp h⟩
theorem pu_map138 {S : cd_Mo × cd_Ia × cd_Ia × cd_Ia × cd_By × cd_Ia} {k0 k1 k2 : Int32} {n : Nat} (hn : n < 6) : ∀ (g x : Nat) (S' : cd_Mo × cd_Ia × cd_Ia × cd_Ia × cd_By × cd_Ia), S'.2.2.2.2.2 0 = nI n → x ≤ 1024 → 1024 - x < g → (∀ j, j < x → S'.2.2.2.2.1 (1024 * n + j) = 0) → o_Mo_map_L138 S k0 k1 k2 g (nI n) (nI x) S' ∧ ∃ mb, f_Mo_map_L138 S k0 k1 k2 g (nI n) (nI x) S' = (1, S'.1, S'.2.1, S'.2.2.1, S'.2.2.2.1, mb, upd S'.2.2.2.2.2 0 (nI (n + 1))) ∧ (∀ j, j < 1024 → mb (1024 * n + j) = 0) ∧ ∀ z, (z < 1024 * n ∨ 1024 * n + 1024 ≤ z) → mb z = S'.2.2.2.2.1 z := by
  intro g
  induction g with
  | zero => intro x S' _ _ h; omega
  | succ g ih =>
    intro x S' h1 hx hg hb
    have e6 : (1024 : Int32) * nI n + nI x = nI (1024 * n + x) := by rw [show (1024 : Int32) = nI 1024 from rfl, pk_mul, nI_add]
    unfold o_Mo_map_L138 f_Mo_map_L138
    rw [pu_cz, h1, e6, nI_1, nI_1, nI_clamp (by omega)]
    by_cases c : 1024 ≤ x
    · have c1 : (1024 : Int32) ≤ nI x := (nI_leI (a := 1024) (by omega) (by omega)).mpr c
      rw [if_pos c1]
      exact ⟨⟨fun _ => pu_v0, fun _ => pu_v0, fun q => absurd c1 q, fun q => absurd c1 q⟩, _, rfl, fun j hj => hb j (by omega), fun _ _ => rfl⟩
    · have c1 : ¬ (1024 : Int32) ≤ nI x := fun q => c ((nI_leI (a := 1024) (by omega) (by omega)).mp q)
      rw [if_neg c1]
      have e0 : vp_nar .byte (0 : Int32) = 0 := pu_nar (by decide)
      rw [e0]
      obtain ⟨i1, mb, i2, i3, i4⟩ := ih (x + 1) (S'.1, S'.2.1, S'.2.2.1, S'.2.2.2.1, upd S'.2.2.2.2.1 (1024 * n + x) 0, S'.2.2.2.2.2) h1 (by omega) (by omega) (fun j hj => by
        show upd S'.2.2.2.2.1 (1024 * n + x) 0 (1024 * n + j) = 0
        by_cases e : j = x
        · rw [e, pu_upds]
        · rw [pu_updn (by omega)]; exact hb j (by omega))
      refine ⟨⟨fun q => absurd q c1, fun q => absurd q c1, fun _ => vp_in_nI (by omega) (by omega), fun _ => i1⟩, mb, i2, i3, fun z hz => ?_⟩
      rw [i4 z hz]
      show upd S'.2.2.2.2.1 (1024 * n + x) 0 z = S'.2.2.2.2.1 z
      rw [pu_updn (by omega)]
theorem pu_map68 {u : cd_Mem} {S S' : cd_Mo × cd_Ia × cd_Ia × cd_Ia × cd_By × cd_Ia} {k0 k2 : Int32} {n m : Nat} (h : mr_rel u S'.2.1 S'.2.2.1 S'.2.2.2.1 S'.2.2.2.2.1 S'.2.2.2.2.2 0 n) (hn : n < 6) (hm : m ≤ 16) (hk : 0 ≤ k0.toInt) (O : o_Mo_map_L138 S k0 (nI m) k2 1025 (nI n) 0 (S'.1, upd S'.2.1 n k0, upd S'.2.2.1 n (64 * nI m), upd S'.2.2.2.1 n k2, S'.2.2.2.2.1, S'.2.2.2.2.2)) : ∀ (g x : Nat), x ≤ m → m - x < g → (∀ x', x' < x → ∀ i, i < n → ¬ rg_in (mm_rg u i) (k0.toInt + 64 * (x' : Int))) → o_Mo_map_L68 S k0 (nI m) k2 g (nI x) S' ∧ ((f_Mo_map_L68 S k0 (nI m) k2 g (nI x) S' = (0, S') ∧ ∃ x', x' < m ∧ ∃ i, i < n ∧ rg_in (mm_rg u i) (k0.toInt + 64 * (x' : Int))) ∨ (f_Mo_map_L68 S k0 (nI m) k2 g (nI x) S' = f_Mo_map_L138 S k0 (nI m) k2 1025 (nI n) 0 (S'.1, upd S'.2.1 n k0, upd S'.2.2.1 n (64 * nI m), upd S'.2.2.2.1 n k2, S'.2.2.2.2.1, S'.2.2.2.2.2) ∧ ∀ x', x' < m → ∀ i, i < n → ¬ rg_in (mm_rg u i) (k0.toInt + 64 * (x' : Int)))) := by
  have hr0 : S'.2.2.2.2.2 0 = nI n := h.2.2.1
  intro g
  induction g with
  | zero => intro x _ h; omega
  | succ g ih =>
    intro x hx hg hb
    unfold o_Mo_map_L68 f_Mo_map_L68
    rw [pu_cz, hr0, nI_clamp (by omega), nI_1]
    by_cases c : m ≤ x
    · have c1 : nI m ≤ nI x := (nI_leI (by omega) (by omega)).mpr c
      have ex : x = m := by omega
      subst ex
      rw [if_pos c1]
      have v18 : vp_in (nI n) 18 := vp_in_nI (by omega) (by omega)
      exact ⟨⟨fun _ => pu_v0, fun _ => v18, fun _ => v18, fun _ => v18, fun _ => O, fun q => absurd c1 q, fun q => absurd c1 q⟩, Or.inr ⟨rfl, hb⟩⟩
    · have c1 : ¬ nI m ≤ nI x := fun q => c ((nI_leI (by omega) (by omega)).mp q)
      rw [if_neg c1]
      have e64 : (64 : Int32) * nI x = nI (64 * x) := by rw [show (64 : Int32) = nI 64 from rfl, pk_mul]
      have hr := pu_rng k0
      have ea : (k0.toInt64 + ((64 : Int32) * nI x).toInt64).toInt = k0.toInt + 64 * (x : Int) := by
        rw [e64, pl_add (by rw [pl_i, pl_i, nI_toInt (by omega)]; omega) (by rw [pl_i, pl_i, nI_toInt (by omega)]; omega), pl_i, pl_i, nI_toInt (by omega)]
        omega
      obtain ⟨w1, w2⟩ := pu_within (u := S'.1) (mr_rm h) (k0.toInt64 + ((64 : Int32) * nI x).toInt64)
      rw [show nI 0 = (0 : Int32) from rfl, ea] at w2
      rw [show nI 0 = (0 : Int32) from rfl] at w1
      rcases w2 with ⟨w2, w3⟩ | ⟨i, hi, w2, w3⟩
      · rw [if_pos w2]
        obtain ⟨i1, i2⟩ := ih (x + 1) (by omega) (by omega) (fun x' hx' i hi => by
          by_cases e : x' = x
          · rw [e]
            intro q
            obtain ⟨i', hi', q'⟩ := (mr_in h _).mpr ⟨i, hi, q⟩
            exact w3 i' hi' q'
          · exact hb x' (by omega) i hi)
        exact ⟨⟨fun q => absurd q c1, fun q => absurd q c1, fun q => absurd q c1, fun q => absurd q c1, fun q => absurd q c1, fun _ => w1, fun _ _ => i1⟩, i2⟩
      · have d : ¬ f_Mo_within S'.1 S'.2.1 S'.2.2.1 S'.2.2.2.2.2 0 (k0.toInt64 + ((64 : Int32) * nI x).toInt64) = -1 := by
          rw [w2]
          exact pu_m1 (by omega)
        rw [if_neg d]
        exact ⟨⟨fun q => absurd q c1, fun q => absurd q c1, fun q => absurd q c1, fun q => absurd q c1, fun q => absurd q c1, fun _ => w1, fun _ q => absurd q d⟩, Or.inl ⟨rfl, x, by omega, (mr_in h _).mp ⟨i, hi, w3⟩⟩⟩
def mp_ok (k x y : Int32) (n : Nat) : Prop := 0 ≤ k.toInt ∧ k.toInt % 64 = 0 ∧ 1 ≤ x.toInt ∧ x.toInt ≤ 16 ∧ 0 ≤ y.toInt ∧ y.toInt ≤ 7 ∧ n < 6 ∧ k.toInt + 64 * x.toInt ≤ 2147483648
theorem pu_map_no {um : cd_Mem} {n : Nat} (u : cd_Has) (hm : mm_ok um n) {k x y : Int32} (h : ¬ mp_ok k x y n) : o_Desk_map u um k x y ∧ f_Desk_map u um k x y = (0, um) := by
  have z0 : (0 : Int32).toInt = 0 := by decide
  have z1 : (1 : Int32).toInt = 1 := by decide
  have z7 : (7 : Int32).toInt = 7 := by decide
  have z16 : (16 : Int32).toInt = 16 := by decide
  have z64 : (64 : Int32).toInt = 64 := by decide
  have z3 : (1024 : Int32).toInt = 1024 := by decide
  have z4 : (2147483647 : Int32).toInt = 2147483647 := nI_toInt (n := 2147483647) (by omega)
  have hn := hm.1
  have hr := pu_rng k
  unfold o_Desk_map f_Desk_map
  by_cases c1 : x < 1
  · rw [if_pos c1]
    exact ⟨fun q => absurd c1 q, rfl⟩
  · rw [if_neg c1]
    by_cases c2 : x ≤ 16
    · rw [if_pos c2]
      rw [pu_lt] at c1
      rw [pu_le] at c2
      have ex : (x * 64).toInt = 64 * x.toInt := by
        rw [Int32.toInt_mul, z64]
        rw [Int.bmod_eq_of_le (by omega) (by omega)]
        omega
      suffices hs : (6 : Int32) ≤ um.1 ∨ f_Mem_isSpan k (x * 64) = 0 ∨ y < 0 ∨ ¬ y ≤ 7 by
        unfold o_Mem_addRegion f_Mem_addRegion
        rcases hs with hs | hs | hs | hs
        · rw [if_pos hs]
          exact ⟨fun _ _ q => absurd hs q, rfl⟩
        · rw [hs, if_pos rfl]
          refine ⟨fun _ _ _ q => absurd rfl q, ?_⟩
          split <;> rfl
        · rw [if_pos hs]
          refine ⟨fun _ _ _ _ q => absurd hs q, ?_⟩
          split
          · rfl
          · split <;> rfl
        · rw [if_neg hs]
          refine ⟨fun _ _ _ _ _ q => absurd q hs, ?_⟩
          split
          · rfl
          · split
            · rfl
            · split <;> rfl
      by_cases d1 : (6 : Int32) ≤ um.1
      · exact Or.inl d1
      · refine Or.inr ?_
        rw [hm.2.1] at d1
        have d1' : n < 6 := by
          have : ¬ 6 ≤ n := fun q => d1 ((nI_leI (a := 6) (by omega) (by omega)).mpr q)
          omega
        by_cases d2 : y < 0
        · exact Or.inr (Or.inl d2)
        · by_cases d3 : y ≤ 7
          · refine Or.inl ?_
            rw [pu_lt] at d2
            rw [pu_le] at d3
            unfold f_Mem_isSpan
            by_cases s1 : k < 0
            · rw [if_pos s1]
            · rw [if_neg s1]
              rw [pu_lt] at s1
              by_cases s2 : k - k / 64 * 64 = 0
              · rw [if_pos s2]
                rw [pu_eq, pu_rem64 (by omega)] at s2
                have e1 : (x * 64 - 1).toInt = 64 * x.toInt - 1 := by rw [pu_sub (by omega) (by omega), z1, ex]
                have e2 : ((2147483647 : Int32) - (x * 64 - 1)).toInt = 2147483648 - 64 * x.toInt := by rw [pu_sub (by omega) (by omega), z4, e1]; omega
                have s3 : (2147483647 : Int32) - (x * 64 - 1) < k := by
                  rw [pu_lt, e2]
                  unfold mp_ok at h
                  omega
                rw [if_pos s3]
                split
                · rfl
                · split
                  · rfl
                  · split <;> rfl
              · rw [if_neg s2]
          · exact Or.inr (Or.inr d3)
    · rw [if_neg c2]
      exact ⟨fun _ q => absurd q c2, rfl⟩
theorem pu_mmap_no {S : cd_Mo × cd_Ia × cd_Ia × cd_Ia × cd_By × cd_Ia} {n : Nat} (hn : n ≤ 6) (hr0 : S.2.2.2.2.2 0 = nI n) {k x y : Int32} (h : ¬ mp_ok k x y n) : o_Mo_map S k x y ∧ f_Mo_map S k x y = (0, mo_z S.1, S.2) := by
  have z0 : (0 : Int32).toInt = 0 := by decide
  have z1 : (1 : Int32).toInt = 1 := by decide
  have z7 : (7 : Int32).toInt = 7 := by decide
  have z16 : (16 : Int32).toInt = 16 := by decide
  have hr := pu_rng k
  unfold o_Mo_map f_Mo_map
  rw [pu_cz, hr0]
  have key : ¬ k < 0 → k - k / 64 * 64 = 0 → ¬ x < 1 → ¬ (16 : Int32) < x → ¬ y < 0 → ¬ (7 : Int32) < y → ¬ nI n = (6 : Int32) → ¬ k.toInt64 + ((64 : Int32) * x).toInt64 ≤ (2147483648 : Int64) := by
    intro c1 c2 c3 c4 c5 c6 c7 c8
    rw [pu_lt] at c1 c3 c4 c5 c6
    rw [pu_eq, pu_rem64 (by omega)] at c2
    have c7' : n < 6 := by
      have : ¬ n = 6 := fun q => c7 (by rw [q]; rfl)
      omega
    obtain ⟨m, hm, ex, -⟩ := pu_of (x := x) (by omega)
    rw [ex, nI_toInt (by omega)] at c3 c4
    have e64 : (64 : Int32) * nI m = nI (64 * m) := by rw [show (64 : Int32) = nI 64 from rfl, pk_mul]
    have ea : (k.toInt64 + ((64 : Int32) * x).toInt64).toInt = k.toInt + 64 * (m : Int) := by
      rw [ex, e64, pl_add (by rw [pl_i, pl_i, nI_toInt (by omega)]; omega) (by rw [pl_i, pl_i, nI_toInt (by omega)]; omega), pl_i, pl_i, nI_toInt (by omega)]
      omega
    rw [pl_le, ea] at c8
    have z9 : (2147483648 : Int64).toInt = 2147483648 := by decide
    rw [z9] at c8
    apply h
    unfold mp_ok
    rw [ex, nI_toInt (by omega)]
    omega
  refine ⟨⟨fun _ _ _ _ _ _ => pu_v0, fun c1 c2 c3 c4 c5 c6 c7 c8 => absurd c8 (key c1 c2 c3 c4 c5 c6 c7)⟩, ?_⟩
  by_cases c1 : k < 0
  · rw [if_pos c1]
  · rw [if_neg c1]
    by_cases c2 : k - k / 64 * 64 = 0
    · rw [if_pos c2]
      by_cases c3 : x < 1
      · rw [if_pos c3]
      · rw [if_neg c3]
        by_cases c4 : (16 : Int32) < x
        · rw [if_pos c4]
        · rw [if_neg c4]
          by_cases c5 : y < 0
          · rw [if_pos c5]
          · rw [if_neg c5]
            by_cases c6 : (7 : Int32) < y
            · rw [if_pos c6]
            · rw [if_neg c6]
              by_cases c7 : nI n = (6 : Int32)
              · rw [if_pos c7]
              · rw [if_neg c7, if_neg (key c1 c2 c3 c4 c5 c6 c7)]
    · rw [if_neg c2]
/-- map on both sides -/
theorem e_map (u : cd_Has) {um : cd_Mem} {S : cd_Mo × cd_Ia × cd_Ia × cd_Ia × cd_By × cd_Ia} {n : Nat} (h : mr_rel um S.2.1 S.2.2.1 S.2.2.2.1 S.2.2.2.2.1 S.2.2.2.2.2 0 n) (k x y : Int32) : o_Desk_map u um k x y ∧ o_Mo_map S k x y ∧ (f_Desk_map u um k x y).1 = (f_Mo_map S k x y).1 ∧ ∃ v ma ms mf mb mr n', (f_Mo_map S k x y).2 = (mo_z S.1, ma, ms, mf, mb, mr) ∧ v = (f_Desk_map u um k x y).2 ∧ mr_rel v ma ms mf mb mr 0 n' ∧ (∀ i, 6 ≤ i → ma i = S.2.1 i ∧ ms i = S.2.2.1 i ∧ mf i = S.2.2.2.1 i) ∧ (∀ i, 6144 ≤ i → mb i = S.2.2.2.2.1 i) ∧ ∀ i, 1 ≤ i → mr i = S.2.2.2.2.2 i := by
  have hm := h.1
  have hn := hm.1
  have hr0 : S.2.2.2.2.2 0 = nI n := h.2.2.1
  by_cases g : mp_ok k x y n
  · obtain ⟨g1, g2, g3, g4, g5, g6, g7, g8⟩ := g
    obtain ⟨m, hm2, rfl, -⟩ := pu_of (x := x) (by omega)
    rw [nI_toInt (by omega)] at g3 g4 g8
    have e64 : (64 : Int32) * nI m = nI (64 * m) := by rw [show (64 : Int32) = nI 64 from rfl, pk_mul]
    have e64' : nI m * (64 : Int32) = nI (64 * m) := by rw [show (64 : Int32) = nI 64 from rfl, pk_mul, Nat.mul_comm]
    have hok : rg_ok (k, nI (64 * m), y, fun _ => 0) := by
      unfold rg_ok
      dsimp only
      rw [nI_toInt (by omega)]
      omega
    obtain ⟨p1, p2⟩ := mm_add hm g7 hok
    obtain ⟨r1, mb, r2, r3, r4⟩ := pu_map138 (S := S) (k0 := k) (k1 := nI m) (k2 := y) g7 1025 0 (mo_z S.1, upd S.2.1 n k, upd S.2.2.1 n (64 * nI m), upd S.2.2.2.1 n y, S.2.2.2.2.1, S.2.2.2.2.2) hr0 (by omega) (by omega) (fun j hj => by omega)
    obtain ⟨t1, t2⟩ := pu_map68 (u := um) (S := S) (S' := (mo_z S.1, S.2)) (k0 := k) (k2 := y) (n := n) (m := m) h g7 (by omega) g1 r1 17 0 (by omega) (by omega) (fun x' hx' => by omega)
    rw [show nI 0 = (0 : Int32) from rfl] at t1 t2 r2 r1
    have z0 : (0 : Int32).toInt = 0 := by decide
    have z1 : (1 : Int32).toInt = 1 := by decide
    have z7 : (7 : Int32).toInt = 7 := by decide
    have z16 : (16 : Int32).toInt = 16 := by decide
    have z9 : (2147483648 : Int64).toInt = 2147483648 := by decide
    have hr := pu_rng k
    have ea : (k.toInt64 + ((64 : Int32) * nI m).toInt64).toInt = k.toInt + 64 * (m : Int) := by
      rw [e64, pl_add (by rw [pl_i, pl_i, nI_toInt (by omega)]; omega) (by rw [pl_i, pl_i, nI_toInt (by omega)]; omega), pl_i, pl_i, nI_toInt (by omega)]
      omega
    have c1 : ¬ k < 0 := by rw [pu_lt]; omega
    have c2 : k - k / 64 * 64 = 0 := by rw [pu_eq, pu_rem64 (by omega)]; omega
    have c3 : ¬ nI m < 1 := by rw [pu_lt, nI_toInt (by omega)]; omega
    have c4 : ¬ (16 : Int32) < nI m := by rw [pu_lt, nI_toInt (by omega)]; omega
    have c4' : nI m ≤ (16 : Int32) := by rw [pu_le, nI_toInt (by omega)]; omega
    have c5 : ¬ y < 0 := by rw [pu_lt]; omega
    have c6 : ¬ (7 : Int32) < y := by rw [pu_lt]; omega
    have c7 : ¬ nI n = (6 : Int32) := fun q => by have := (nI_eq (b := 6) (by omega) (by omega)).mp q; omega
    have c8 : k.toInt64 + ((64 : Int32) * nI m).toInt64 ≤ (2147483648 : Int64) := by rw [pl_le, ea, z9]; omega
    have hit : (∃ j, j < n ∧ rg_hit (mm_rg um j) k.toInt (nI (64 * m)).toInt) ↔ ∃ x', x' < m ∧ ∃ i, i < n ∧ rg_in (mm_rg um i) (k.toInt + 64 * (x' : Int)) := by
      rw [nI_toInt (by omega)]
      constructor
      · rintro ⟨j, hj, q1, q2⟩
        obtain ⟨b1, b2, b3, b4, b5, b6, -⟩ := hm.2.2.2.2.1 j hj
        by_cases c : (mm_rg um j).1.toInt ≤ k.toInt
        · exact ⟨0, by omega, j, hj, by unfold rg_in; omega⟩
        · refine ⟨(((mm_rg um j).1.toInt - k.toInt) / 64).toNat, by omega, j, hj, ?_⟩
          unfold rg_in
          omega
      · rintro ⟨x', hx', j, hj, q1, q2⟩
        exact ⟨j, hj, by unfold rg_hit; omega⟩
    unfold o_Desk_map f_Desk_map o_Mo_map f_Mo_map
    rw [if_neg c3, if_pos c4', if_neg c1, if_pos c2, if_neg c3, if_neg c4, if_neg c5, if_neg c6, pu_cz, hr0, if_neg c7, if_pos c8, e64']
    refine ⟨fun _ _ => p1, ⟨fun _ _ _ _ _ _ => pu_v0, fun _ _ _ _ _ _ _ _ => t1⟩, ?_⟩
    rcases p2 with ⟨p2, p3⟩ | ⟨p2, p3, p4⟩
    · have p5 := hit.mp p3
      rcases t2 with ⟨t2, t3⟩ | ⟨t2, t3⟩
      · rw [p2]
        dsimp only [mo_z] at t2
        rw [t2]
        exact ⟨rfl, _, _, _, _, _, _, n, rfl, rfl, h, fun _ _ => ⟨rfl, rfl, rfl⟩, fun _ _ => rfl, fun _ _ => rfl⟩
      · obtain ⟨x', hx', i, hi, q⟩ := p5
        exact absurd q (t3 x' hx' i hi)
    · rcases t2 with ⟨t2, t3⟩ | ⟨t2, t3⟩
      · obtain ⟨j, hj, q⟩ := hit.mpr t3
        exact absurd q (p4 j hj)
      · dsimp only [mo_z] at t2 r2
        rw [p2, t2, r2]
        refine ⟨rfl, _, _, _, _, _, _, n + 1, rfl, rfl, mr_add h p3 ?_ ?_ ?_ ?_ (fun i hi => ?_) (fun z hz1 hz2 => ?_) ?_, fun i hi => ?_, fun i hi => ?_, fun i hi => ?_⟩
        · rw [show 6 * 0 + n = n by omega]
          exact pu_upds
        · rw [show 6 * 0 + n = n by omega, pu_upds]
          exact e64
        · rw [show 6 * 0 + n = n by omega]
          exact pu_upds
        · intro j hj
          rw [show 6 * 0 + n = n by omega]
          exact r3 j hj
        · exact ⟨pu_updn (by omega), pu_updn (by omega), pu_updn (by omega)⟩
        · exact r4 z (by omega)
        · exact pu_upds
        · exact ⟨pu_updn (by omega), pu_updn (by omega), pu_updn (by omega)⟩
        · exact r4 i (by omega)
        · exact pu_updn (by omega)
  · obtain ⟨a1, a2⟩ := pu_map_no u hm g
    obtain ⟨b1, b2⟩ := pu_mmap_no hn hr0 g
    rw [a2, b2]
    exact ⟨a1, b1, rfl, _, _, _, _, _, _, n, rfl, rfl, h, fun _ _ => ⟨rfl, rfl, rfl⟩, fun _ _ => rfl, fun _ _ => rfl⟩
