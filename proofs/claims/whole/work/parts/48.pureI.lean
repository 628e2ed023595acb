-- a region added
def rg_hit (r : cd_Reg) (k x : Int) : Prop := r.1.toInt < k + x ∧ k < r.1.toInt + r.2.1.toInt
theorem pu_ov {r : cd_Reg} (hr : rg_ok r) {k x y : Int32} {f : Nat → Int32} (h : rg_ok (k, x, y, f)) : (f_Mem_overlap k x r.1 r.2.1 = 0 ∧ ¬ rg_hit r k.toInt x.toInt) ∨ (f_Mem_overlap k x r.1 r.2.1 = 1 ∧ rg_hit r k.toInt x.toInt) := by
  obtain ⟨a1, a2, a3, a4, a5, a6, a7, a8⟩ := hr
  obtain ⟨b1, b2, b3, b4, b5, b6, b7, b8⟩ := h
  dsimp only at b1 b3 b4 b6
  unfold f_Mem_overlap rg_hit
  have z0 : (0 : Int32).toInt = 0 := by decide
  have e1 : (k - r.1).toInt = k.toInt - r.1.toInt := pu_sub (by omega) (by omega)
  have e2 : (r.1 - k).toInt = r.1.toInt - k.toInt := pu_sub (by omega) (by omega)
  have c1 : ¬ x ≤ 0 := by rw [pu_le]; omega
  have c2 : ¬ r.2.1 ≤ 0 := by rw [pu_le]; omega
  rw [if_neg c1, if_neg c2]
  by_cases c3 : r.2.1 ≤ k - r.1
  · rw [if_pos c3]
    rw [pu_le, e1] at c3
    exact Or.inl ⟨rfl, by omega⟩
  · rw [if_neg c3]
    rw [pu_le, e1] at c3
    by_cases c4 : x ≤ r.1 - k
    · rw [if_pos c4]
      rw [pu_le, e2] at c4
      exact Or.inl ⟨rfl, by omega⟩
    · rw [if_neg c4]
      rw [pu_le, e2] at c4
      exact Or.inr ⟨rfl, by omega⟩
theorem pu_fillBL {n : Nat} {f : Nat → Int32} (hn : n ≤ 1024) : ∀ (g x : Nat) (f' : Nat → Int32), x ≤ n → n - x < g → (∀ j, j < x → f' j = 0) → sb_Fit f' → o_Arr_fillB_L5 n f 0 g (nI x) (nI n) f' ∧ (∀ j, j < n → f_Arr_fillB_L5 n f 0 g (nI x) (nI n) f' j = 0) ∧ sb_Fit (f_Arr_fillB_L5 n f 0 g (nI x) (nI n) f') := by
  intro g
  induction g with
  | zero => intro x f' _ h; omega
  | succ g ih =>
    intro x f' hx hg hb hf
    unfold o_Arr_fillB_L5 f_Arr_fillB_L5
    rw [nI_clamp (by omega), nI_1]
    by_cases c : n ≤ x
    · have c1 : nI n ≤ nI x := (nI_leI (by omega) (by omega)).mpr c
      rw [if_pos c1]
      exact ⟨⟨fun z => absurd c1 z, fun z => absurd c1 z⟩, fun j hj => hb j (by omega), hf⟩
    · have c1 : ¬ nI n ≤ nI x := fun z => c ((nI_leI (by omega) (by omega)).mp z)
      rw [if_neg c1]
      have e0 : vp_nar .byte (0 : Int32) = 0 := pu_nar (by decide)
      rw [e0]
      obtain ⟨i1, i2, i3⟩ := ih (x + 1) (upd f' x 0) (by omega) (by omega) (fun j hj => by
        by_cases e : j = x
        · rw [e, pu_upds]
        · rw [pu_updn e]; exact hb j (by omega)) (sb_fitU hf (by decide))
      exact ⟨⟨fun _ => vp_in_nI (by omega) (by omega), fun _ => i1⟩, i2, i3⟩
theorem pu_fillB {f : Nat → Int32} (hf : sb_Fit f) : o_Arr_fillB 1024 f 0 ∧ (∀ j, j < 1024 → f_Arr_fillB 1024 f 0 j = 0) ∧ sb_Fit (f_Arr_fillB 1024 f 0) := pu_fillBL (f := f) (by omega) 1025 0 f (by omega) (by omega) (fun j hj => by omega) hf
/-- where the regions lie after one was put in at z: position j is position rho j of before -/
def mm_rho (z n j : Nat) : Nat := if j = z then n else if z < j ∧ j ≤ n then j - 1 else j
def mm_sh (pi : Nat → Nat) (n i j : Nat) : Nat := if i < j ∧ j ≤ n then pi (j - 1) else pi j
theorem mm_rho_lt {z n j : Nat} (hn : n < 6) (hj : j < 6) : mm_rho z n j < 6 := by
  unfold mm_rho
  split <;> (try split) <;> omega
theorem mm_rho_inj {z n i j : Nat} (hz : z ≤ n) (h : mm_rho z n i = mm_rho z n j) : i = j := by
  unfold mm_rho at h
  split at h <;> split at h <;> (try split at h) <;> (try split at h) <;> omega
theorem mm_addL {u : cd_Mem} {n : Nat} (hn : n < 6) (hc : u.1 = nI n) (hp : ∀ i, i < 6 → u.2.1 i < 6) (hf : ∀ r, r < 6 → sb_Fit (u.2.2 r).2.2.2) (k x y : Int32) {z : Nat} (hz : z ≤ n) : ∀ (g i : Nat), z ≤ i → i ≤ n → i - z < g → o_Mem_addRegion_L117 u k x y g (nI z) (nI i) (u.2.1 n) (u.1, mm_sh u.2.1 n i, u.2.2) ∧ f_Mem_addRegion_L117 u k x y g (nI z) (nI i) (u.2.1 n) (u.1, mm_sh u.2.1 n i, u.2.2) = (1, nI (n + 1), (fun j => u.2.1 (mm_rho z n j)), va_up u.2.2 (u.2.1 n) (f_Reg_begin (u.2.2 (u.2.1 n)) k x y)) := by
  intro g
  induction g with
  | zero => intro i _ _ h; omega
  | succ g ih =>
    intro i h1 h2 h3
    unfold o_Mem_addRegion_L117 f_Mem_addRegion_L117
    by_cases c : i ≤ z
    · have e : i = z := by omega
      subst e
      have c1 : nI i ≤ nI i := (nI_leI (by omega) (by omega)).mpr c
      rw [if_pos c1, hc, nI_1, nI_clamp (by omega)]
      refine ⟨⟨fun _ => vp_in_nI (by omega) (by omega), fun _ => ?_, fun q => absurd c1 q, fun q => absurd c1 q, fun q => absurd c1 q⟩, ?_⟩
      · exact (pu_fillB (hf _ (hp n (by omega)))).1
      · have : va_up (mm_sh u.2.1 n i) i (u.2.1 n) = fun j => u.2.1 (mm_rho i n j) := by
          funext j
          by_cases e : j = i
          · rw [e, cd_up_s]
            unfold mm_rho
            rw [if_pos rfl]
          · rw [cd_up_n j e]
            unfold mm_rho mm_sh
            rw [if_neg e]
            split <;> rfl
        dsimp only
        rw [this]
    · have c1 : ¬ nI i ≤ nI z := fun q => c ((nI_leI (by omega) (by omega)).mp q)
      rw [if_neg c1]
      obtain ⟨i', rfl⟩ : ∃ i', i = i' + 1 := ⟨i - 1, by omega⟩
      have em : nI (i' + 1) + (-1 : Int32) = nI i' := by
        rw [← nI_1]
        rw [pu_eq]
        simp only [Int32.toInt_add]
        simp [Int.add_assoc]
      rw [em, nI_pred, nI_clamp (by omega), nI_clamp (by omega)]
      have es : va_up (mm_sh u.2.1 n (i' + 1)) (i' + 1) (mm_sh u.2.1 n (i' + 1) i') = mm_sh u.2.1 n i' := by
        funext j
        by_cases e : j = i' + 1
        · rw [e, cd_up_s]
          unfold mm_sh
          rw [if_neg (by omega), if_pos (by omega)]
          rfl
        · rw [cd_up_n j e]
          unfold mm_sh
          by_cases q : i' + 1 < j ∧ j ≤ n
          · rw [if_pos q, if_pos (by omega)]
          · rw [if_neg q, if_neg (by omega)]
      dsimp only
      rw [es]
      obtain ⟨j1, j2⟩ := ih i' (by omega) (by omega) (by omega)
      exact ⟨⟨fun q => absurd q c1, fun q => absurd q c1, fun _ => vp_in_nI (by omega) (by omega), fun _ => vp_in_nI (by omega) (by omega), fun _ => j1⟩, j2⟩
theorem mm_add35 {u : cd_Mem} {n : Nat} (h : mm_ok u n) (hn : n < 6) {k x y : Int32} {f : Nat → Int32} (hk : rg_ok (k, x, y, f)) (HO : ∀ p, p ≤ n → o_Mem_addRegion_L117 u k x y 7 (nI p) (nI n) (u.2.1 n) u) : ∀ (g i z : Nat), i ≤ n → n - i < g → z ≤ i → (∀ j, j < i → ¬ rg_hit (mm_rg u j) k.toInt x.toInt ∧ (j < z ↔ (mm_rg u j).1 < k)) → o_Mem_addRegion_L35 u k x y g (nI z) (nI i) ∧ ((f_Mem_addRegion_L35 u k x y g (nI z) (nI i) = (0, u) ∧ ∃ j, j < n ∧ rg_hit (mm_rg u j) k.toInt x.toInt) ∨ ∃ p, p ≤ n ∧ f_Mem_addRegion_L35 u k x y g (nI z) (nI i) = f_Mem_addRegion_L117 u k x y 7 (nI p) (nI n) (u.2.1 n) u ∧ ∀ j, j < n → ¬ rg_hit (mm_rg u j) k.toInt x.toInt ∧ (j < p ↔ (mm_rg u j).1 < k)) := by
  obtain ⟨h1, h2, h3, h4, h5, h6, h7⟩ := h
  intro g
  induction g with
  | zero => intro i z _ h; omega
  | succ g ih =>
    intro i z hi hg hz hb
    unfold o_Mem_addRegion_L35 f_Mem_addRegion_L35
    rw [h2, nI_clamp (by omega), nI_clamp (by omega), nI_1]
    by_cases c : n ≤ i
    · have c1 : nI n ≤ nI i := (nI_leI (by omega) (by omega)).mpr c
      rw [if_pos c1]
      exact ⟨⟨fun _ => vp_in_nI (by omega) (by omega), fun _ => HO z (by omega), fun q => absurd c1 q, fun q => absurd c1 q, fun q => absurd c1 q, fun q => absurd c1 q, fun q => absurd c1 q⟩, Or.inr ⟨z, by omega, rfl, fun j hj => hb j (by omega)⟩⟩
    · have c1 : ¬ nI n ≤ nI i := fun q => c ((nI_leI (by omega) (by omega)).mp q)
      rw [if_neg c1]
      have v6 : vp_in (nI i) 6 := vp_in_nI (by omega) (by omega)
      rcases pu_ov (h5 i (by omega)) hk with ⟨e1, e2⟩ | ⟨e1, e2⟩
      · rw [if_pos e1]
        by_cases c2 : k ≤ (u.2.2 (u.2.1 i)).1
        · rw [if_pos c2]
          obtain ⟨i1, i2⟩ := ih (i + 1) z (by omega) (by omega) (by omega) (fun j hj => by
            by_cases e : j = i
            · rw [e]
              refine ⟨e2, ⟨fun q => by omega, fun q => ?_⟩⟩
              rw [pu_lt] at q
              rw [pu_le] at c2
              dsimp only [mm_rg] at q
              omega
            · exact hb j (by omega))
          exact ⟨⟨fun q => absurd q c1, fun q => absurd q c1, fun _ => v6, fun _ => v6, fun _ _ => v6, fun _ _ _ => i1, fun _ _ q => absurd c2 q⟩, i2⟩
        · rw [if_neg c2]
          have c3 : (mm_rg u i).1 < k := by
            rw [pu_le] at c2
            rw [pu_lt]
            dsimp only [mm_rg]
            omega
          obtain ⟨i1, i2⟩ := ih (i + 1) (i + 1) (by omega) (by omega) (by omega) (fun j hj => by
            by_cases e : j = i
            · rw [e]
              exact ⟨e2, ⟨fun _ => c3, fun _ => by omega⟩⟩
            · refine ⟨(hb j (by omega)).1, ⟨fun _ => ?_, fun _ => by omega⟩⟩
              have := h6 j i (by omega) (by omega)
              have k3 := (h5 j (by omega)).2.2.1
              rw [pu_lt] at c3 ⊢
              omega)
          exact ⟨⟨fun q => absurd q c1, fun q => absurd q c1, fun _ => v6, fun _ => v6, fun _ _ => v6, fun _ _ q => absurd q c2, fun _ _ _ => i1⟩, i2⟩
      · have d : ¬ f_Mem_overlap k x (u.2.2 (u.2.1 i)).1 (u.2.2 (u.2.1 i)).2.1 = 0 := by
          intro q
          have e1' : f_Mem_overlap k x (u.2.2 (u.2.1 i)).1 (u.2.2 (u.2.1 i)).2.1 = 1 := e1
          rw [e1'] at q
          exact absurd q (by decide)
        rw [if_neg d]
        exact ⟨⟨fun q => absurd q c1, fun q => absurd q c1, fun _ => v6, fun _ => v6, fun _ _ => v6, fun _ q => absurd q d, fun _ q => absurd q d⟩, Or.inl ⟨rfl, i, by omega, e2⟩⟩
/-- what a memory is after a region was put in -/
def mm_ins (u u' : cd_Mem) (n : Nat) (k x y : Int32) : Prop := mm_ok u' (n + 1) ∧ ∃ p, p ≤ n ∧ (∀ i, i < p → mm_rg u' i = mm_rg u i) ∧ (∃ f, mm_rg u' p = (k, x, y, f) ∧ ∀ j, j < 1024 → f j = 0) ∧ ∀ i, p < i → i ≤ n → mm_rg u' i = mm_rg u (i - 1)
theorem pu_span {k x y : Int32} {f : Nat → Int32} (hk : rg_ok (k, x, y, f)) : f_Mem_isSpan k x = 1 := by
  obtain ⟨b1, b2, b3, b4, b5, b6, b7, b8⟩ := hk
  dsimp only at b1 b2 b3 b4 b5 b6 b7 b8
  have z0 : (0 : Int32).toInt = 0 := by decide
  have z1 : (1 : Int32).toInt = 1 := by decide
  have z2 : (64 : Int32).toInt = 64 := by decide
  have z3 : (1024 : Int32).toInt = 1024 := by decide
  have z4 : (2147483647 : Int32).toInt = 2147483647 := nI_toInt (n := 2147483647) (by omega)
  unfold f_Mem_isSpan
  have e1 : (x - 1).toInt = x.toInt - 1 := by rw [pu_sub (by omega) (by omega), z1]
  have e2 : ((2147483647 : Int32) - (x - 1)).toInt = 2147483648 - x.toInt := by rw [pu_sub (by omega) (by omega), z4, e1]; omega
  have c1 : ¬ k < 0 := by rw [pu_lt]; omega
  have c2 : k - k / 64 * 64 = 0 := by rw [pu_eq, pu_rem64 (by omega)]; omega
  have c3 : ¬ x < 64 := by rw [pu_lt]; omega
  have c4 : ¬ (1024 : Int32) < x := by rw [pu_lt]; omega
  have c5 : x - x / 64 * 64 = 0 := by rw [pu_eq, pu_rem64 (by omega)]; omega
  have c6 : ¬ (2147483647 : Int32) - (x - 1) < k := by rw [pu_lt, e2]; omega
  rw [if_neg c1, if_pos c2, if_neg c3, if_neg c4, if_pos c5, if_neg c6]
theorem mm_add {u : cd_Mem} {n : Nat} (h : mm_ok u n) (hn : n < 6) {k x y : Int32} {f : Nat → Int32} (hk : rg_ok (k, x, y, f)) : o_Mem_addRegion u k x y ∧ ((f_Mem_addRegion u k x y = (0, u) ∧ ∃ j, j < n ∧ rg_hit (mm_rg u j) k.toInt x.toInt) ∨ ((f_Mem_addRegion u k x y).1 = 1 ∧ mm_ins u (f_Mem_addRegion u k x y).2 n k x y ∧ ∀ j, j < n → ¬ rg_hit (mm_rg u j) k.toInt x.toInt)) := by
  have hs := pu_span hk
  have hk0 := hk
  have hm := h
  obtain ⟨h1, h2, h3, h4, h5, h6, h7⟩ := h
  obtain ⟨b1, b2, b3, b4, b5, b6, b7, b8⟩ := hk
  dsimp only at b1 b2 b3 b4 b5 b6 b7 b8
  have z0 : (0 : Int32).toInt = 0 := by decide
  have z7 : (7 : Int32).toInt = 7 := by decide
  have esh : mm_sh u.2.1 n n = u.2.1 := by
    funext j
    unfold mm_sh
    rw [if_neg (by omega)]
  have HL : ∀ p, p ≤ n → _ := fun p hp => mm_addL (u := u) hn h2 h3 h7 k x y hp 7 n hp (Nat.le_refl _) (by omega)
  rw [esh] at HL
  obtain ⟨o1, o2⟩ := mm_add35 hm hn hk0 (fun p hp => (HL p hp).1) 7 0 0 (by omega) (by omega) (by omega) (fun j hj => by omega)
  rw [show nI 0 = (0 : Int32) from rfl] at o1 o2
  unfold o_Mem_addRegion f_Mem_addRegion
  have c1 : ¬ (6 : Int32) ≤ u.1 := by
    rw [h2]
    exact nI_ge (b := 6) hn (by omega)
  rw [if_neg c1, hs, if_neg (by decide), if_neg (show ¬ y < 0 by rw [pu_lt]; omega), if_pos (show y ≤ 7 by rw [pu_le]; omega)]
  refine ⟨fun _ _ _ _ => o1, ?_⟩
  rcases o2 with o2 | ⟨p, hp, o2, o3⟩
  · exact Or.inl o2
  · refine Or.inr ?_
    rw [o2]
    have e := (HL p hp).2
    rw [show ((u.1, u.2.1, u.2.2) : cd_Mem) = u from rfl] at e
    rw [e]
    refine ⟨rfl, ?_, fun j hj => (o3 j hj).1⟩
    obtain ⟨q1, q2, q3⟩ := pu_fillB (h7 _ (h3 n (by omega)))
    have hrg : ∀ j, j < 6 → mm_rg (nI (n + 1), (fun j => u.2.1 (mm_rho p n j)), va_up u.2.2 (u.2.1 n) (f_Reg_begin (u.2.2 (u.2.1 n)) k x y)) j = if j = p then (k, x, y, f_Arr_fillB 1024 (u.2.2 (u.2.1 n)).2.2.2 0) else mm_rg u (mm_rho p n j) := by
      intro j hj
      show va_up u.2.2 (u.2.1 n) (f_Reg_begin (u.2.2 (u.2.1 n)) k x y) (u.2.1 (mm_rho p n j)) = _
      by_cases e : j = p
      · rw [if_pos e]
        have : mm_rho p n j = n := by unfold mm_rho; rw [if_pos e]
        rw [this, cd_up_s]
        rfl
      · rw [if_neg e, cd_up_n]
        intro q
        have q2 := h4 _ _ (mm_rho_lt hn hj) hn q
        unfold mm_rho at q2
        rw [if_neg e] at q2
        split at q2 <;> omega
    have r1 : ∀ i, i < p → mm_rho p n i = i := fun i hi => by unfold mm_rho; rw [if_neg (by omega), if_neg (by omega)]
    have r2 : ∀ i, p < i → i ≤ n → mm_rho p n i = i - 1 := fun i hi hj => by unfold mm_rho; rw [if_neg (by omega), if_pos (by omega)]
    refine ⟨⟨by omega, rfl, fun i hi => h3 _ (mm_rho_lt hn hi), fun i j hi hj q => mm_rho_inj hp (h4 _ _ (mm_rho_lt hn hi) (mm_rho_lt hn hj) q), fun i hi => ?_, fun i j hi hj => ?_, fun r hr => ?_⟩, p, hp, fun i hi => ?_, ⟨_, ?_, q2⟩, fun i hi hj => ?_⟩
    · rw [hrg i (by omega)]
      by_cases e : i = p
      · rw [if_pos e]
        exact ⟨b1, b2, b3, b4, b5, b6, b7, b8⟩
      · rw [if_neg e]
        by_cases e2 : i < p
        · rw [r1 i e2]
          exact h5 i (by omega)
        · rw [r2 i (by omega) (by omega)]
          exact h5 _ (by omega)
    · rw [hrg i (by omega), hrg j (by omega)]
      by_cases e : i = p
      · rw [if_pos e, if_neg (by omega), r2 j (by omega) (by omega)]
        obtain ⟨m1, m2⟩ := o3 (j - 1) (by omega)
        have m3 : ¬ (mm_rg u (j - 1)).1 < k := fun q => by have := m2.mpr q; omega
        rw [pu_lt] at m3
        have m5 := (h5 (j - 1) (by omega)).2.2.1
        unfold rg_hit at m1
        show k.toInt + x.toInt ≤ _
        omega
      · rw [if_neg e]
        by_cases e2 : j = p
        · rw [if_pos e2, r1 i (by omega)]
          obtain ⟨m1, m2⟩ := o3 i (by omega)
          have m3 := m2.mp (by omega)
          rw [pu_lt] at m3
          unfold rg_hit at m1
          show _ ≤ k.toInt
          omega
        · rw [if_neg e2]
          by_cases e3 : i < p
          · rw [r1 i e3]
            by_cases e4 : j < p
            · rw [r1 j e4]
              exact h6 i j hi (by omega)
            · rw [r2 j (by omega) (by omega)]
              exact h6 i (j - 1) (by omega) (by omega)
          · rw [r2 i (by omega) (by omega), r2 j (by omega) (by omega)]
            exact h6 (i - 1) (j - 1) (by omega) (by omega)
    · show sb_Fit (va_up u.2.2 (u.2.1 n) _ r).2.2.2
      by_cases e : r = u.2.1 n
      · rw [e, cd_up_s]
        dsimp only [f_Reg_begin]
        exact q3
      · rw [cd_up_n r e]
        exact h7 r hr
    · rw [hrg i (by omega), if_neg (by omega), r1 i hi]
    · rw [hrg p (by omega), if_pos rfl]
    · rw [hrg i (by omega), if_neg (by omega), r2 i hi hj]
