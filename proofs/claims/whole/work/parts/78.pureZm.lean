/-- the bytes of one region set anew on both sides -/
theorem mr_bytes {u : cd_Mem} {ma ms mf mb mb' mr : Nat → Int32} {o n : Nat} (h : mr_rel u ma ms mf mb mr o n) {i j : Nat} (hi : i < n) (hj : j < n) (hsm : rg_sm (mm_rg u i) (rr_rg ma ms mf mb (6 * o + j))) {f : Nat → Int32} (hf : sb_Fit f) (hb1 : ∀ d, d < 1024 → mb' (1024 * (6 * o + j) + d) = f d) (hb2 : ∀ x, (x < 1024 * (6 * o + j) ∨ 1024 * (6 * o + j) + 1024 ≤ x) → mb' x = mb x) : mr_rel (u.1, u.2.1, va_up u.2.2 (u.2.1 i) ((mm_rg u i).1, (mm_rg u i).2.1, (mm_rg u i).2.2.1, f)) ma ms mf mb' mr o n := by
  obtain ⟨hm, ho, hr0, si, ta, h1, h2, h3⟩ := h
  have hsi := mr_si hm h2 h3 hi hj hsm
  obtain ⟨m1, m2, m3, m4, m5, m6, m7⟩ := hm
  have key : ∀ i', i' < n → mm_rg (u.1, u.2.1, va_up u.2.2 (u.2.1 i) ((mm_rg u i).1, (mm_rg u i).2.1, (mm_rg u i).2.2.1, f)) i' = if i' = i then ((mm_rg u i).1, (mm_rg u i).2.1, (mm_rg u i).2.2.1, f) else mm_rg u i' := by
    intro i' hi'
    by_cases e : i' = i
    · rw [if_pos e, e]
      exact cd_up_s
    · rw [if_neg e]
      exact cd_up_n _ (fun z => e (m4 i' i (by omega) (by omega) z))
  have key1 : ∀ i', i' < n → (mm_rg (u.1, u.2.1, va_up u.2.2 (u.2.1 i) ((mm_rg u i).1, (mm_rg u i).2.1, (mm_rg u i).2.2.1, f)) i').1 = (mm_rg u i').1 ∧ (mm_rg (u.1, u.2.1, va_up u.2.2 (u.2.1 i) ((mm_rg u i).1, (mm_rg u i).2.1, (mm_rg u i).2.2.1, f)) i').2.1 = (mm_rg u i').2.1 ∧ (mm_rg (u.1, u.2.1, va_up u.2.2 (u.2.1 i) ((mm_rg u i).1, (mm_rg u i).2.1, (mm_rg u i).2.2.1, f)) i').2.2.1 = (mm_rg u i').2.2.1 := by
    intro i' hi'
    rw [key i' hi']
    by_cases e : i' = i
    · rw [if_pos e, e]
      exact ⟨rfl, rfl, rfl⟩
    · rw [if_neg e]
      exact ⟨rfl, rfl, rfl⟩
  refine ⟨⟨m1, m2, m3, m4, fun i' hi' => ?_, fun i1 i2 c1 c2 => ?_, fun r hr => ?_⟩, ho, hr0, si, ta, h1, h2, fun i' hi' => ?_⟩
  · obtain ⟨k1, k2, k3⟩ := key1 i' hi'
    unfold rg_ok
    rw [k1, k2, k3]
    exact m5 i' hi'
  · rw [(key1 i1 (by omega)).1, (key1 i1 (by omega)).2.1, (key1 i2 c2).1]
    exact m6 i1 i2 c1 c2
  · by_cases e : r = u.2.1 i
    · show sb_Fit (va_up u.2.2 (u.2.1 i) _ r).2.2.2
      rw [e, cd_up_s]
      exact hf
    · show sb_Fit (va_up u.2.2 (u.2.1 i) _ r).2.2.2
      rw [cd_up_n r e]
      exact m7 r hr
  · rw [key i' hi']
    obtain ⟨a1, a2, a3, a4⟩ := h3 i' hi'
    have hs := (h1 i' hi').1
    by_cases e : i' = i
    · rw [if_pos e]
      subst e
      refine ⟨a1, a2, a3, fun x hx => ?_⟩
      show f x = mb' (1024 * (6 * o + si i') + x)
      rw [hsi]
      exact (hb1 x hx).symm
    · rw [if_neg e]
      refine ⟨a1, a2, a3, fun x hx => ?_⟩
      show (mm_rg u i').2.2.2 x = mb' (1024 * (6 * o + si i') + x)
      have hne : si i' ≠ j := fun z => e (by
        have t1 := (h1 i' hi').2
        have t2 := (h1 i hi).2
        rw [z] at t1
        rw [hsi] at t2
        omega)
      rw [hb2 _ (by omega)]
      exact a4 x hx
