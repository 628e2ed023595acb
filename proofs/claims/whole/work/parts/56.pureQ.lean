-- the bytes of a region that a file keeps
def us (f : Nat → Int32) : Nat → Nat
  | 0 => 0
  | d + 1 => if f d = 0 then us f d else 64 * (d / 64) + 64
theorem us_s (f : Nat → Int32) (d : Nat) : us f (d + 1) = if f d = 0 then us f d else 64 * (d / 64) + 64 := rfl
theorem us_ok (f : Nat → Int32) : ∀ d, us f d % 64 = 0 ∧ (us f d < d + 64) := by
  intro d
  induction d with
  | zero => exact ⟨rfl, by show 0 < 64; omega⟩
  | succ d ih =>
    unfold us
    split
    · exact ⟨ih.1, by omega⟩
    · omega
theorem us_cong {f g : Nat → Int32} : ∀ d, (∀ j, j < d → f j = g j) → us f d = us g d := by
  intro d
  induction d with
  | zero => intro _; rfl
  | succ d ih =>
    intro h
    unfold us
    rw [h d (by omega), ih (fun j hj => h j (by omega))]
theorem pu_and0 {x : Int32} (h : fits .byte (.int x) = true) : x &&& 255 = 0 ↔ x = 0 := by
  have h2 : -128 ≤ x ∧ x ≤ 127 := by simpa [fits] using h
  obtain ⟨h3, h4⟩ := h2
  rw [pu_le] at h3 h4
  have e1 : (-128 : Int32).toInt = -128 := by decide
  have e2 : (127 : Int32).toInt = 127 := by decide
  constructor
  · intro q
    rw [pk_and x 8 (by decide)] at q
    have q2 := (nI_eq (b := 0) (by omega) (by omega)).mp q
    have q3 : x.toInt = x.toBitVec.toInt := rfl
    rw [BitVec.toInt_eq_toNat_cond] at q3
    rw [pu_eq]
    have z0 : (0 : Int32).toInt = 0 := by decide
    have := x.toBitVec.isLt
    split at q3 <;> omega
  · intro q
    rw [q]
    decide
theorem pu_usedL {r : cd_Reg} (hf : sb_Fit r.2.2.2) : ∀ (g d : Nat), d ≤ 1024 → d < g → o_Reg_usedBytes_L7 r g (nI d - 1) ∧ f_Reg_usedBytes_L7 r g (nI d - 1) = nI (us r.2.2.2 d) := by
  intro g
  induction g with
  | zero => intro d _ h; omega
  | succ g ih =>
    intro d hd hg
    unfold o_Reg_usedBytes_L7 f_Reg_usedBytes_L7
    cases d with
    | zero =>
      have c : nI 0 - 1 < 0 := by decide
      rw [if_pos c]
      exact ⟨⟨fun q => absurd c q, fun q => absurd c q⟩, rfl⟩
    | succ d =>
      rw [nI_pred]
      have c : ¬ nI d < 0 := nI_pos (by omega)
      obtain ⟨r1, r2⟩ := pu_read (r := r) (d := d) (by omega)
      rw [if_neg c, r1]
      have em : nI d + (-1 : Int32) = nI d - 1 := by
        rw [pu_eq]
        simp only [Int32.toInt_add, Int32.toInt_sub]
        rfl
      rw [em]
      unfold us
      obtain ⟨i1, i2⟩ := ih d (by omega) (by omega)
      by_cases c2 : r.2.2.2 d = 0
      · have c3 : r.2.2.2 d &&& 255 = 0 := (pu_and0 (hf d)).mpr c2
        rw [if_pos c3, if_pos c2]
        exact ⟨⟨fun _ => r2, fun _ _ => i1⟩, i2⟩
      · have c3 : ¬ r.2.2.2 d &&& 255 = 0 := fun q => c2 ((pu_and0 (hf d)).mp q)
        rw [if_neg c3, if_neg c2]
        refine ⟨⟨fun _ => r2, fun _ q => absurd q c3⟩, ?_⟩
        rw [show (64 : Int32) = nI 64 from rfl, pk_div (by omega) (by omega) (by omega), nI_1, pk_mul]
        congr 1
        omega
theorem pu_used {r : cd_Reg} (hf : sb_Fit r.2.2.2) {s : Nat} (hs : r.2.1 = nI s) (h : s ≤ 1024) : o_Reg_usedBytes r ∧ f_Reg_usedBytes r = nI (us r.2.2.2 s) := by
  unfold o_Reg_usedBytes f_Reg_usedBytes
  rw [hs]
  exact pu_usedL hf 1025 s h (by omega)
theorem pu_filledL {u : cd_Mo} {ms mb : Nat → Int32} {k s : Nat} (hk : k < 18) (hs : ms k = nI s) (h : s ≤ 1024) : ∀ (g x : Nat), x ≤ s → s - x < g → o_Mo_filled_L4 u ms mb (nI k) g (nI (us (fun j => mb (1024 * k + j)) x)) (nI x) ∧ f_Mo_filled_L4 u ms mb (nI k) g (nI (us (fun j => mb (1024 * k + j)) x)) (nI x) = nI (us (fun j => mb (1024 * k + j)) s) := by
  intro g
  induction g with
  | zero => intro x _ h; omega
  | succ g ih =>
    intro x hx hg
    unfold o_Mo_filled_L4 f_Mo_filled_L4
    have e6 : (1024 : Int32) * nI k + nI x = nI (1024 * k + x) := by rw [show (1024 : Int32) = nI 1024 from rfl, pk_mul, nI_add]
    rw [nI_clamp (by omega), hs, e6, nI_clamp (by omega), nI_1]
    have v18 : vp_in (nI k) 18 := vp_in_nI hk (by omega)
    by_cases c : s ≤ x
    · have c1 : nI s ≤ nI x := (nI_leI (by omega) (by omega)).mpr c
      have e : x = s := by omega
      subst e
      rw [if_pos c1]
      exact ⟨⟨v18, fun q => absurd c1 q, fun q => absurd c1 q, fun q => absurd c1 q⟩, rfl⟩
    · have c1 : ¬ nI s ≤ nI x := fun q => c ((nI_leI (by omega) (by omega)).mp q)
      rw [if_neg c1]
      obtain ⟨i1, i2⟩ := ih (x + 1) (by omega) (by omega)
      rw [us_s] at i1 i2
      by_cases c2 : mb (1024 * k + x) = 0
      · rw [if_pos c2]
        rw [if_pos c2] at i1 i2
        exact ⟨⟨v18, fun _ => vp_in_nI (by omega) (by omega), fun _ _ => i1, fun _ q => absurd c2 q⟩, i2⟩
      · rw [if_neg c2]
        rw [if_neg c2] at i1 i2
        have e7 : (64 : Int32) * (nI x / 64) + 64 = nI (64 * (x / 64) + 64) := by
          rw [show (64 : Int32) = nI 64 from rfl, pk_div (by omega) (by omega) (by omega), pk_mul, nI_add]
        rw [e7]
        exact ⟨⟨v18, fun _ => vp_in_nI (by omega) (by omega), fun _ q => absurd q c2, fun _ _ => i1⟩, i2⟩
theorem pu_filled {u : cd_Mo} {ms mb : Nat → Int32} {k s : Nat} (hk : k < 18) (hs : ms k = nI s) (h : s ≤ 1024) : o_Mo_filled u ms mb (nI k) ∧ f_Mo_filled u ms mb (nI k) = nI (us (fun j => mb (1024 * k + j)) s) := pu_filledL (u := u) hk hs h 1025 0 (by omega) (by omega)
-- the region that lies next above
theorem pu_aboveL {u : cd_Mo} {ma mr : Nat → Int32} {n : Nat} (hn : n ≤ 6) (hr : mr 0 = nI n) (k : Int32) : ∀ (g x : Nat) (b : Int32), x ≤ n → n - x < g → ((b = -1 ∧ ∀ s, s < x → (ma s).toInt ≤ k.toInt) ∨ ∃ s0, s0 < x ∧ b = nI s0 ∧ k.toInt < (ma s0).toInt ∧ ∀ s, s < x → k.toInt < (ma s).toInt → (ma s0).toInt ≤ (ma s).toInt) → o_Mo_above_L4 u ma mr k g b (nI x) ∧ ((f_Mo_above_L4 u ma mr k g b (nI x) = -1 ∧ ∀ s, s < n → (ma s).toInt ≤ k.toInt) ∨ ∃ s0, s0 < n ∧ f_Mo_above_L4 u ma mr k g b (nI x) = nI s0 ∧ k.toInt < (ma s0).toInt ∧ ∀ s, s < n → k.toInt < (ma s).toInt → (ma s0).toInt ≤ (ma s).toInt) := by
  intro g
  induction g with
  | zero => intro x b _ h; omega
  | succ g ih =>
    intro x b hx hg hb
    unfold o_Mo_above_L4 f_Mo_above_L4
    rw [pu_cz, hr, nI_clamp (by omega), nI_1]
    by_cases c : n ≤ x
    · have c1 : nI n ≤ nI x := (nI_leI (by omega) (by omega)).mpr c
      have e : x = n := by omega
      subst e
      rw [if_pos c1]
      exact ⟨⟨pu_v0, fun q => absurd c1 q, fun q => absurd c1 q, fun q => absurd c1 q, fun q => absurd c1 q, fun q => absurd c1 q, fun q => absurd c1 q, fun q => absurd c1 q⟩, hb⟩
    · have c1 : ¬ nI n ≤ nI x := fun q => c ((nI_leI (by omega) (by omega)).mp q)
      rw [if_neg c1]
      have v18 : vp_in (nI x) 18 := vp_in_nI (by omega) (by omega)
      by_cases c2 : ma x ≤ k
      · rw [if_pos c2]
        have c2' := c2
        rw [pu_le] at c2'
        obtain ⟨i1, i2⟩ := ih (x + 1) b (by omega) (by omega) (by
          rcases hb with ⟨b1, b2⟩ | ⟨s0, b0, b1, b2, b3⟩
          · refine Or.inl ⟨b1, fun s hs => ?_⟩
            by_cases e : s = x
            · rw [e]; exact c2'
            · exact b2 s (by omega)
          · refine Or.inr ⟨s0, by omega, b1, b2, fun s hs hk => ?_⟩
            by_cases e : s = x
            · rw [e] at hk; omega
            · exact b3 s (by omega) hk)
        exact ⟨⟨pu_v0, fun _ => v18, fun _ _ => i1, fun _ q => absurd c2 q, fun _ q => absurd c2 q, fun _ q => absurd c2 q, fun _ q => absurd c2 q, fun _ q => absurd c2 q⟩, i2⟩
      · rw [if_neg c2]
        have c2' := c2
        rw [pu_le] at c2'
        rcases hb with ⟨b1, b2⟩ | ⟨s0, b0, b1, b2, b3⟩
        · rw [if_pos b1]
          obtain ⟨i1, i2⟩ := ih (x + 1) (nI x) (by omega) (by omega) (Or.inr ⟨x, by omega, rfl, by omega, fun s hs hk => by
            by_cases e : s = x
            · rw [e]; omega
            · have := b2 s (by omega); omega⟩)
          exact ⟨⟨pu_v0, fun _ => v18, fun _ q => absurd q c2, fun _ _ _ => i1, fun _ _ q => absurd b1 q, fun _ _ q => absurd b1 q, fun _ _ q => absurd b1 q, fun _ _ q => absurd b1 q⟩, i2⟩
        · have d : ¬ b = -1 := by rw [b1]; exact pu_m1 (by omega)
          have vb : vp_in b 18 := by rw [b1]; exact vp_in_nI (by omega) (by omega)
          have cb : b.toNatClampNeg = s0 := by rw [b1]; exact nI_clamp (by omega)
          rw [if_neg d, cb]
          by_cases c3 : ma s0 ≤ ma x
          · rw [if_pos c3]
            have c3' := c3
            rw [pu_le] at c3'
            obtain ⟨i1, i2⟩ := ih (x + 1) b (by omega) (by omega) (Or.inr ⟨s0, by omega, b1, b2, fun s hs hk => by
              by_cases e : s = x
              · rw [e]; omega
              · exact b3 s (by omega) hk⟩)
            exact ⟨⟨pu_v0, fun _ => v18, fun _ q => absurd q c2, fun _ _ q => absurd q d, fun _ _ _ => v18, fun _ _ _ => vb, fun _ _ _ _ => i1, fun _ _ _ q => absurd c3 q⟩, i2⟩
          · rw [if_neg c3]
            have c3' := c3
            rw [pu_le] at c3'
            obtain ⟨i1, i2⟩ := ih (x + 1) (nI x) (by omega) (by omega) (Or.inr ⟨x, by omega, rfl, by omega, fun s hs hk => by
              by_cases e : s = x
              · rw [e]; omega
              · have := b3 s (by omega) hk; omega⟩)
            exact ⟨⟨pu_v0, fun _ => v18, fun _ q => absurd q c2, fun _ _ q => absurd q d, fun _ _ _ => v18, fun _ _ _ => vb, fun _ _ _ q => absurd q c3, fun _ _ _ _ => i1⟩, i2⟩
/-- the reference's name for the region at position i, or none -/
def nx (si : Nat → Nat) (n i : Nat) : Int32 := if i < n then nI (si i) else -1
theorem pu_above {um : cd_Mem} {u : cd_Mo} {ma ms mf mb mr : Nat → Int32} {n : Nat} (h : mr_rel um ma ms mf mb mr 0 n) {si ta : Nat → Nat} (s1 : ∀ i, i < n → si i < n ∧ ta (si i) = i) (s2 : ∀ k, k < n → ta k < n ∧ si (ta k) = k) (s3 : ∀ i, i < n → rg_sm (mm_rg um i) (rr_rg ma ms mf mb (6 * 0 + si i))) (k : Int32) (i : Nat) (hi : i ≤ n) (hk : ∀ j, j < n → ((mm_rg um j).1.toInt ≤ k.toInt ↔ j < i)) : o_Mo_above u ma mr k ∧ f_Mo_above u ma mr k = nx si n i := by
  have hn := h.1.1
  have hs := h.1.2.2.2.2.2.1
  have hok := h.1.2.2.2.2.1
  have ea : ∀ j, j < n → ma (si j) = (mm_rg um j).1 := fun j hj => by
    have := (s3 j hj).1
    rw [show 6 * 0 + si j = si j by omega] at this
    exact this.symm
  obtain ⟨a1, a2⟩ := pu_aboveL (u := u) (ma := ma) hn h.2.2.1 k 7 0 (-1) (by omega) (by omega) (Or.inl ⟨rfl, fun s hs => by omega⟩)
  refine ⟨a1, ?_⟩
  unfold f_Mo_above nx
  rw [show (0 : Int32) = nI 0 from rfl]
  rcases a2 with ⟨a2, a3⟩ | ⟨s0, a2, a3, a4, a5⟩
  · rw [a2]
    by_cases c : i < n
    · exfalso
      have := a3 (si i) (s1 i c).1
      rw [ea i c] at this
      have := (hk i c).mp this
      omega
    · rw [if_neg c]
  · rw [a3]
    obtain ⟨t1, t2⟩ := s2 s0 a2
    have e0 := ea (ta s0) t1
    rw [t2] at e0
    rw [e0] at a4 a5
    have h1 : i ≤ ta s0 := by
      have : ¬ ta s0 < i := fun q => by have := (hk _ t1).mpr q; omega
      omega
    have c : i < n := by omega
    rw [if_pos c]
    have h2 : ¬ i < ta s0 := fun q => by
      have q1 := hs i (ta s0) q t1
      have q2 := (hok i c).2.2.1
      have q3 := a5 (si i) (s1 i c).1 (by
        rw [ea i c]
        have : ¬ (mm_rg um i).1.toInt ≤ k.toInt := fun z => by have := (hk i c).mp z; omega
        omega)
      rw [ea i c] at q3
      omega
    have e : ta s0 = i := by omega
    rw [← e, t2]
