/-- a move of one place's region to another, whatever its bytes are -/
theorem pu_moveNL {u : cd_Mo} {S : cd_Ia × cd_Ia × cd_Ia × cd_By} {a b : Nat} (ha : a < 18) (hb : b < 18) (hab : a ≠ b) {mb0 : Nat → Int32} : ∀ (g x : Nat) (S' : cd_Ia × cd_Ia × cd_Ia × cd_By), x ≤ 1024 → 1024 - x < g → (∀ d, d < x → S'.2.2.2 (1024 * b + d) = vp_nar .byte (mb0 (1024 * a + d))) → (∀ y, (y < 1024 * b ∨ 1024 * b + 1024 ≤ y) → S'.2.2.2 y = mb0 y) → o_Mo_move_L38 u S (nI a) (nI b) g (nI x) S' ∧ ∃ mb, f_Mo_move_L38 u S (nI a) (nI b) g (nI x) S' = (S'.1, S'.2.1, S'.2.2.1, mb) ∧ (∀ d, d < 1024 → mb (1024 * b + d) = vp_nar .byte (mb0 (1024 * a + d))) ∧ ∀ y, (y < 1024 * b ∨ 1024 * b + 1024 ≤ y) → mb y = mb0 y := by
  intro g
  induction g with
  | zero => intro x S' _ h; omega
  | succ g ih =>
    intro x S' hx hg h1 h2
    have ea : (1024 : Int32) * nI a + nI x = nI (1024 * a + x) := by rw [show (1024 : Int32) = nI 1024 from rfl, pk_mul, nI_add]
    have eb : (1024 : Int32) * nI b + nI x = nI (1024 * b + x) := by rw [show (1024 : Int32) = nI 1024 from rfl, pk_mul, nI_add]
    unfold o_Mo_move_L38 f_Mo_move_L38
    rw [ea, eb, nI_1, nI_clamp (by omega), nI_clamp (by omega)]
    by_cases c : 1024 ≤ x
    · have c1 : (1024 : Int32) ≤ nI x := (nI_leI (a := 1024) (by omega) (by omega)).mpr c
      rw [if_pos c1]
      exact ⟨⟨fun q => absurd c1 q, fun q => absurd c1 q, fun q => absurd c1 q⟩, _, rfl, fun d hd => h1 d (by omega), h2⟩
    · have c1 : ¬ (1024 : Int32) ≤ nI x := fun q => c ((nI_leI (a := 1024) (by omega) (by omega)).mp q)
      rw [if_neg c1]
      have e0 : S'.2.2.2 (1024 * a + x) = mb0 (1024 * a + x) := h2 _ (by omega)
      rw [e0]
      obtain ⟨i1, mb, i2, i3, i4⟩ := ih (x + 1) (S'.1, S'.2.1, S'.2.2.1, upd S'.2.2.2 (1024 * b + x) (vp_nar .byte (mb0 (1024 * a + x)))) (by omega) (by omega) (fun d hd => by
        show upd S'.2.2.2 (1024 * b + x) _ (1024 * b + d) = _
        by_cases e : d = x
        · rw [e, pu_upds]
        · rw [pu_updn (by omega)]; exact h1 d (by omega)) (fun y hy => by
        show upd S'.2.2.2 (1024 * b + x) _ y = _
        rw [pu_updn (by omega)]
        exact h2 y hy)
      exact ⟨⟨fun _ => vp_in_nI (by omega) (by omega), fun _ => vp_in_nI (by omega) (by omega), fun _ => i1⟩, mb, i2, i3, i4⟩
theorem pu_moveN {u : cd_Mo} {S : cd_Ia × cd_Ia × cd_Ia × cd_By} {a b : Nat} (ha : a < 18) (hb : b < 18) (hab : a ≠ b) : o_Mo_move u S (nI a) (nI b) ∧ ∃ mb, f_Mo_move u S (nI a) (nI b) = (upd S.1 b (S.1 a), upd S.2.1 b (S.2.1 a), upd S.2.2.1 b (S.2.2.1 a), mb) ∧ (∀ d, d < 1024 → mb (1024 * b + d) = vp_nar .byte (S.2.2.2 (1024 * a + d))) ∧ ∀ y, (y < 1024 * b ∨ 1024 * b + 1024 ≤ y) → mb y = S.2.2.2 y := by
  unfold o_Mo_move f_Mo_move
  rw [nI_clamp (by omega), nI_clamp (by omega)]
  obtain ⟨i1, mb, i2, i3, i4⟩ := pu_moveNL (u := u) (S := S) ha hb hab 1025 0 (upd S.1 b (S.1 a), upd S.2.1 b (S.2.1 a), upd S.2.2.1 b (S.2.2.1 a), S.2.2.2) (by omega) (by omega) (fun d hd => by omega) (fun _ _ => rfl)
  have va : vp_in (nI a) 18 := vp_in_nI ha (by omega)
  have vb : vp_in (nI b) 18 := vp_in_nI hb (by omega)
  exact ⟨⟨va, vb, va, vb, va, vb, i1⟩, mb, i2, i3, i4⟩
section
variable {S0 : cd_Mo × cd_Ia × cd_Ia × cd_Ia × cd_By × cd_Ia × cd_Ia × cd_Ia × cd_Ia} {mp : cd_By}
/-- the registers of one thread moved to the core's own -/
theorem pu_l119 {v : cd_Mo} {ma ms mf mb mr mt mi mg : Nat → Int32} {a : Nat} (ha : a < 3) : ∀ (g x : Nat) (mg1 : Nat → Int32), x ≤ 8 → 8 - x < g → (∀ r, r < x → mg1 (8 * (3 + a) + r) = mg (8 * (6 + a) + r)) → (∀ y, (y < 8 * (3 + a) ∨ 8 * (3 + a) + 8 ≤ y) → mg1 y = mg y) → ∃ mg2, (∀ r, r < 8 → mg2 (8 * (3 + a) + r) = mg (8 * (6 + a) + r)) ∧ (∀ y, (y < 8 * (3 + a) ∨ 8 * (3 + a) + 8 ≤ y) → mg2 y = mg y) ∧ ∀ (K : Int32 → Int32 → (cd_Mo × cd_Ia × cd_Ia × cd_Ia × cd_By × cd_Ia × cd_Ia × cd_Ia × cd_Ia) → Int32 × cd_Mo × cd_Ia × cd_Ia × cd_Ia × cd_By × cd_Ia × cd_Ia × cd_Ia × cd_Ia) (KO : Int32 → Int32 → (cd_Mo × cd_Ia × cd_Ia × cd_Ia × cd_By × cd_Ia × cd_Ia × cd_Ia × cd_Ia) → Prop), f_Mo_load_L119 S0 mp K g (nI a) (nI x) (v, ma, ms, mf, mb, mr, mt, mi, mg1) = K (nI a) (nI 8) (v, ma, ms, mf, mb, mr, mt, mi, mg2) ∧ (KO (nI a) (nI 8) (v, ma, ms, mf, mb, mr, mt, mi, mg2) → o_Mo_load_L119 S0 mp KO g (nI a) (nI x) (v, ma, ms, mf, mb, mr, mt, mi, mg1)) := by
  intro g
  induction g with
  | zero => intro x mg1 _ h; omega
  | succ g ih =>
    intro x mg1 hx hg h1 h2
    have e3 : (8 : Int32) * ((3 : Int32) + nI a) + nI x = nI (8 * (3 + a) + x) := by rw [show (3 : Int32) = nI 3 from rfl, nI_add, show (8 : Int32) = nI 8 from rfl, pk_mul, nI_add]
    have e6 : (8 : Int32) * ((6 : Int32) + nI a) + nI x = nI (8 * (6 + a) + x) := by rw [show (6 : Int32) = nI 6 from rfl, nI_add, show (8 : Int32) = nI 8 from rfl, pk_mul, nI_add]
    by_cases c : 8 ≤ x
    · have c1 : (8 : Int32) ≤ nI x := (nI_leI (a := 8) (by omega) (by omega)).mpr c
      have ex : x = 8 := by omega
      subst ex
      refine ⟨mg1, h1, h2, fun K KO => ?_⟩
      rw [f_Mo_load_L119, o_Mo_load_L119, if_pos c1]
      exact ⟨rfl, fun q => ⟨fun _ => q, fun q => absurd c1 q, fun q => absurd c1 q, fun q => absurd c1 q⟩⟩
    · have c1 : ¬ (8 : Int32) ≤ nI x := fun q => c ((nI_leI (a := 8) (by omega) (by omega)).mp q)
      obtain ⟨mg2, i1, i2, i3⟩ := ih (x + 1) (upd mg1 (8 * (3 + a) + x) (mg1 (8 * (6 + a) + x))) (by omega) (by omega) (fun r hr => by
        by_cases e : r = x
        · rw [e, pu_upds]
          exact h2 _ (by omega)
        · rw [pu_updn (by omega)]
          exact h1 r (by omega)) (fun y hy => by
        rw [pu_updn (by omega)]
        exact h2 y hy)
      refine ⟨mg2, i1, i2, fun K KO => ?_⟩
      rw [f_Mo_load_L119, o_Mo_load_L119, if_neg c1, e3, e6, nI_1, nI_clamp (by omega), nI_clamp (by omega)]
      exact ⟨(i3 K KO).1, fun q => ⟨fun q => absurd q c1, fun _ => vp_in_nI (by omega) (by omega), fun _ => vp_in_nI (by omega) (by omega), fun _ => (i3 K KO).2 q⟩⟩
/-- the threads moved to the core's own -/
theorem pu_l95 {v : cd_Mo} {ma ms mf mb mr mt mi mg : Nat → Int32} : ∀ (g a : Nat) (mi1 mg1 : Nat → Int32), a ≤ 3 → 3 - a < g → (∀ i, i < a → mi1 (3 + i) = mi (6 + i) ∧ ∀ r, r < 8 → mg1 (8 * (3 + i) + r) = mg (8 * (6 + i) + r)) → (∀ y, (y < 3 ∨ 6 ≤ y) → mi1 y = mi y) → (∀ y, (y < 24 ∨ 48 ≤ y) → mg1 y = mg y) → o_Mo_load_L95 S0 mp g (nI a) (v, ma, ms, mf, mb, mr, mt, mi1, mg1) ∧ ∃ mi2 mg2, f_Mo_load_L95 S0 mp g (nI a) (v, ma, ms, mf, mb, mr, mt, mi1, mg1) = (mr 1, (v.1, v.2.1, v.2.2.1, 1, v.2.2.2.2.1, v.2.2.2.2.2), ma, ms, mf, mb, mr, mt, mi2, mg2) ∧ (∀ i, i < 3 → mi2 (3 + i) = mi (6 + i) ∧ ∀ r, r < 8 → mg2 (8 * (3 + i) + r) = mg (8 * (6 + i) + r)) ∧ (∀ y, (y < 3 ∨ 6 ≤ y) → mi2 y = mi y) ∧ ∀ y, (y < 24 ∨ 48 ≤ y) → mg2 y = mg y := by
  intro g
  induction g with
  | zero => intro a mi1 mg1 _ h; omega
  | succ g ih =>
    intro a mi1 mg1 ha hg h1 h2 h3
    have e3 : (3 : Int32) + nI a = nI (3 + a) := by rw [show (3 : Int32) = nI 3 from rfl, nI_add]
    have e6 : (6 : Int32) + nI a = nI (6 + a) := by rw [show (6 : Int32) = nI 6 from rfl, nI_add]
    rw [o_Mo_load_L95, f_Mo_load_L95]
    by_cases c : 3 ≤ a
    · have c1 : (3 : Int32) ≤ nI a := (nI_leI (a := 3) (by omega) (by omega)).mpr c
      have ea : a = 3 := by omega
      subst ea
      rw [if_pos c1]
      exact ⟨⟨fun _ => pu_v1, fun q => absurd c1 q, fun q => absurd c1 q, fun q => absurd c1 q⟩, mi1, mg1, rfl, h1, h2, h3⟩
    · have c1 : ¬ (3 : Int32) ≤ nI a := fun q => c ((nI_leI (a := 3) (by omega) (by omega)).mp q)
      rw [if_neg c1, e3, e6, nI_clamp (by omega), nI_clamp (by omega)]
      dsimp only
      obtain ⟨mg2, j1, j2, j3⟩ := pu_l119 (S0 := S0) (mp := mp) (v := v) (ma := ma) (ms := ms) (mf := mf) (mb := mb) (mr := mr) (mt := mt) (mi := upd mi1 (3 + a) (mi1 (6 + a))) (mg := mg1) (a := a) (by omega) 9 0 mg1 (by omega) (by omega) (fun r hr => by omega) (fun _ _ => rfl)
      obtain ⟨i1, mi3, mg3, i2, i3, i4, i5⟩ := ih (a + 1) (upd mi1 (3 + a) (mi1 (6 + a))) mg2 (by omega) (by omega) (fun i hi => by
        by_cases e : i = a
        · subst e
          rw [pu_upds]
          exact ⟨h2 _ (by omega), fun r hr => (j1 r hr).trans (h3 _ (by omega))⟩
        · rw [pu_updn (by omega)]
          exact ⟨(h1 i (by omega)).1, fun r hr => (j2 _ (by omega)).trans ((h1 i (by omega)).2 r hr)⟩) (fun y hy => (pu_updn (by omega)).trans (h2 y hy)) (fun y hy => (j2 y (by omega)).trans (h3 y hy))
      refine ⟨⟨fun q => absurd q c1, fun _ => vp_in_nI (by omega) (by omega), fun _ => vp_in_nI (by omega) (by omega), fun _ => (j3 (fun _ _ S => default) _).2 ?_⟩, mi3, mg3, ?_, i3, i4, i5⟩
      · rw [nI_1]
        exact i1
      · refine Eq.trans ((j3 _ (fun _ _ _ => True)).1) ?_
        rw [nI_1]
        exact i2
/-- the regions moved to the core's own, then the threads -/
theorem pu_l69 {v : cd_Mo} {ma ms mf mb mr mt mi mg : Nat → Int32} : ∀ (g a : Nat) (ma1 ms1 mf1 mb1 : Nat → Int32), a ≤ 6 → 6 - a < g → (∀ i, i < a → ma1 (6 + i) = ma (12 + i) ∧ ms1 (6 + i) = ms (12 + i) ∧ mf1 (6 + i) = mf (12 + i) ∧ ∀ d, d < 1024 → mb1 (1024 * (6 + i) + d) = vp_nar .byte (mb (1024 * (12 + i) + d))) → (∀ y, (y < 6 ∨ 12 ≤ y) → ma1 y = ma y ∧ ms1 y = ms y ∧ mf1 y = mf y) → (∀ y, (y < 6144 ∨ 12288 ≤ y) → mb1 y = mb y) → o_Mo_load_L69 S0 mp g (nI a) (v, ma1, ms1, mf1, mb1, mr, mt, mi, mg) ∧ ∃ ma2 ms2 mf2 mb2 mi2 mg2, f_Mo_load_L69 S0 mp g (nI a) (v, ma1, ms1, mf1, mb1, mr, mt, mi, mg) = (mr 1, (v.1, v.2.1, v.2.2.1, 1, v.2.2.2.2.1, v.2.2.2.2.2), ma2, ms2, mf2, mb2, mr, mt, mi2, mg2) ∧ (∀ i, i < 6 → ma2 (6 + i) = ma (12 + i) ∧ ms2 (6 + i) = ms (12 + i) ∧ mf2 (6 + i) = mf (12 + i) ∧ ∀ d, d < 1024 → mb2 (1024 * (6 + i) + d) = vp_nar .byte (mb (1024 * (12 + i) + d))) ∧ (∀ y, (y < 6 ∨ 12 ≤ y) → ma2 y = ma y ∧ ms2 y = ms y ∧ mf2 y = mf y) ∧ (∀ y, (y < 6144 ∨ 12288 ≤ y) → mb2 y = mb y) ∧ (∀ i, i < 3 → mi2 (3 + i) = mi (6 + i) ∧ ∀ r, r < 8 → mg2 (8 * (3 + i) + r) = mg (8 * (6 + i) + r)) ∧ (∀ y, (y < 3 ∨ 6 ≤ y) → mi2 y = mi y) ∧ ∀ y, (y < 24 ∨ 48 ≤ y) → mg2 y = mg y := by
  intro g
  induction g with
  | zero => intro a ma1 ms1 mf1 mb1 _ h; omega
  | succ g ih =>
    intro a ma1 ms1 mf1 mb1 ha hg h1 h2 h3
    have e12 : (12 : Int32) + nI a = nI (12 + a) := by rw [show (12 : Int32) = nI 12 from rfl, nI_add]
    have e6 : (6 : Int32) + nI a = nI (6 + a) := by rw [show (6 : Int32) = nI 6 from rfl, nI_add]
    rw [o_Mo_load_L69, f_Mo_load_L69]
    by_cases c : 6 ≤ a
    · have c1 : (6 : Int32) ≤ nI a := (nI_leI (a := 6) (by omega) (by omega)).mpr c
      have ea : a = 6 := by omega
      subst ea
      rw [if_pos c1]
      obtain ⟨i1, mi2, mg2, i2, i3, i4, i5⟩ := pu_l95 (S0 := S0) (mp := mp) (v := v) (ma := ma1) (ms := ms1) (mf := mf1) (mb := mb1) (mr := mr) (mt := mt) (mi := mi) (mg := mg) 4 0 mi mg (by omega) (by omega) (fun i hi => by omega) (fun _ _ => rfl) (fun _ _ => rfl)
      exact ⟨⟨fun _ => i1, fun q => absurd c1 q, fun q => absurd c1 q⟩, ma1, ms1, mf1, mb1, mi2, mg2, i2, h1, h2, h3, i3, i4, i5⟩
    · have c1 : ¬ (6 : Int32) ≤ nI a := fun q => c ((nI_leI (a := 6) (by omega) (by omega)).mp q)
      rw [if_neg c1, e12, e6]
      dsimp only
      obtain ⟨j1, mb2, j2, j3, j4⟩ := pu_moveN (u := v) (S := (ma1, ms1, mf1, mb1)) (a := 12 + a) (b := 6 + a) (by omega) (by omega) (by omega)
      rw [j2, nI_1]
      dsimp only at j3 j4 ⊢
      obtain ⟨k1, k2, k3⟩ := h2 (12 + a) (by omega)
      obtain ⟨i1, i2⟩ := ih (a + 1) (upd ma1 (6 + a) (ma1 (12 + a))) (upd ms1 (6 + a) (ms1 (12 + a))) (upd mf1 (6 + a) (mf1 (12 + a))) mb2 (by omega) (by omega) (fun i hi => by
        by_cases e : i = a
        · subst e
          rw [pu_upds, pu_upds, pu_upds]
          exact ⟨k1, k2, k3, fun d hd => (j3 d hd).trans (by rw [h3 _ (by omega)])⟩
        · rw [pu_updn (by omega), pu_updn (by omega), pu_updn (by omega)]
          obtain ⟨l1, l2, l3, l4⟩ := h1 i (by omega)
          exact ⟨l1, l2, l3, fun d hd => (j4 _ (by omega)).trans (l4 d hd)⟩) (fun y hy => by
        rw [pu_updn (by omega), pu_updn (by omega), pu_updn (by omega)]
        exact h2 y hy) (fun y hy => (j4 y (by omega)).trans (h3 y hy))
      exact ⟨⟨fun q => absurd q c1, fun _ => j1, fun _ => i1⟩, i2⟩
end
/-- the core's memory, once moved -/
theorem mr_shift {u : cd_Mem} {ma ms mf mb mr ma' ms' mf' mb' mr' : Nat → Int32} {n : Nat} (h : mr_rel u ma ms mf mb mr 2 n) (h1 : ∀ i, i < 6 → ma' (6 + i) = ma (12 + i) ∧ ms' (6 + i) = ms (12 + i) ∧ mf' (6 + i) = mf (12 + i) ∧ ∀ d, d < 1024 → mb' (1024 * (6 + i) + d) = vp_nar .byte (mb (1024 * (12 + i) + d))) (hr : mr' 1 = nI n) : mr_rel u ma' ms' mf' mb' mr' 1 n := by
  obtain ⟨hm, -, -, si, ta, s1, s2, s3⟩ := h
  have hn := hm.1
  refine ⟨hm, by omega, hr, si, ta, s1, s2, fun i hi => ?_⟩
  have hs := (s1 i hi).1
  obtain ⟨a1, a2, a3, a4⟩ := s3 i hi
  obtain ⟨b1, b2, b3, b4⟩ := h1 (si i) (by omega)
  refine ⟨a1.trans b1.symm, a2.trans b2.symm, a3.trans b3.symm, fun d hd => ?_⟩
  have a5 : (mm_rg u i).2.2.2 d = mb (1024 * (12 + si i) + d) := a4 d hd
  show (mm_rg u i).2.2.2 d = mb' (1024 * (6 + si i) + d)
  rw [b4 d hd, a5, pu_nar]
  rw [← a5]
  exact hm.2.2.2.2.2.2 _ (hm.2.2.1 i (by omega)) d
/-- the core's threads, once moved -/
theorem tt_shift {t t' : cd_Tt} {mt mi mg mt' mi' mg' : Nat → Int32} {m : Nat} (h : tt_rel t mt mi mg 2 m) (h1 : ∀ i, i < 3 → mi' (3 + i) = mi (6 + i) ∧ ∀ r, r < 8 → mg' (8 * (3 + i) + r) = mg (8 * (6 + i) + r)) (hr : mt' 1 = nI m) : o_Tt_become t' t ∧ tt_rel (f_Tt_become t' t) mt' mi' mg' 1 m := by
  obtain ⟨a1, a2, a3, a4, a5, a6⟩ := h
  have d3 : (3 : Int32).toNatClampNeg = 3 := by decide
  have d24 : (24 : Int32).toNatClampNeg = 24 := by decide
  unfold o_Tt_become f_Tt_become
  rw [pu_cz, d3, d24]
  refine ⟨⟨by decide, by decide, by decide, by decide, by decide, by decide, by decide, by decide, by decide, by decide⟩, a1, by omega, a3, hr, fun i hi => ?_, fun i hi r hr => ?_⟩
  · show va_cpy t.2.1 t'.2.1 0 0 3 i = mi' (3 * 1 + i)
    rw [pk_cpy_in (by omega) (by omega), (h1 i (by omega)).1, show 0 + (i - 0) = i by omega]
    exact a5 i hi
  · show va_cpy t.2.2 t'.2.2 0 0 24 (8 * i + r) = mg' (8 * (3 * 1 + i) + r)
    rw [pk_cpy_in (by omega) (by omega), show 3 * 1 + i = 3 + i by omega, (h1 i (by omega)).2 r hr, show 0 + (8 * i + r - 0) = 8 * i + r by omega]
    exact a6 i hi r hr
