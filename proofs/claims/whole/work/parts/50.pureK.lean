-- a region taken away
def mm_sl (pi : Nat → Nat) (z i j : Nat) : Nat := if z ≤ j ∧ j < i then pi (j + 1) else pi j
def mm_sg (z n j : Nat) : Nat := if z ≤ j ∧ j + 1 < n then j + 1 else if j + 1 = n then z else j
theorem mm_sg_lt {z n j : Nat} (hz : z < n) (hn : n ≤ 6) (hj : j < 6) : mm_sg z n j < 6 := by
  unfold mm_sg
  split <;> (try split) <;> omega
theorem mm_sg_inj {z n i j : Nat} (hz : z < n) (h : mm_sg z n i = mm_sg z n j) : i = j := by
  unfold mm_sg at h
  split at h <;> split at h <;> (try split at h) <;> (try split at h) <;> omega
theorem mm_remL {u : cd_Mem} {n : Nat} (hn : n ≤ 6) (hc : u.1 = nI n) (k : Int32) {z : Nat} (hz : z < n) : ∀ (g i : Nat), z ≤ i → i < n → n - i < g + 1 → o_Mem_removeRegion_L36 u k g (nI z) (nI i) (u.2.1 z) (u.1, mm_sl u.2.1 z i, u.2.2) ∧ f_Mem_removeRegion_L36 u k g (nI z) (nI i) (u.2.1 z) (u.1, mm_sl u.2.1 z i, u.2.2) = (1, nI (n - 1), (fun j => u.2.1 (mm_sg z n j)), u.2.2) := by
  intro g
  induction g with
  | zero => intro i _ _ h; omega
  | succ g ih =>
    intro i h1 h2 h3
    unfold o_Mem_removeRegion_L36 f_Mem_removeRegion_L36
    obtain ⟨m, rfl⟩ : ∃ m, n = m + 1 := ⟨n - 1, by omega⟩
    dsimp only
    rw [hc, nI_pred, nI_1, nI_clamp (by omega), nI_clamp (by omega), nI_clamp (by omega)]
    by_cases c : m ≤ i
    · have c1 : nI m ≤ nI i := (nI_leI (by omega) (by omega)).mpr c
      rw [if_pos c1]
      refine ⟨⟨fun _ => vp_in_nI (by omega) (by omega), fun q => absurd c1 q, fun q => absurd c1 q, fun q => absurd c1 q⟩, ?_⟩
      have : va_up (mm_sl u.2.1 z i) m (u.2.1 z) = fun j => u.2.1 (mm_sg z (m + 1) j) := by
        funext j
        by_cases e : j = m
        · rw [e, cd_up_s]
          unfold mm_sg
          rw [if_neg (by omega), if_pos (by omega)]
        · rw [cd_up_n j e]
          unfold mm_sg mm_sl
          by_cases q : z ≤ j ∧ j < i
          · rw [if_pos q, if_pos (by omega)]
          · rw [if_neg q, if_neg (by omega), if_neg (by omega)]
      rw [this]
      rfl
    · have c1 : ¬ nI m ≤ nI i := fun q => c ((nI_leI (by omega) (by omega)).mp q)
      rw [if_neg c1]
      have es : va_up (mm_sl u.2.1 z i) i (mm_sl u.2.1 z i (i + 1)) = mm_sl u.2.1 z (i + 1) := by
        funext j
        by_cases e : j = i
        · rw [e, cd_up_s]
          unfold mm_sl
          rw [if_neg (by omega), if_pos (by omega)]
        · rw [cd_up_n j e]
          unfold mm_sl
          by_cases q : z ≤ j ∧ j < i
          · rw [if_pos q, if_pos (by omega)]
          · rw [if_neg q, if_neg (by omega)]
      rw [es]
      obtain ⟨j1, j2⟩ := ih (i + 1) (by omega) (by omega) (by omega)
      rw [hc] at j1 j2
      exact ⟨⟨fun q => absurd q c1, fun _ => vp_in_nI (by omega) (by omega), fun _ => vp_in_nI (by omega) (by omega), fun _ => j1⟩, j2⟩
/-- the reference's regions after one was taken away at j -/
def rr_cut (j n : Nat) (f f' : Nat → Int32) : Prop := ∀ i, f' i = if j ≤ i ∧ i + 1 < n then f (i + 1) else f i
theorem mr_del {u : cd_Mem} {ma ms mf mb mr ma' ms' mf' mb' mr' : Nat → Int32} {n : Nat} (h : mr_rel u ma ms mf mb mr 0 n) {z j : Nat} (hz : z < n) (hj : j < n) (hsm : rg_sm (mm_rg u z) (rr_rg ma ms mf mb (6 * 0 + j))) (g1 : rr_cut j n ma ma') (g2 : rr_cut j n ms ms') (g3 : rr_cut j n mf mf') (g4 : ∀ i, i < 6 → ∀ d, d < 1024 → mb' (1024 * i + d) = if j ≤ i ∧ i + 1 < n then mb (1024 * (i + 1) + d) else mb (1024 * i + d)) (g7 : mr' 0 = nI (n - 1)) : mr_rel (nI (n - 1), (fun j => u.2.1 (mm_sg z n j)), u.2.2) ma' ms' mf' mb' mr' 0 (n - 1) := by
  obtain ⟨hm, ho, hr, si, ta, s1, s2, s3⟩ := h
  have hsi := mr_si hm s2 s3 hz hj hsm
  have hta : ta j = z := by rw [← hsi]; exact (s1 z hz).2
  obtain ⟨m1, m2, m3, m4, m5, m6, m7⟩ := hm
  have r1 : ∀ i, i < z → mm_sg z n i = i := fun i hi => by unfold mm_sg; rw [if_neg (by omega), if_neg (by omega)]
  have r2 : ∀ i, z ≤ i → i + 1 < n → mm_sg z n i = i + 1 := fun i hi hj => by unfold mm_sg; rw [if_pos (by omega)]
  have rg : ∀ i, mm_rg (nI (n - 1), (fun j => u.2.1 (mm_sg z n j)), u.2.2) i = mm_rg u (mm_sg z n i) := fun i => rfl
  have sne : ∀ i, i < n → i ≠ z → si i ≠ j := fun i hi hne q => by
    have := (s1 i hi).2
    rw [q, hta] at this
    omega
  have tne : ∀ s, s < n → s ≠ j → ta s ≠ z := fun s hs hne q => by
    have := (s2 s hs).2
    rw [q, hsi] at this
    omega
  refine ⟨⟨by omega, rfl, fun i hi => m3 _ (mm_sg_lt hz m1 hi), fun i i' hi hi' q => mm_sg_inj hz (m4 _ _ (mm_sg_lt hz m1 hi) (mm_sg_lt hz m1 hi') q), fun i hi => ?_, fun i i' hi hi' => ?_, m7⟩, ho, g7, (fun i => if si (mm_sg z n i) < j then si (mm_sg z n i) else si (mm_sg z n i) - 1), (fun s => if ta (if s < j then s else s + 1) < z then ta (if s < j then s else s + 1) else ta (if s < j then s else s + 1) - 1), fun i hi => ?_, fun s hs => ?_, fun i hi => ?_⟩
  · rw [rg]
    by_cases c : i < z
    · rw [r1 i c]; exact m5 i (by omega)
    · rw [r2 i (by omega) (by omega)]; exact m5 _ (by omega)
  · rw [rg i, rg i']
    by_cases c : i < z
    · rw [r1 i c]
      by_cases c2 : i' < z
      · rw [r1 i' c2]; exact m6 _ _ (by omega) (by omega)
      · rw [r2 i' (by omega) (by omega)]; exact m6 _ _ (by omega) (by omega)
    · rw [r2 i (by omega) (by omega), r2 i' (by omega) (by omega)]
      exact m6 _ _ (by omega) (by omega)
  · dsimp only
    by_cases c : i < z
    · rw [r1 i c]
      obtain ⟨t1, t2⟩ := s1 i (by omega)
      have t3 := sne i (by omega) (by omega)
      by_cases c2 : si i < j
      · rw [if_pos c2, if_pos c2, t2, if_pos c]
        exact ⟨by omega, rfl⟩
      · rw [if_neg c2, if_neg (show ¬ si i - 1 < j by omega), show si i - 1 + 1 = si i by omega, t2, if_pos c]
        exact ⟨by omega, rfl⟩
    · rw [r2 i (by omega) (by omega)]
      obtain ⟨t1, t2⟩ := s1 (i + 1) (by omega)
      have t3 := sne (i + 1) (by omega) (by omega)
      by_cases c2 : si (i + 1) < j
      · rw [if_pos c2, if_pos c2, t2, if_neg (by omega)]
        exact ⟨by omega, by omega⟩
      · rw [if_neg c2, if_neg (show ¬ si (i + 1) - 1 < j by omega), show si (i + 1) - 1 + 1 = si (i + 1) by omega, t2, if_neg (by omega)]
        exact ⟨by omega, by omega⟩
  · dsimp only
    by_cases c : s < j
    · rw [if_pos c]
      obtain ⟨t1, t2⟩ := s2 s (by omega)
      have t3 := tne s (by omega) (by omega)
      by_cases c2 : ta s < z
      · rw [if_pos c2, r1 _ c2, t2, if_pos c]
        exact ⟨by omega, rfl⟩
      · rw [if_neg c2, r2 _ (by omega) (by omega), show ta s - 1 + 1 = ta s by omega, t2, if_pos c]
        exact ⟨by omega, rfl⟩
    · rw [if_neg c]
      obtain ⟨t1, t2⟩ := s2 (s + 1) (by omega)
      have t3 := tne (s + 1) (by omega) (by omega)
      by_cases c2 : ta (s + 1) < z
      · rw [if_pos c2, r1 _ c2, t2, if_neg (by omega)]
        exact ⟨by omega, by omega⟩
      · rw [if_neg c2, r2 _ (by omega) (by omega), show ta (s + 1) - 1 + 1 = ta (s + 1) by omega, t2, if_neg (by omega)]
        exact ⟨by omega, by omega⟩
  · rw [rg]
    dsimp only
    have hlt : mm_sg z n i < n ∧ mm_sg z n i ≠ z := by
      by_cases c : i < z
      · rw [r1 i c]; omega
      · rw [r2 i (by omega) (by omega)]; omega
    obtain ⟨a1, a2, a3, a4⟩ := s3 _ hlt.1
    have t1 := (s1 _ hlt.1).1
    have t3 := sne _ hlt.1 hlt.2
    generalize si (mm_sg z n i) = s at *
    dsimp only [rr_rg] at a1 a2 a3 a4
    by_cases c : s < j
    · rw [if_pos c]
      have e1 := g1 s
      have e2 := g2 s
      have e3 := g3 s
      rw [if_neg (by omega)] at e1 e2 e3
      rw [show 6 * 0 + s = s by omega] at a1 a2 a3 a4 ⊢
      refine ⟨a1.trans e1.symm, a2.trans e2.symm, a3.trans e3.symm, fun d hd => (a4 d hd).trans ?_⟩
      have e4 := g4 s (by omega) d hd
      rw [if_neg (by omega)] at e4
      exact e4.symm
    · rw [if_neg c]
      have e1 := g1 (s - 1)
      have e2 := g2 (s - 1)
      have e3 := g3 (s - 1)
      rw [if_pos (by omega), show s - 1 + 1 = s by omega] at e1 e2 e3
      rw [show 6 * 0 + s = s by omega] at a1 a2 a3 a4
      rw [show 6 * 0 + (s - 1) = s - 1 by omega]
      refine ⟨a1.trans e1.symm, a2.trans e2.symm, a3.trans e3.symm, fun d hd => (a4 d hd).trans ?_⟩
      have e4 := g4 (s - 1) (by omega) d hd
      rw [if_pos (by omega), show s - 1 + 1 = s by omega] at e4
      exact e4.symm
theorem pu_moveL {u : cd_Mo} {S : cd_Ia × cd_Ia × cd_Ia × cd_By} {a b : Nat} (ha : a < 18) (hb : b < 18) (hab : a ≠ b) {mb0 : Nat → Int32} (hf : ∀ d, d < 1024 → fits .byte (.int (mb0 (1024 * a + d))) = true) : ∀ (g x : Nat) (S' : cd_Ia × cd_Ia × cd_Ia × cd_By), x ≤ 1024 → 1024 - x < g → (∀ d, d < x → S'.2.2.2 (1024 * b + d) = mb0 (1024 * a + d)) → (∀ y, (y < 1024 * b ∨ 1024 * b + 1024 ≤ y) → S'.2.2.2 y = mb0 y) → o_Mo_move_L38 u S (nI a) (nI b) g (nI x) S' ∧ ∃ mb, f_Mo_move_L38 u S (nI a) (nI b) g (nI x) S' = (S'.1, S'.2.1, S'.2.2.1, mb) ∧ (∀ d, d < 1024 → mb (1024 * b + d) = mb0 (1024 * a + d)) ∧ ∀ y, (y < 1024 * b ∨ 1024 * b + 1024 ≤ y) → mb y = mb0 y := by
  intro g
  induction g with
  | zero => intro x S' _ h; omega
  | succ g ih =>
    intro x S' hx hg h1 h2
    have ea : (1024 : Int32) * nI a + nI x = nI (1024 * a + x) := by rw [show (1024 : Int32) = nI 1024 from rfl, pk_mul, nI_add]
    have eb : (1024 : Int32) * nI b + nI x = nI (1024 * b + x) := by rw [show (1024 : Int32) = nI 1024 from rfl, pk_mul, nI_add]
    unfold o_Mo_move_L38 f_Mo_move_L38
    rw [ea, eb, nI_1, nI_clamp (by omega), nI_clamp (by omega)]
    by_cases c : 1024 ≤ x
    · have c1 : (1024 : Int32) ≤ nI x := (nI_leI (a := 1024) (by omega) (by omega)).mpr c
      rw [if_pos c1]
      exact ⟨⟨fun q => absurd c1 q, fun q => absurd c1 q, fun q => absurd c1 q⟩, _, rfl, fun d hd => h1 d (by omega), h2⟩
    · have c1 : ¬ (1024 : Int32) ≤ nI x := fun q => c ((nI_leI (a := 1024) (by omega) (by omega)).mp q)
      rw [if_neg c1]
      have e0 : S'.2.2.2 (1024 * a + x) = mb0 (1024 * a + x) := h2 _ (by omega)
      rw [e0, pu_nar (hf x (by omega))]
      obtain ⟨i1, mb, i2, i3, i4⟩ := ih (x + 1) (S'.1, S'.2.1, S'.2.2.1, upd S'.2.2.2 (1024 * b + x) (mb0 (1024 * a + x))) (by omega) (by omega) (fun d hd => by
        show upd S'.2.2.2 (1024 * b + x) _ (1024 * b + d) = _
        by_cases e : d = x
        · rw [e, pu_upds]
        · rw [pu_updn (by omega)]; exact h1 d (by omega)) (fun y hy => by
        show upd S'.2.2.2 (1024 * b + x) _ y = _
        rw [pu_updn (by omega)]
        exact h2 y hy)
      exact ⟨⟨fun _ => vp_in_nI (by omega) (by omega), fun _ => vp_in_nI (by omega) (by omega), fun _ => i1⟩, mb, i2, i3, i4⟩
theorem pu_move {u : cd_Mo} {S : cd_Ia × cd_Ia × cd_Ia × cd_By} {a b : Nat} (ha : a < 18) (hb : b < 18) (hab : a ≠ b) (hf : ∀ d, d < 1024 → fits .byte (.int (S.2.2.2 (1024 * a + d))) = true) : o_Mo_move u S (nI a) (nI b) ∧ ∃ mb, f_Mo_move u S (nI a) (nI b) = (upd S.1 b (S.1 a), upd S.2.1 b (S.2.1 a), upd S.2.2.1 b (S.2.2.1 a), mb) ∧ (∀ d, d < 1024 → mb (1024 * b + d) = S.2.2.2 (1024 * a + d)) ∧ ∀ y, (y < 1024 * b ∨ 1024 * b + 1024 ≤ y) → mb y = S.2.2.2 y := by
  unfold o_Mo_move f_Mo_move
  rw [nI_clamp (by omega), nI_clamp (by omega)]
  obtain ⟨i1, mb, i2, i3, i4⟩ := pu_moveL (u := u) (S := S) ha hb hab hf 1025 0 (upd S.1 b (S.1 a), upd S.2.1 b (S.2.1 a), upd S.2.2.1 b (S.2.2.1 a), S.2.2.2) (by omega) (by omega) (fun d hd => by omega) (fun _ _ => rfl)
  have va : vp_in (nI a) 18 := vp_in_nI ha (by omega)
  have vb : vp_in (nI b) 18 := vp_in_nI hb (by omega)
  exact ⟨⟨va, vb, va, vb, va, vb, i1⟩, mb, i2, i3, i4⟩
theorem pu_unmapL {S0 : cd_Mo × cd_Ia × cd_Ia × cd_Ia × cd_By × cd_Ia} {k : Int32} {ma ms mf mb : Nat → Int32} {j n : Nat} (hn : n ≤ 6) (hj : j < n) (hf : ∀ i, i < n → ∀ d, d < 1024 → fits .byte (.int (mb (1024 * i + d))) = true) : ∀ (g x : Nat) (S : cd_Mo × cd_Ia × cd_Ia × cd_Ia × cd_By × cd_Ia), j ≤ x → x < n → n - x < g + 1 → S.2.2.2.2.2 0 = nI (n - 1) → rr_cut j (x + 1) ma S.2.1 → rr_cut j (x + 1) ms S.2.2.1 → rr_cut j (x + 1) mf S.2.2.2.1 → (∀ i, i < 6 → ∀ d, d < 1024 → S.2.2.2.2.1 (1024 * i + d) = if j ≤ i ∧ i + 1 < x + 1 then mb (1024 * (i + 1) + d) else mb (1024 * i + d)) → (∀ y, 6144 ≤ y → S.2.2.2.2.1 y = mb y) → o_Mo_unmap_L42 S0 k g (nI x) S ∧ ∃ ma' ms' mf' mb', f_Mo_unmap_L42 S0 k g (nI x) S = (1, S.1, ma', ms', mf', mb', S.2.2.2.2.2) ∧ rr_cut j n ma ma' ∧ rr_cut j n ms ms' ∧ rr_cut j n mf mf' ∧ (∀ i, i < 6 → ∀ d, d < 1024 → mb' (1024 * i + d) = if j ≤ i ∧ i + 1 < n then mb (1024 * (i + 1) + d) else mb (1024 * i + d)) ∧ ∀ y, 6144 ≤ y → mb' y = mb y := by
  intro g
  induction g with
  | zero => intro x S _ _ h; omega
  | succ g ih =>
    intro x S h1 h2 h3 hr g1 g2 g3 g4 g5
    unfold o_Mo_unmap_L42 f_Mo_unmap_L42
    rw [pu_cz, hr, nI_1]
    by_cases c : n - 1 ≤ x
    · have c1 : nI (n - 1) ≤ nI x := (nI_leI (by omega) (by omega)).mpr c
      have ex : x + 1 = n := by omega
      rw [if_pos c1]
      rw [ex] at g1 g2 g3 g4
      exact ⟨⟨pu_v0, fun q => absurd c1 q, fun q => absurd c1 q⟩, _, _, _, _, rfl, g1, g2, g3, g4, g5⟩
    · have c1 : ¬ nI (n - 1) ≤ nI x := fun q => c ((nI_leI (by omega) (by omega)).mp q)
      rw [if_neg c1]
      have hfx : ∀ d, d < 1024 → fits .byte (.int (S.2.2.2.2.1 (1024 * (x + 1) + d))) = true := by
        intro d hd
        rw [g4 (x + 1) (by omega) d hd, if_neg (by omega)]
        exact hf (x + 1) (by omega) d hd
      obtain ⟨m1, mb', m2, m3, m4⟩ := pu_move (u := S.1) (S := (S.2.1, S.2.2.1, S.2.2.2.1, S.2.2.2.2.1)) (a := x + 1) (b := x) (by omega) (by omega) (by omega) hfx
      rw [m2]
      have cutU : ∀ {f f' : Nat → Int32}, rr_cut j (x + 1) f f' → rr_cut j (x + 1 + 1) f (upd f' x (f' (x + 1))) := by
        intro f f' hc i
        by_cases e : i = x
        · rw [e, pu_upds, hc (x + 1), if_neg (by omega), if_pos (by omega)]
        · rw [pu_updn e, hc i]
          by_cases q : j ≤ i ∧ i + 1 < x + 1
          · rw [if_pos q, if_pos (by omega)]
          · rw [if_neg q, if_neg (by omega)]
      obtain ⟨i1, i2⟩ := ih (x + 1) (S.1, upd S.2.1 x (S.2.1 (x + 1)), upd S.2.2.1 x (S.2.2.1 (x + 1)), upd S.2.2.2.1 x (S.2.2.2.1 (x + 1)), mb', S.2.2.2.2.2) (by omega) (by omega) (by omega) hr (cutU g1) (cutU g2) (cutU g3) (fun i hi d hd => by
        show mb' (1024 * i + d) = _
        by_cases e : i = x
        · rw [e, m3 d hd]
          show S.2.2.2.2.1 (1024 * (x + 1) + d) = _
          rw [g4 (x + 1) (by omega) d hd, if_neg (by omega), if_pos (by omega)]
        · rw [m4 _ (by omega)]
          show S.2.2.2.2.1 (1024 * i + d) = _
          rw [g4 i hi d hd]
          by_cases q : j ≤ i ∧ i + 1 < x + 1
          · rw [if_pos q, if_pos (by omega)]
          · rw [if_neg q, if_neg (by omega)]) (fun y hy => by
        show mb' y = _
        rw [m4 y (by omega)]
        exact g5 y hy)
      exact ⟨⟨pu_v0, fun _ => m1, fun _ => i1⟩, i2⟩
/-- unmap on both sides -/
theorem e_unmap (u : cd_Has) {um : cd_Mem} {S : cd_Mo × cd_Ia × cd_Ia × cd_Ia × cd_By × cd_Ia} {n : Nat} (h : mr_rel um S.2.1 S.2.2.1 S.2.2.2.1 S.2.2.2.2.1 S.2.2.2.2.2 0 n) (k : Int32) : o_Desk_unmap u um k ∧ o_Mo_unmap S k ∧ (f_Desk_unmap u um k).1 = (f_Mo_unmap S k).1 ∧ ∃ v ma ms mf mb mr n', (f_Mo_unmap S k).2 = (mo_z S.1, ma, ms, mf, mb, mr) ∧ v = (f_Desk_unmap u um k).2 ∧ mr_rel v ma ms mf mb mr 0 n' ∧ (∀ i, 6 ≤ i → ma i = S.2.1 i ∧ ms i = S.2.2.1 i ∧ mf i = S.2.2.2.1 i) ∧ (∀ i, 6144 ≤ i → mb i = S.2.2.2.2.1 i) ∧ ∀ i, 1 ≤ i → mr i = S.2.2.2.2.2 i := by
  obtain ⟨⟨o1, o2⟩, hl⟩ := mr_look (v := mo_z S.1) h k k.toInt64 pl_i
  rw [show nI 0 = (0 : Int32) from rfl] at o2 hl
  have hm := h.1
  have hn := hm.1
  have hr0 : S.2.2.2.2.2 0 = nI n := h.2.2.1
  unfold o_Desk_unmap o_Mo_unmap f_Desk_unmap f_Mo_unmap o_Mem_removeRegion f_Mem_removeRegion
  dsimp only [mo_z] at o2 hl ⊢
  rcases hl with ⟨e1, e2, -⟩ | ⟨i, j, hi, hj, e1, e2, hin, hsm⟩
  · rw [e1, e2, if_pos rfl, if_pos rfl]
    exact ⟨⟨o1, fun q => absurd rfl q, fun q => absurd rfl q, fun q => absurd rfl q⟩, ⟨o2, fun q => absurd rfl q, fun q => absurd rfl q, fun q => absurd rfl q, fun q => absurd rfl q⟩, rfl, _, _, _, _, _, _, n, rfl, rfl, h, fun _ _ => ⟨rfl, rfl, rfl⟩, fun _ _ => rfl, fun _ _ => rfl⟩
  · have d1 : ¬ nI i = -1 := pu_m1 (by omega)
    have d2 : ¬ nI (6 * 0 + j) = -1 := pu_m1 (by omega)
    have ej : 6 * 0 + j = j := by omega
    rw [e1, e2, if_neg d1, if_neg d2, nI_clamp (by omega), nI_clamp (by omega), pu_cz, hr0]
    have ea : (um.2.2 (um.2.1 i)).1 = S.2.1 (6 * 0 + j) := hsm.1
    have v6 : vp_in (nI i) 6 := vp_in_nI (by omega) (by omega)
    have v18 : vp_in (nI (6 * 0 + j)) 18 := vp_in_nI (by omega) (by omega)
    rw [ea]
    by_cases c : S.2.1 (6 * 0 + j) = k
    · rw [if_pos c, if_pos c]
      have esl : mm_sl um.2.1 i i = um.2.1 := by
        funext y
        unfold mm_sl
        rw [if_neg (by omega)]
      obtain ⟨r1, r2⟩ := mm_remL (u := um) hn hm.2.1 k hi 7 i (Nat.le_refl _) hi (by omega)
      rw [esl] at r1 r2
      have hfm : ∀ i, i < n → ∀ d, d < 1024 → fits .byte (.int (S.2.2.2.2.1 (1024 * i + d))) = true := by
        obtain ⟨hm', ho, hr, si, ta, s1, s2, s3⟩ := h
        intro y hy d hd
        obtain ⟨t1, t2⟩ := s2 y hy
        have q := (s3 (ta y) t1).2.2.2 d hd
        rw [t2] at q
        dsimp only [rr_rg] at q
        rw [show 6 * 0 + y = y by omega] at q
        rw [← q]
        exact hm'.2.2.2.2.2.2 _ (hm'.2.2.1 _ (by omega)) d
      have cut0 : ∀ f : Nat → Int32, rr_cut j (j + 1) f f := fun f y => by rw [if_neg (by omega)]
      have em : nI n - (1 : Int32) = nI (n - 1) := by
        obtain ⟨m, rfl⟩ : ∃ m, n = m + 1 := ⟨n - 1, by omega⟩
        exact nI_pred m
      rw [em, ej]
      obtain ⟨l1, ma', ms', mf', mb', l2, l3, l4, l5, l6, l7⟩ := pu_unmapL (S0 := S) (k := k) (ma := S.2.1) (ms := S.2.2.1) (mf := S.2.2.2.1) (mb := S.2.2.2.2.1) hn hj hfm 7 j (((0 : Int32), S.1.2.1, S.1.2.2.1, S.1.2.2.2.1, S.1.2.2.2.2.1, S.1.2.2.2.2.2), S.2.1, S.2.2.1, S.2.2.2.1, S.2.2.2.2.1, upd S.2.2.2.2.2 0 (nI (n - 1))) (Nat.le_refl _) hj (by omega) (show upd S.2.2.2.2.2 0 (nI (n - 1)) 0 = nI (n - 1) from pu_upds) (cut0 _) (cut0 _) (cut0 _) (fun y hy d hd => by rw [if_neg (by omega)]) (fun _ _ => rfl)
      rw [l2]
      rw [show ((um.1, um.2.1, um.2.2) : cd_Mem) = um from rfl] at r1 r2
      rw [r2]
      rw [ej] at v18
      refine ⟨⟨o1, fun _ => v6, fun _ _ => v6, fun _ _ => r1⟩, ⟨o2, fun _ => v18, fun _ _ => pu_v0, fun _ _ => pu_v0, fun _ _ => l1⟩, rfl, _, _, _, _, _, _, n - 1, rfl, rfl, mr_del h hi hj hsm l3 l4 l5 l6 (show upd S.2.2.2.2.2 0 (nI (n - 1)) 0 = nI (n - 1) from pu_upds), fun y hy => ?_, l7, fun y hy => pu_updn (by omega)⟩
      rw [l3 y, l4 y, l5 y, if_neg (by omega), if_neg (by omega), if_neg (by omega)]
      exact ⟨rfl, rfl, rfl⟩
    · rw [if_neg c, if_neg c]
      exact ⟨⟨o1, fun _ => v6, fun _ q => absurd q c, fun _ q => absurd q c⟩, ⟨o2, fun _ => v18, fun _ q => absurd q c, fun _ q => absurd q c, fun _ q => absurd q c⟩, rfl, _, _, _, _, _, _, n, rfl, rfl, h, fun _ _ => ⟨rfl, rfl, rfl⟩, fun _ _ => rfl, fun _ _ => rfl⟩
