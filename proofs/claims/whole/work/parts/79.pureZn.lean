section
variable {up : cd_Row} {sz : Int32} {mp : Nat → Int32} {L c : Nat}
/-- a row's bytes given to a region of zeros -/
theorem pu_give (h : rw_rel up 8192 sz mp L) {f : Nat → Int32} (hf : sb_Fit f) (h0 : ∀ j, j < 1024 → f j = 0) {w z : Nat} (hz : z ≤ 1024) (hw : w + z ≤ L) : o_Row_giveBytes 8192 up 1024 f (nI w) (nI z) ∧ (∀ j, j < 1024 → f_Row_giveBytes 8192 up 1024 f (nI w) (nI z) j = if j < z then mp (w + j) else 0) ∧ sb_Fit (f_Row_giveBytes 8192 up 1024 f (nI w) (nI z)) := by
  obtain ⟨a1, a2, a3, a4, a5⟩ := h
  have z0 : (0 : Int32).toInt = 0 := by decide
  have c1 : ¬ nI w < 0 := by rw [pu_lt, nI_toInt (by omega), z0]; omega
  have c2 : ¬ nI z < 0 := by rw [pu_lt, nI_toInt (by omega), z0]; omega
  have c3 : ¬ nI 1024 < nI z := by rw [pu_lt, nI_toInt (by omega), nI_toInt (by omega)]; omega
  have c4 : ¬ up.1 < nI w := by rw [a2, pu_lt, nI_toInt (by omega), nI_toInt (by omega)]; omega
  have c5 : nI z ≤ up.1 - nI w := by
    rw [a2, pu_le, pu_sub (by rw [nI_toInt (by omega), nI_toInt (by omega)]; omega) (by rw [nI_toInt (by omega), nI_toInt (by omega)]; omega), nI_toInt (by omega), nI_toInt (by omega), nI_toInt (by omega)]
    omega
  have c6 : ¬ (0 : Int32) < 0 := by decide
  unfold o_Row_giveBytes f_Row_giveBytes
  rw [if_neg c1, if_neg c2, if_neg c3, if_neg c4, if_pos c5, pu_cz, nI_clamp (by omega), nI_clamp (by omega)]
  refine ⟨⟨fun _ _ _ _ _ => c1, fun _ _ _ _ _ => c6, fun _ _ _ _ _ => c2, fun _ _ _ _ _ => by omega, fun _ _ _ _ _ => by omega, fun _ _ _ _ _ i _ => a5 _⟩, fun j hj => ?_, fun j => ?_⟩
  · by_cases e : j < z
    · rw [if_pos e, pk_cpy_in (by omega) (by omega), Nat.sub_zero]
      exact a4 _ (by omega)
    · rw [if_neg e, pk_cpy_out (Or.inr (by omega))]
      exact h0 j hj
  · by_cases e : j < z
    · rw [pk_cpy_in (by omega) (by omega)]
      exact a5 _
    · rw [pk_cpy_out (Or.inr (by omega))]
      exact hf j
/-- one region taken: added and filled, on both sides -/
theorem mr_take (ht : rw_rel up 8192 sz mp L) {u : cd_Mem} {ma ms mf mb mr ma' ms' mf' mb' mr' : Nat → Int32} {o n : Nat} (h : mr_rel u ma ms mf mb mr o n) (hn : n < 6) {k x y : Int32} (hk : rg_ok (k, x, y, fun _ => 0)) (hh : ∀ j, j < n → ¬ rg_hit (rr_rg ma ms mf mb (6 * o + j)) k.toInt x.toInt) {w z : Nat} (hz : z ≤ 1024) (hw : w + z ≤ L) (g1 : ma' (6 * o + n) = k) (g2 : ms' (6 * o + n) = x) (g3 : mf' (6 * o + n) = y) (g4 : ∀ j, j < 1024 → mb' (1024 * (6 * o + n) + j) = if j < z then mp (w + j) else 0) (g5 : ∀ i, i < n → ma' (6 * o + i) = ma (6 * o + i) ∧ ms' (6 * o + i) = ms (6 * o + i) ∧ mf' (6 * o + i) = mf (6 * o + i)) (g6 : ∀ t, (t < 1024 * (6 * o + n) ∨ 1024 * (6 * o + n) + 1024 ≤ t) → mb' t = mb t) (g7 : mr' o = nI (n + 1)) : o_Mem_addRegion u k x y ∧ o_Mem_fillRegion (f_Mem_addRegion u k x y).2 8192 up k (nI w) (nI z) ∧ mr_rel (f_Mem_fillRegion (f_Mem_addRegion u k x y).2 8192 up k (nI w) (nI z)) ma' ms' mf' mb' mr' o (n + 1) := by
  have hm := h.1
  have ho := h.2.1
  obtain ⟨p1, p2⟩ := mm_add hm hn hk
  refine ⟨p1, ?_⟩
  rcases p2 with ⟨-, j, hj, q⟩ | ⟨-, p3, -⟩
  · exfalso
    obtain ⟨-, -, -, si, ta, s1, s2, s3⟩ := h
    obtain ⟨b1, b2, -, -⟩ := s3 j hj
    refine hh (si j) (s1 j hj).1 ?_
    unfold rg_hit at q ⊢
    rw [b1, b2] at q
    exact q
  · revert p3
    generalize (f_Mem_addRegion u k x y).2 = u'
    intro p3
    have H : mr_rel u' ma' ms' mf' (fun t => if 1024 * (6 * o + n) ≤ t ∧ t < 1024 * (6 * o + n) + 1024 then 0 else mb t) mr' o (n + 1) := by
      refine mr_add h p3 g1 g2 g3 (fun j hj => ?_) g5 (fun t ht1 ht2 => ?_) g7
      · exact if_pos (by omega)
      · exact if_neg (by omega)
    obtain ⟨hok, p, hp, q1, ⟨f, q2, q3⟩, q4⟩ := p3
    have hx : 64 ≤ x.toInt := hk.2.2.1
    have hin : rg_in (mm_rg u' p) k.toInt := by
      rw [q2]
      unfold rg_in
      dsimp only
      omega
    obtain ⟨x1, x2⟩ := pu_index hok k
    rcases x2 with ⟨-, x2⟩ | ⟨i, hi, x2, x3⟩
    · exact absurd hin (x2 p (by omega))
    · have ei := mm_uniq hok hi (by omega) x3 hin
      rw [ei] at x2
      have ef : (mm_rg u' p).2.2.2 = f := by rw [q2]
      have hff : sb_Fit f := by
        rw [← ef]
        exact hok.2.2.2.2.2.2 _ (hok.2.2.1 p (by omega))
      obtain ⟨v1, v2, v3⟩ := pu_give ht hff q3 hz hw
      rw [← ef] at v1 v2 v3
      unfold o_Mem_fillRegion f_Mem_fillRegion
      rw [x2, if_neg (pu_m1 (by omega)), nI_clamp (by omega)]
      refine ⟨⟨x1, fun _ => vp_in_nI (by omega) (by omega), fun _ => v1⟩, ?_⟩
      refine mr_bytes H (i := p) (j := n) (by omega) (by omega) ?_ v3 (fun d hd => ?_) (fun t ht' => ?_)
      · rw [q2]
        exact ⟨g1.symm, g2.symm, g3.symm, fun d hd => (q3 d hd).trans (if_pos (by omega)).symm⟩
      · rw [g4 d hd, v2 d hd]
      · rw [g6 t ht']
        exact (if_neg (by omega)).symm
/-- the bytes of a region as the reference takes them -/
theorem pu_rr84 (h : rw_rel up 8192 sz mp L) {v : cd_Mo} {S : cd_Ia × cd_Ia × cd_Ia × cd_By × cd_Ia} {k0 : Int32} {x2 x3 : Int32} {a w z : Nat} (ha : a < 18) (hz : z ≤ 1024) (hw : w + z ≤ L) (o4 : o_Mo_fourAt v mp (x3 + 4)) (f4 : f_Mo_fourAt v mp (x3 + 4) = nI w) : ∀ (g x : Nat) (ma ms mf mb mr : Nat → Int32), x ≤ 1024 → 1024 - x < g → (∀ j, j < x → mb (1024 * a + j) = if j < z then mp (w + j) else 0) → ∃ mb', (∀ j, j < 1024 → mb' (1024 * a + j) = if j < z then mp (w + j) else 0) ∧ (∀ t, (t < 1024 * a ∨ 1024 * a + 1024 ≤ t) → mb' t = mb t) ∧ ∀ (K : Int32 → Int32 → Int32 → Int32 → Int32 → (cd_Ia × cd_Ia × cd_Ia × cd_By × cd_Ia) → cd_Ia × cd_Ia × cd_Ia × cd_By × cd_Ia) (KO : Int32 → Int32 → Int32 → Int32 → Int32 → (cd_Ia × cd_Ia × cd_Ia × cd_By × cd_Ia) → Prop), f_Mo_readRegions_L84 v S mp k0 K g x2 x3 (nI a) (nI z) (nI x) (ma, ms, mf, mb, mr) = K x2 x3 (nI a) (nI z) (nI 1024) (ma, ms, mf, mb', mr) ∧ (KO x2 x3 (nI a) (nI z) (nI 1024) (ma, ms, mf, mb', mr) → o_Mo_readRegions_L84 v S mp k0 KO g x2 x3 (nI a) (nI z) (nI x) (ma, ms, mf, mb, mr)) := by
  obtain ⟨a1, a2, a3, a4, a5⟩ := h
  intro g
  induction g with
  | zero => intro x ma ms mf mb mr _ h; omega
  | succ g ih =>
    intro x ma ms mf mb mr hx hg hb
    have e6 : (1024 : Int32) * nI a + nI x = nI (1024 * a + x) := by rw [show (1024 : Int32) = nI 1024 from rfl, pk_mul, nI_add]
    by_cases c : 1024 ≤ x
    · have c1 : (1024 : Int32) ≤ nI x := (nI_leI (a := 1024) (by omega) (by omega)).mpr c
      have ex : x = 1024 := by omega
      subst ex
      refine ⟨mb, hb, fun _ _ => rfl, fun K KO => ?_⟩
      rw [f_Mo_readRegions_L84, o_Mo_readRegions_L84, f4, e6, nI_1, nI_clamp (by omega), nI_add w, nI_clamp (n := w + 1024) (by omega), if_pos c1]
      exact ⟨rfl, fun q => ⟨fun _ => q, fun q => absurd c1 q, fun q => absurd c1 q, fun q => absurd c1 q, fun q => absurd c1 q, fun q => absurd c1 q, fun q => absurd c1 q⟩⟩
    · have c1 : ¬ (1024 : Int32) ≤ nI x := fun q => c ((nI_leI (a := 1024) (by omega) (by omega)).mp q)
      have vi : vp_in (nI (1024 * a + x)) 18432 := vp_in_nI (by omega) (by omega)
      by_cases d : z ≤ x
      · have d1 : nI z ≤ nI x := (nI_leI (by omega) (by omega)).mpr d
        have e0 : vp_nar .byte (0 : Int32) = 0 := pu_nar (by decide)
        obtain ⟨mb', i1, i2, i3⟩ := ih (x + 1) ma ms mf (upd mb (1024 * a + x) 0) mr (by omega) (by omega) (fun j hj => by
          by_cases e : j = x
          · rw [e, pu_upds, if_neg (by omega)]
          · rw [pu_updn (by omega)]; exact hb j (by omega))
        refine ⟨mb', i1, fun t ht => (i2 t ht).trans (pu_updn (by omega)), fun K KO => ?_⟩
        rw [f_Mo_readRegions_L84, o_Mo_readRegions_L84, f4, e6, nI_1, nI_clamp (by omega), nI_add w, nI_clamp (n := w + x) (by omega), if_neg c1, if_pos d1, e0]
        exact ⟨(i3 K KO).1, fun q => ⟨fun q => absurd q c1, fun _ _ => vi, fun _ _ => (i3 K KO).2 q, fun _ q => absurd d1 q, fun _ q => absurd d1 q, fun _ q => absurd d1 q, fun _ q => absurd d1 q⟩⟩
      · have d1 : ¬ nI z ≤ nI x := fun q => d ((nI_leI (by omega) (by omega)).mp q)
        have e0 : vp_nar .byte (mp (w + x)) = mp (w + x) := pu_nar (by rw [← a4 (w + x) (by omega)]; exact a5 _)
        obtain ⟨mb', i1, i2, i3⟩ := ih (x + 1) ma ms mf (upd mb (1024 * a + x) (mp (w + x))) mr (by omega) (by omega) (fun j hj => by
          by_cases e : j = x
          · rw [e, pu_upds, if_pos (by omega)]
          · rw [pu_updn (by omega)]; exact hb j (by omega))
        refine ⟨mb', i1, fun t ht => (i2 t ht).trans (pu_updn (by omega)), fun K KO => ?_⟩
        rw [f_Mo_readRegions_L84, o_Mo_readRegions_L84, f4, e6, nI_1, nI_clamp (by omega), nI_add w, nI_clamp (n := w + x) (by omega), if_neg c1, if_neg d1, e0]
        exact ⟨(i3 K KO).1, fun q => ⟨fun q => absurd q c1, fun _ q => absurd q d1, fun _ q => absurd q d1, fun _ _ => o4, fun _ _ => vp_in_nI (by omega) (by omega), fun _ _ => vi, fun _ _ => (i3 K KO).2 q⟩⟩
end
