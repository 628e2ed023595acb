section
variable {up : cd_Row} {sz : Int32} {mp : Nat → Int32} {L : Nat}
/-- the thread of a note on both sides -/
theorem e_nthread (h : rw_rel up 8192 sz mp L) (u : cd_Tc) {ut : cd_Tt} {S0 S : cd_Mo × cd_Ia × cd_Ia × cd_Ia} {p e m a : Nat} (ht : tt_rel ut S.2.1 S.2.2.1 S.2.2.2 2 m) (hpe : p + 20 ≤ e) (he : e ≤ L) (ea : f_Mo_fourAt S.1 mp (nI p + 4) = nI a) (ha : a < 2147483648) (k : p + (20 + (a + 3) / 4 * 4) ≤ e) (kk : (nI p).toInt64 + (20 + ((nI a).toInt64 + 3) / 4 * 4) ≤ (nI e).toInt64) (s1 : (20 : Int64) + ((nI a).toInt64 + 3) / 4 * 4 = lN (20 + (a + 3) / 4 * 4)) (en : f_Tc_noteSize u 8192 up (nI p) = nI a) : o_Tc_threadPasses (u, ut) 8192 up (nI p) ∧ o_Mo_note_L23 S0 mp (nI p) (nI e) 1 (nI 20) S ∧ ((∃ x ut', f_Tc_threadPasses (u, ut) 8192 up (nI p) = (0, (6, x), ut') ∧ f_Mo_note_L23 S0 mp (nI p) (nI e) 1 (nI 20) S = (-1, mo_w S.1 6 x, S.2)) ∨ ∃ ut' mt' mi' mg' m', f_Tc_threadPasses (u, ut) 8192 up (nI p) = (1, u, ut') ∧ f_Mo_note_L23 S0 mp (nI p) (nI e) 1 (nI 20) S = (nI (20 + (a + 3) / 4 * 4), S.1, mt', mi', mg') ∧ tt_rel ut' mt' mi' mg' 2 m' ∧ (∀ x, x < 2 → mt' x = S.2.1 x) ∧ (∀ x, x < 6 → mi' x = S.2.2.1 x) ∧ ∀ x, x < 48 → mg' x = S.2.2.2 x) := by
  have hL8 := h.1
  have e4 : nI p + 4 = nI (p + 4) := nI_add p 4
  have e8 : nI p + 8 = nI (p + 8) := nI_add p 8
  have e20 : nI p + 20 = nI (p + 20) := nI_add p 20
  obtain ⟨n1, n2, -, -⟩ := tp_4 h S.1 (p := p + 4) (by omega)
  obtain ⟨n3, n5, -, n6⟩ := tp_4 h S.1 (p := p + 8) (by omega)
  have ot := nt_otail (S0 := S0) (S := S) (mp := mp) (p := p) (by omega) (nI e) (by rw [e4]; exact n2) (by rw [e8]; exact n5)
  have c0 : ¬ nI a < 0 := nI_pos (by omega)
  rw [nt_tail (by omega)]
  unfold o_Tc_threadPasses f_Tc_threadPasses
  dsimp only
  rw [ea, s1] at ot
  rw [s1] at kk
  rw [ea, if_neg c0, s1, if_pos kk, en, e8, n6]
  rw [e8] at ot
  have oN : o_Tc_noteSize u 8192 up (nI p) := by
    unfold o_Tc_noteSize
    rw [e4]
    exact n1
  by_cases k8 : f_Mo_fourAt S.1 mp (nI (p + 8)) = 1
  · rw [if_pos k8, if_pos k8]
    by_cases k36 : nI a = 36
    · rw [if_pos k36, if_pos k36]
      have a36 : a = 36 := (nI_eq (b := 36) (by omega) (by omega)).mp k36
      obtain ⟨i1, i2, -, i4⟩ := tp_4 h S.1 (p := p + 20) (by omega)
      rw [e20] at ot ⊢
      rw [i4]
      obtain ⟨g1, g2, g3⟩ := pu_hasId (u := S.1) ht (f_Mo_fourAt S.1 mp (nI (p + 20)))
      rw [show nI 2 = (2 : Int32) from rfl] at g2 g3
      have hm3 := ht.1
      have hmt : S.2.1 2 = nI m := ht.2.2.2.1
      have hc := ht.2.2.1
      have oA : o_Tt_add ut (f_Mo_fourAt S.1 mp (nI (p + 20))) := ⟨fun _ => g1, fun q _ => by
        rw [hc] at q ⊢
        have : ¬ 3 ≤ m := fun z => q ((nI_leI (a := 3) (by omega) (by omega)).mpr z)
        exact vp_in_nI (by omega) (by omega)⟩
      rcases g3 with ⟨g3, g4, -⟩ | ⟨g3, g4, -⟩
      · rw [if_pos g3, if_pos g4, hmt]
        by_cases k3 : m = 3
        · have d1 : nI m = (3 : Int32) := by rw [k3]; rfl
          have d2 : (3 : Int32) ≤ ut.1 := by rw [hc, k3]; decide
          have eA : f_Tt_add ut (f_Mo_fourAt S.1 mp (nI (p + 20))) = (-1, ut) := by
            unfold f_Tt_add
            rw [if_pos d2]
          rw [eA, if_pos d1, if_pos rfl]
          refine ⟨⟨n3, fun _ => oN, fun _ _ => i1, fun _ _ => g1, fun _ _ _ => oA, fun _ _ _ q => absurd rfl q⟩, ot (fun _ _ _ _ => ⟨i2, g2, fun _ q => absurd (hmt.trans d1) q⟩), Or.inl ⟨_, _, rfl, rfl⟩⟩
        · have d1 : ¬ nI m = (3 : Int32) := fun q => k3 ((nI_eq (b := 3) (by omega) (by omega)).mp q)
          have d2 : ¬ (3 : Int32) ≤ ut.1 := by rw [hc]; exact fun q => k3 (by have := (nI_leI (a := 3) (by omega) (by omega)).mp q; omega)
          have eA : f_Tt_add ut (f_Mo_fourAt S.1 mp (nI (p + 20))) = (nI m, (nI (m + 1), upd ut.2.1 m (f_Mo_fourAt S.1 mp (nI (p + 20))), ut.2.2)) := by
            unfold f_Tt_add
            rw [if_neg d2, if_pos g3, hc, nI_1, nI_pred, nI_clamp (by omega)]
          have d3 : ¬ nI m = -1 := pu_m1 (by omega)
          have e6 : (6 : Int32) + nI m = nI (6 + m) := nI_add 6 m
          rw [eA, if_neg d1, if_neg d3, e6, nI_clamp (by omega)]
          rw [hmt, e6, nI_clamp (by omega)] at ot
          obtain ⟨w1, w2, ut', mg', w3, w4, w5, w6, w7, w8⟩ := nt_regs h (p := p) (m := m) (by omega) (by omega) (Sc := (u, ut)) (S0 := S0) (kc := nI p) (k1 := nI e) (lN (20 + (a + 3) / 4 * 4)) 8 0 (nI (m + 1), upd ut.2.1 m (f_Mo_fourAt S.1 mp (nI (p + 20))), ut.2.2) (S.1, S.2.1, upd S.2.2.1 (6 + m) (f_Mo_fourAt S.1 mp (nI (p + 20))), S.2.2.2) (by omega) rfl hmt (fun i q h1 h2 h3 => ht.2.2.2.2.2 i (by omega) q h2)
          rw [show nI 0 = (0 : Int32) from rfl] at w1 w2 w3 w4
          rw [w3, w4]
          refine ⟨⟨n3, fun _ => oN, fun _ _ => i1, fun _ _ => g1, fun _ _ _ => oA, fun _ _ _ _ => w1⟩, ot (fun _ _ _ _ => ⟨i2, g2, fun _ _ => ⟨vp_in_nI (by omega) (by omega), w2⟩⟩), Or.inr ⟨ut', _, _, mg', m + 1, rfl, by rw [lN_i], ⟨by omega, by omega, w5, pu_upds, fun i hi => ?_, fun i hi q hq => w7 i q hi hq⟩, fun x hx => pu_updn (by omega), fun x hx => pu_updn (by omega), w8⟩⟩
          rw [w6]
          show upd ut.2.1 m _ i = upd S.2.2.1 (6 + m) _ (3 * 2 + i)
          by_cases ei : i = m
          · rw [ei, pu_upds, show 3 * 2 + m = 6 + m by omega, pu_upds]
          · rw [pu_updn ei, pu_updn (by omega)]
            exact ht.2.2.2.2.1 i (by omega)
      · have dd : ¬ (1 : Int32) = 0 := by decide
        rw [g3, g4, if_neg dd, if_neg dd]
        exact ⟨⟨n3, fun _ => oN, fun _ _ => i1, fun _ _ => g1, fun _ _ q => absurd q dd, fun _ _ q => absurd q dd⟩, ot (fun _ _ _ _ => ⟨i2, g2, fun q => absurd (by rw [g4] at q; exact q) dd⟩), Or.inl ⟨_, _, rfl, rfl⟩⟩
    · rw [if_neg k36, if_neg k36]
      exact ⟨⟨n3, fun _ => oN, fun _ q => absurd q k36, fun _ q => absurd q k36, fun _ q => absurd q k36, fun _ q => absurd q k36⟩, ot (fun _ _ _ q => absurd q k36), Or.inl ⟨_, _, rfl, rfl⟩⟩
  · rw [if_neg k8, if_neg k8]
    exact ⟨⟨n3, fun q => absurd q k8, fun q => absurd q k8, fun q => absurd q k8, fun q => absurd q k8, fun q => absurd q k8⟩, ot (fun _ _ q => absurd q k8), Or.inr ⟨ut, S.2.1, S.2.2.1, S.2.2.2, m, rfl, by rw [lN_i], ht, fun _ _ => rfl, fun _ _ => rfl, fun _ _ => rfl⟩⟩
end
