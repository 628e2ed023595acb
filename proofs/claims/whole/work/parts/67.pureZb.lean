-- the registers of a note, taken on both sides
theorem pu_ttwr {t : cd_Tt} {n i r : Nat} (hn : n ≤ 3) (hc : t.1 = nI n) (hi : i < n) (hr : r < 8) (v : Int32) : o_Tt_write t (nI i) (nI r) v ∧ (f_Tt_write t (nI i) (nI r) v).2 = (t.1, t.2.1, upd t.2.2 (8 * i + r) v) := by
  have e7 : nI i * (8 : Int32) + nI r = nI (8 * i + r) := by rw [show (8 : Int32) = nI 8 from rfl, pk_mul, nI_add, Nat.mul_comm]
  unfold o_Tt_write f_Tt_write
  rw [e7]
  refine ⟨fun _ => vp_in_nI (by omega) (by omega), ?_⟩
  rcases pu_ttv hn hc (nI i) (nI r) with ⟨q1, q2⟩ | ⟨q1, q2⟩
  · exfalso
    apply q2
    rw [nI_toInt (by omega), nI_toInt (by omega)]
    omega
  · rw [q1, if_neg (by decide), nI_clamp (by omega)]
theorem pu_c2 : (2 : Int32).toNatClampNeg = 2 := by decide
theorem pu_v2 : vp_in (2 : Int32) 3 := vp_in_nI (n := 2) (by omega) (by omega)
section
variable {up : cd_Row} {sz : Int32} {mp : Nat → Int32} {L : Nat}
theorem nt_regs (h : rw_rel up 8192 sz mp L) {p m : Nat} (hp : p + 56 ≤ L) (hm : m < 3) {Sc : cd_Tc × cd_Tt} {S0 : cd_Mo × cd_Ia × cd_Ia × cd_Ia} {kc k1 : Int32} (x4 : Int64) : ∀ (g r : Nat) (ut : cd_Tt) (S : cd_Mo × cd_Ia × cd_Ia × cd_Ia), r + g = 8 → ut.1 = nI (m + 1) → S.2.1 2 = nI m → (∀ i q, i < m + 1 → q < 8 → (i < m ∨ q < r) → ut.2.2 (8 * i + q) = S.2.2.2 (8 * (6 + i) + q)) → o_Tc_threadPasses_L99 Sc 8192 up kc (g + 1) (nI (p + 20)) (nI m) (nI r) ut ∧ o_Mo_note_L261 S0 mp (nI p) k1 (g + 1) x4 (nI r) S ∧ ∃ ut' mg', f_Tc_threadPasses_L99 Sc 8192 up kc (g + 1) (nI (p + 20)) (nI m) (nI r) ut = (1, Sc.1, ut') ∧ f_Mo_note_L261 S0 mp (nI p) k1 (g + 1) x4 (nI r) S = (x4.toInt32, S.1, upd S.2.1 2 (nI (m + 1)), S.2.2.1, mg') ∧ ut'.1 = nI (m + 1) ∧ ut'.2.1 = ut.2.1 ∧ (∀ i q, i < m + 1 → q < 8 → ut'.2.2 (8 * i + q) = mg' (8 * (6 + i) + q)) ∧ ∀ y, y < 48 → mg' y = S.2.2.2 y := by
  have hL8 := h.1
  intro g
  induction g with
  | zero =>
    intro r ut S hr hu hS hb
    have e : r = 8 := by omega
    subst e
    unfold o_Tc_threadPasses_L99 o_Mo_note_L261 f_Tc_threadPasses_L99 f_Mo_note_L261
    have c1 : (8 : Int32) ≤ nI 8 := by decide
    rw [if_pos c1, if_pos c1, pu_c2, hS, nI_1 m]
    exact ⟨⟨fun q => absurd c1 q, fun q => absurd c1 q, fun q => absurd c1 q⟩, ⟨fun _ => pu_v2, fun _ => pu_v2, fun q => absurd c1 q, fun q => absurd c1 q, fun q => absurd c1 q, fun q => absurd c1 q⟩, ut, S.2.2.2, rfl, rfl, hu, rfl, fun i q h1 h2 => hb i q h1 h2 (Or.inr h2), fun _ _ => rfl⟩
  | succ g ih =>
    intro r ut S hr hu hS hb
    unfold o_Tc_threadPasses_L99 o_Mo_note_L261 f_Tc_threadPasses_L99 f_Mo_note_L261
    have c1 : ¬ (8 : Int32) ≤ nI r := fun q => by have := (nI_leI (a := 8) (by omega) (by omega)).mp q; omega
    obtain ⟨q1, q2, -, q4⟩ := tp_4 h S.1 (p := p + 24 + 4 * r) (by omega)
    have e1 : nI (p + 20) + 4 + 4 * nI r = nI (p + 24 + 4 * r) := by
      rw [show (4 : Int32) = nI 4 from rfl, pk_mul, nI_add, nI_add]
    have e2 : nI p + 24 + 4 * nI r = nI (p + 24 + 4 * r) := by
      rw [show (4 : Int32) = nI 4 from rfl, show (24 : Int32) = nI 24 from rfl, pk_mul, nI_add, nI_add]
    have e3 : (8 : Int32) * (6 + nI m) + nI r = nI (8 * (6 + m) + r) := by
      rw [show (8 : Int32) = nI 8 from rfl, show (6 : Int32) = nI 6 from rfl, nI_add, pk_mul, nI_add]
    obtain ⟨w1, w2⟩ := pu_ttwr (t := ut) (n := m + 1) (i := m) (r := r) (by omega) hu (by omega) (by omega) (f_Mo_fourAt S.1 mp (nI (p + 24 + 4 * r)))
    rw [if_neg c1, if_neg c1, pu_c2, hS, e1, e2, e3, q4, w2, nI_clamp (by omega), nI_1]
    obtain ⟨i1, i2, ut', mg', i3, i4, i5, i6, i7, i8⟩ := ih (r + 1) (ut.1, ut.2.1, upd ut.2.2 (8 * m + r) (f_Mo_fourAt S.1 mp (nI (p + 24 + 4 * r)))) (S.1, S.2.1, S.2.2.1, upd S.2.2.2 (8 * (6 + m) + r) (f_Mo_fourAt S.1 mp (nI (p + 24 + 4 * r)))) (by omega) hu hS (fun i q h1 h2 h3 => by
      show upd ut.2.2 (8 * m + r) _ (8 * i + q) = upd S.2.2.2 (8 * (6 + m) + r) _ (8 * (6 + i) + q)
      rw [pu_upd, pu_upd]
      by_cases e : i = m ∧ q = r
      · obtain ⟨e1, e2⟩ := e
        subst e1; subst e2
        rw [if_pos rfl, if_pos rfl]
      · rw [if_neg (by omega), if_neg (by omega)]
        exact hb i q h1 h2 (by omega))
    refine ⟨⟨fun _ => q1, fun _ => w1, fun _ => i1⟩, ⟨fun q => absurd q c1, fun q => absurd q c1, fun _ => pu_v2, fun _ => q2, fun _ => vp_in_nI (by omega) (by omega), fun _ => i2⟩, ut', mg', i3, i4, i5, i6, i7, fun y hy => ?_⟩
    rw [i8 y hy]
    exact pu_updn (by omega)
end
