def enf (E : Nat → Int32) (c i r : Nat) : Prop := if i = 0 then en_n E c r else en_r E c r
section
variable {up : cd_Row} {sz : Int32} {mp : Nat → Int32} {L c : Nat}
theorem cl_fields (h : rw_rel up 8192 sz mp L) (hc : tp_n mp L c) (u : cd_Tc) {i : Nat} (hi : i < c) : ∀ (g r : Nat), r + g = 8 → (∀ r', r' < r → enf (tp_E mp i) c i r') → o_Tc_fieldsPass_L2 u 8192 up (nI i) (g + 1) (nI r) ∧ ((f_Tc_fieldsPass_L2 u 8192 up (nI i) (g + 1) (nI r) = (1, u) ∧ ∀ r', r' < 8 → enf (tp_E mp i) c i r') ∨ ∃ r0, r0 < 8 ∧ (∀ r', r' < r0 → enf (tp_E mp i) c i r') ∧ ¬ enf (tp_E mp i) c i r0 ∧ f_Tc_fieldsPass_L2 u 8192 up (nI i) (g + 1) (nI r) = (0, (3, nI (52 + 32 * i + 4 * r0)))) := by
  have hc2 := hc.2.2.1
  intro g
  induction g with
  | zero =>
    intro r hr hb
    have e : r = 8 := by omega
    subst e
    unfold o_Tc_fieldsPass_L2 f_Tc_fieldsPass_L2
    have c1 : (8 : Int32) ≤ nI 8 := by decide
    rw [if_pos c1]
    exact ⟨⟨fun q => absurd c1 q, fun q => absurd c1 q, fun q => absurd c1 q, fun q => absurd c1 q, fun q => absurd c1 q⟩, Or.inl ⟨rfl, hb⟩⟩
  | succ g ih =>
    intro r hr hb
    unfold o_Tc_fieldsPass_L2 f_Tc_fieldsPass_L2
    have c1 : ¬ (8 : Int32) ≤ nI r := fun q => by have := (nI_leI (a := 8) (by omega) (by omega)).mp q; omega
    obtain ⟨q1, q2, q3⟩ := tp_f h hc u (i := i) (r := r) hi (by omega)
    rw [if_neg c1, q2, q3, nI_1]
    by_cases c0 : i = 0
    · subst c0
      have c2 : nI 0 = (0 : Int32) := rfl
      rw [if_pos c2]
      obtain ⟨p1, p2⟩ := cl_n h hc u (r := r) (by omega)
      rcases p2 with ⟨p2, p3⟩ | ⟨p2, p3⟩
      · have d : ¬ f_Tc_notesFieldFits u 8192 up (nI r) (tp_E mp 0 r) = 0 := by rw [p2]; decide
        rw [if_neg d]
        obtain ⟨i1, i2⟩ := ih (r + 1) (by omega) (fun r' hr' => by
          by_cases e : r' = r
          · rw [e]; unfold enf; rw [if_pos rfl]; exact p3
          · exact hb r' (by omega))
        exact ⟨⟨fun _ => q1, fun _ q => absurd c2 q, fun _ q => absurd c2 q, fun _ _ => p1, fun _ _ _ => i1⟩, i2⟩
      · rw [if_pos p2]
        exact ⟨⟨fun _ => q1, fun _ q => absurd c2 q, fun _ q => absurd c2 q, fun _ _ => p1, fun _ _ q => absurd p2 q⟩, Or.inr ⟨r, by omega, hb, by unfold enf; rw [if_pos rfl]; exact p3, rfl⟩⟩
    · have c2 : ¬ nI i = (0 : Int32) := fun q => c0 ((nI_eq (b := 0) (by omega) (by omega)).mp q)
      rw [if_neg c2]
      obtain ⟨p1, p2⟩ := cl_r h hc u (i := i) (r := r) hi (by omega) (fun r' hr' => by
        have := hb r' hr'
        unfold enf at this
        rw [if_neg c0] at this
        exact this)
      rcases p2 with ⟨p2, p3⟩ | ⟨p2, p3⟩
      · have d : ¬ f_Tc_regionFieldFits u 8192 up (nI i) (nI r) (tp_E mp i r) = 0 := by rw [p2]; decide
        rw [if_neg d]
        obtain ⟨i1, i2⟩ := ih (r + 1) (by omega) (fun r' hr' => by
          by_cases e : r' = r
          · rw [e]; unfold enf; rw [if_neg c0]; exact p3
          · exact hb r' (by omega))
        exact ⟨⟨fun _ => q1, fun _ _ => p1, fun _ _ _ => i1, fun _ q => absurd q c2, fun _ q => absurd q c2⟩, i2⟩
      · rw [if_pos p2]
        exact ⟨⟨fun _ => q1, fun _ _ => p1, fun _ _ q => absurd p2 q, fun _ q => absurd q c2, fun _ q => absurd q c2⟩, Or.inr ⟨r, by omega, hb, by unfold enf; rw [if_neg c0]; exact p3, rfl⟩⟩
theorem tp_m (h : rw_rel up 8192 sz mp L) (hc : tp_n mp L c) (v : cd_Mo) {i : Nat} (hi : i < c) : ∀ r, r < 8 → o_Mo_fourAt v mp (nI (52 + 32 * i + 4 * r)) ∧ f_Mo_fourAt v mp (nI (52 + 32 * i + 4 * r)) = tp_E mp i r := by
  intro r hr
  have hc3 := hc.2.2.2
  obtain ⟨-, p2, -, -⟩ := tp_4 h v (p := 52 + 32 * i + 4 * r) (by omega)
  exact ⟨p2, rfl⟩
theorem ml_n (h : rw_rel up 8192 sz mp L) (hc : tp_n mp L c) (v : cd_Mo) : o_Mo_badField v mp (nI 52) 1 (nI (52 + 32 * c)) ∧ ∃ r0, r0 ≤ 8 ∧ f_Mo_badField v mp (nI 52) 1 (nI (52 + 32 * c)) = nI r0 ∧ (∀ r, r < r0 → en_n (tp_E mp 0) c r) ∧ (r0 < 8 → ¬ en_n (tp_E mp 0) c r0) := by
  have hc1 := hc.2.1
  have hc2 := hc.2.2.1
  have M := tp_m h hc v (i := 0) (by omega)
  have m0 := M 0 (by omega)
  have m1 := M 1 (by omega)
  have m2 := M 2 (by omega)
  have m3 := M 3 (by omega)
  have m4 := M 4 (by omega)
  have m5 := M 5 (by omega)
  have m6 := M 6 (by omega)
  have m7 := M 7 (by omega)
  rw [show 52 + 32 * 0 + 4 * 0 = 52 from rfl] at m0
  rw [show nI (52 + 32 * 0 + 4 * 1) = nI 52 + 4 by decide] at m1
  rw [show nI (52 + 32 * 0 + 4 * 2) = nI 52 + 8 by decide] at m2
  rw [show nI (52 + 32 * 0 + 4 * 3) = nI 52 + 12 by decide] at m3
  rw [show nI (52 + 32 * 0 + 4 * 4) = nI 52 + 16 by decide] at m4
  rw [show nI (52 + 32 * 0 + 4 * 5) = nI 52 + 20 by decide] at m5
  rw [show nI (52 + 32 * 0 + 4 * 6) = nI 52 + 24 by decide] at m6
  rw [show nI (52 + 32 * 0 + 4 * 7) = nI 52 + 28 by decide] at m7
  have d1 : ¬ (1 : Int32) = 0 := by decide
  refine ⟨⟨m2.1, m4.1, m5.1, m6.1, m0.1, fun q => absurd q d1, fun q => absurd q d1, fun q => absurd q d1, fun _ _ => m1.1, fun _ _ _ _ => m3.1, fun _ _ _ _ _ _ _ _ => m7.1⟩, ?_⟩
  unfold f_Mo_badField
  rw [if_neg d1, m0.2, m1.2, m2.2, m3.2, m4.2, m5.2, m6.2, m7.2]
  have z0 : (0 : Int32).toInt = 0 := by decide
  have k1 : nI (52 + 32 * c) ≤ tp_E mp 0 1 ↔ en_n (tp_E mp 0) c 1 := by
    rw [pu_le, nI_toInt (by omega)]
    exact Iff.rfl
  have k4 : tp_E mp 0 4 < 0 ↔ ¬ en_n (tp_E mp 0) c 4 := by
    rw [pu_lt]
    show _ ↔ ¬ 0 ≤ (tp_E mp 0 4).toInt
    omega
  have lt : ∀ (n : Nat), (∀ r, r < n → en_n (tp_E mp 0) c r) → en_n (tp_E mp 0) c n → ∀ r, r < n + 1 → en_n (tp_E mp 0) c r := by
    intro n h1 h2 r hr
    by_cases e : r = n
    · rw [e]; exact h2
    · exact h1 r (by omega)
  have p0 : ∀ r, r < 0 → en_n (tp_E mp 0) c r := fun r hr => by omega
  by_cases q0 : tp_E mp 0 0 = 4
  · rw [if_pos q0]
    have p1 := lt 0 p0 q0
    by_cases q1 : nI (52 + 32 * c) ≤ tp_E mp 0 1
    · rw [if_pos q1]
      have p2 := lt 1 p1 (k1.mp q1)
      by_cases q2 : tp_E mp 0 2 = 0
      · rw [if_pos q2]
        have p3 := lt 2 p2 q2
        by_cases q3 : tp_E mp 0 3 = 0
        · rw [if_pos q3]
          have p4 := lt 3 p3 q3
          by_cases q4 : tp_E mp 0 4 < 0
          · rw [if_pos q4]
            exact ⟨4, by omega, rfl, p4, fun _ => k4.mp q4⟩
          · rw [if_neg q4]
            have p5 := lt 4 p4 (Classical.byContradiction fun z => q4 (k4.mpr z))
            by_cases q5 : tp_E mp 0 5 = tp_E mp 0 4
            · rw [if_pos q5]
              have p6 := lt 5 p5 q5
              by_cases q6 : tp_E mp 0 6 = 0
              · rw [if_pos q6]
                have p7 := lt 6 p6 q6
                by_cases q7 : tp_E mp 0 7 = 4
                · rw [if_pos q7]
                  exact ⟨8, by omega, rfl, lt 7 p7 q7, fun z => by omega⟩
                · rw [if_neg q7]
                  exact ⟨7, by omega, rfl, p7, fun _ => q7⟩
              · rw [if_neg q6]
                exact ⟨6, by omega, rfl, p6, fun _ => q6⟩
            · rw [if_neg q5]
              exact ⟨5, by omega, rfl, p5, fun _ => q5⟩
        · rw [if_neg q3]
          exact ⟨3, by omega, rfl, p3, fun _ => q3⟩
      · rw [if_neg q2]
        exact ⟨2, by omega, rfl, p2, fun _ => q2⟩
    · rw [if_neg q1]
      exact ⟨1, by omega, rfl, p1, fun _ z => q1 (k1.mpr z)⟩
  · rw [if_neg q0]
    exact ⟨0, by omega, rfl, p0, fun _ => q0⟩
end
