section
variable {up : cd_Row} {sz : Int32} {mp : Nat → Int32} {L c : Nat}
theorem ml_r (h : rw_rel up 8192 sz mp L) (hc : tp_n mp L c) (v : cd_Mo) {i : Nat} (hi : i < c) : o_Mo_badField v mp (nI (52 + 32 * i)) 0 (nI (52 + 32 * c)) ∧ ∃ r0, r0 ≤ 8 ∧ f_Mo_badField v mp (nI (52 + 32 * i)) 0 (nI (52 + 32 * c)) = nI r0 ∧ (∀ r, r < r0 → en_r (tp_E mp i) c r) ∧ (r0 < 8 → ¬ en_r (tp_E mp i) c r0) := by
  have hc1 := hc.2.1
  have hc2 := hc.2.2.1
  have M := tp_m h hc v hi
  have m0 := M 0 (by omega)
  have m1 := M 1 (by omega)
  have m2 := M 2 (by omega)
  have m3 := M 3 (by omega)
  have m4 := M 4 (by omega)
  have m5 := M 5 (by omega)
  have m6 := M 6 (by omega)
  have m7 := M 7 (by omega)
  rw [show 52 + 32 * i + 4 * 0 = 52 + 32 * i from rfl] at m0
  rw [show nI (52 + 32 * i + 4 * 1) = nI (52 + 32 * i) + 4 from (nI_add _ 4).symm] at m1
  rw [show nI (52 + 32 * i + 4 * 2) = nI (52 + 32 * i) + 8 from (nI_add _ 8).symm] at m2
  rw [show nI (52 + 32 * i + 4 * 3) = nI (52 + 32 * i) + 12 from (nI_add _ 12).symm] at m3
  rw [show nI (52 + 32 * i + 4 * 4) = nI (52 + 32 * i) + 16 from (nI_add _ 16).symm] at m4
  rw [show nI (52 + 32 * i + 4 * 5) = nI (52 + 32 * i) + 20 from (nI_add _ 20).symm] at m5
  rw [show nI (52 + 32 * i + 4 * 6) = nI (52 + 32 * i) + 24 from (nI_add _ 24).symm] at m6
  rw [show nI (52 + 32 * i + 4 * 7) = nI (52 + 32 * i) + 28 from (nI_add _ 28).symm] at m7
  refine ⟨⟨m2.1, m4.1, m5.1, m6.1, m0.1, fun _ _ => m1.1, fun _ _ _ _ _ => m3.1, fun _ _ _ _ _ _ _ _ _ _ _ _ _ _ _ _ => m7.1, fun q => absurd rfl q, fun q => absurd rfl q, fun q => absurd rfl q⟩, ?_⟩
  unfold f_Mo_badField
  rw [if_pos rfl, m0.2, m1.2, m2.2, m3.2, m4.2, m5.2, m6.2, m7.2]
  have z0 : (0 : Int32).toInt = 0 := by decide
  have z7 : (7 : Int32).toInt = 7 := by decide
  have z64 : (64 : Int32).toInt = 64 := by decide
  have z3 : (1024 : Int32).toInt = 1024 := by decide
  have z9 : (2147483648 : Int64).toInt = 2147483648 := by decide
  have k1 : nI (52 + 32 * c) ≤ tp_E mp i 1 ↔ en_r (tp_E mp i) c 1 := by
    rw [pu_le, nI_toInt (by omega)]
    exact Iff.rfl
  have lt : ∀ (n : Nat), (∀ r, r < n → en_r (tp_E mp i) c r) → en_r (tp_E mp i) c n → ∀ r, r < n + 1 → en_r (tp_E mp i) c r := by
    intro n h1 h2 r hr
    by_cases e : r = n
    · rw [e]; exact h2
    · exact h1 r (by omega)
  have p0 : ∀ r, r < 0 → en_r (tp_E mp i) c r := fun r hr => by omega
  by_cases q0 : tp_E mp i 0 = 1
  rotate_left
  · rw [if_neg q0]
    exact ⟨0, by omega, rfl, p0, fun _ => q0⟩
  rw [if_pos q0]
  have p1 := lt 0 p0 q0
  by_cases q1 : nI (52 + 32 * c) ≤ tp_E mp i 1
  rotate_left
  · rw [if_neg q1]
    exact ⟨1, by omega, rfl, p1, fun _ z => q1 (k1.mpr z)⟩
  rw [if_pos q1]
  have p2 := lt 1 p1 (k1.mp q1)
  by_cases q2 : tp_E mp i 2 < 0
  · rw [if_pos q2]
    rw [pu_lt] at q2
    refine ⟨2, by omega, rfl, p2, fun _ z => ?_⟩
    have z' : 0 ≤ (tp_E mp i 2).toInt ∧ (tp_E mp i 2).toInt % 64 = 0 := z
    omega
  rw [if_neg q2]
  rw [pu_lt] at q2
  by_cases q2b : tp_E mp i 2 - tp_E mp i 2 / 64 * 64 = 0
  rotate_left
  · rw [if_neg q2b]
    rw [pu_eq, pu_rem64 (by omega)] at q2b
    refine ⟨2, by omega, rfl, p2, fun _ z => ?_⟩
    have z' : 0 ≤ (tp_E mp i 2).toInt ∧ (tp_E mp i 2).toInt % 64 = 0 := z
    omega
  rw [if_pos q2b]
  rw [pu_eq, pu_rem64 (by omega)] at q2b
  have p3 := lt 2 p2 (show 0 ≤ (tp_E mp i 2).toInt ∧ (tp_E mp i 2).toInt % 64 = 0 by omega)
  by_cases q3 : tp_E mp i 3 = 0
  rotate_left
  · rw [if_neg q3]
    exact ⟨3, by omega, rfl, p3, fun _ => q3⟩
  rw [if_pos q3]
  have p4 := lt 3 p3 q3
  by_cases q4 : tp_E mp i 4 < 0
  · rw [if_pos q4]
    rw [pu_lt] at q4
    refine ⟨4, by omega, rfl, p4, fun _ z => ?_⟩
    have z' : 0 ≤ (tp_E mp i 4).toInt ∧ (tp_E mp i 4).toInt ≤ 1024 ∧ (tp_E mp i 4).toInt % 64 = 0 := z
    omega
  rw [if_neg q4]
  rw [pu_lt] at q4
  by_cases q4b : tp_E mp i 4 - tp_E mp i 4 / 64 * 64 = 0
  rotate_left
  · rw [if_neg q4b]
    rw [pu_eq, pu_rem64 (by omega)] at q4b
    refine ⟨4, by omega, rfl, p4, fun _ z => ?_⟩
    have z' : 0 ≤ (tp_E mp i 4).toInt ∧ (tp_E mp i 4).toInt ≤ 1024 ∧ (tp_E mp i 4).toInt % 64 = 0 := z
    omega
  rw [if_pos q4b]
  rw [pu_eq, pu_rem64 (by omega)] at q4b
  by_cases q4c : tp_E mp i 4 ≤ 1024
  rotate_left
  · rw [if_neg q4c]
    rw [pu_le] at q4c
    refine ⟨4, by omega, rfl, p4, fun _ z => ?_⟩
    have z' : 0 ≤ (tp_E mp i 4).toInt ∧ (tp_E mp i 4).toInt ≤ 1024 ∧ (tp_E mp i 4).toInt % 64 = 0 := z
    omega
  rw [if_pos q4c]
  rw [pu_le] at q4c
  have p5 := lt 4 p4 (show 0 ≤ (tp_E mp i 4).toInt ∧ (tp_E mp i 4).toInt ≤ 1024 ∧ (tp_E mp i 4).toInt % 64 = 0 by omega)
  have r2 := pu_rng (tp_E mp i 2)
  have r5 := pu_rng (tp_E mp i 5)
  have esum : ((tp_E mp i 2).toInt64 + (tp_E mp i 5).toInt64).toInt = (tp_E mp i 2).toInt + (tp_E mp i 5).toInt := by
    rw [pl_add (by rw [pl_i, pl_i]; omega) (by rw [pl_i, pl_i]; omega), pl_i, pl_i]
  have bad5 : ∀ {P : Prop}, (64 ≤ (tp_E mp i 5).toInt ∧ (tp_E mp i 5).toInt ≤ 1024 ∧ (tp_E mp i 5).toInt % 64 = 0 ∧ (tp_E mp i 2).toInt + (tp_E mp i 5).toInt ≤ 2147483648 ∧ (tp_E mp i 4).toInt ≤ (tp_E mp i 5).toInt → False) → ∃ r0, r0 ≤ 8 ∧ (5 : Int32) = nI r0 ∧ (∀ r, r < r0 → en_r (tp_E mp i) c r) ∧ (r0 < 8 → ¬ en_r (tp_E mp i) c r0) := fun hno => ⟨5, by omega, rfl, p5, fun _ z => hno z⟩
  by_cases q5a : tp_E mp i 5 - tp_E mp i 5 / 64 * 64 = 0
  rotate_left
  · rw [if_neg q5a]
    refine bad5 (P := True) (fun z => q5a ?_)
    rw [pu_eq, pu_rem64 (by omega)]
    omega
  rw [if_pos q5a]
  by_cases q5b : tp_E mp i 5 < 64
  · rw [if_pos q5b]
    rw [pu_lt] at q5b
    exact bad5 (P := True) (fun z => by omega)
  rw [if_neg q5b]
  rw [pu_lt] at q5b
  rw [pu_eq, pu_rem64 (by omega)] at q5a
  by_cases q5c : (1024 : Int32) < tp_E mp i 5
  · rw [if_pos q5c]
    rw [pu_lt] at q5c
    exact bad5 (P := True) (fun z => by omega)
  rw [if_neg q5c]
  rw [pu_lt] at q5c
  by_cases q5d : tp_E mp i 5 < tp_E mp i 4
  · rw [if_pos q5d]
    rw [pu_lt] at q5d
    exact bad5 (P := True) (fun z => by omega)
  rw [if_neg q5d]
  rw [pu_lt] at q5d
  by_cases q5e : (tp_E mp i 2).toInt64 + (tp_E mp i 5).toInt64 ≤ (2147483648 : Int64)
  rotate_left
  · rw [if_neg q5e]
    rw [pl_le, esum, z9] at q5e
    exact bad5 (P := True) (fun z => by omega)
  rw [if_pos q5e]
  rw [pl_le, esum, z9] at q5e
  have p6 := lt 5 p5 (show 64 ≤ (tp_E mp i 5).toInt ∧ (tp_E mp i 5).toInt ≤ 1024 ∧ (tp_E mp i 5).toInt % 64 = 0 ∧ (tp_E mp i 2).toInt + (tp_E mp i 5).toInt ≤ 2147483648 ∧ (tp_E mp i 4).toInt ≤ (tp_E mp i 5).toInt by omega)
  by_cases q6 : tp_E mp i 6 < 0
  · rw [if_pos q6]
    rw [pu_lt] at q6
    refine ⟨6, by omega, rfl, p6, fun _ z => ?_⟩
    have z' : 0 ≤ (tp_E mp i 6).toInt ∧ (tp_E mp i 6).toInt ≤ 7 := z
    omega
  rw [if_neg q6]
  rw [pu_lt] at q6
  by_cases q6b : tp_E mp i 6 ≤ 7
  rotate_left
  · rw [if_neg q6b]
    rw [pu_le] at q6b
    refine ⟨6, by omega, rfl, p6, fun _ z => ?_⟩
    have z' : 0 ≤ (tp_E mp i 6).toInt ∧ (tp_E mp i 6).toInt ≤ 7 := z
    omega
  rw [if_pos q6b]
  rw [pu_le] at q6b
  have p7 := lt 6 p6 (show 0 ≤ (tp_E mp i 6).toInt ∧ (tp_E mp i 6).toInt ≤ 7 by omega)
  by_cases q7 : tp_E mp i 7 = 64
  · rw [if_pos q7]
    exact ⟨8, by omega, rfl, lt 7 p7 q7, fun z => by omega⟩
  · rw [if_neg q7]
    exact ⟨7, by omega, rfl, p7, fun _ => q7⟩
/-- the fields of one entry on both sides -/
theorem e_fields (h : rw_rel up 8192 sz mp L) (hc : tp_n mp L c) (u : cd_Tc) (v : cd_Mo) {i : Nat} (hi : i < c) : o_Tc_fieldsPass u 8192 up (nI i) ∧ o_Mo_badField v mp (nI (52 + 32 * i)) (if i = 0 then 1 else 0) (nI (52 + 32 * c)) ∧ ((f_Tc_fieldsPass u 8192 up (nI i) = (1, u) ∧ f_Mo_badField v mp (nI (52 + 32 * i)) (if i = 0 then 1 else 0) (nI (52 + 32 * c)) = 8 ∧ ∀ r, r < 8 → enf (tp_E mp i) c i r) ∨ ∃ r0, r0 < 8 ∧ f_Tc_fieldsPass u 8192 up (nI i) = (0, (3, nI (52 + 32 * i + 4 * r0))) ∧ f_Mo_badField v mp (nI (52 + 32 * i)) (if i = 0 then 1 else 0) (nI (52 + 32 * c)) = nI r0) := by
  obtain ⟨a1, a2⟩ := cl_fields h hc u hi 8 0 (by omega) (fun r hr => by omega)
  obtain ⟨b1, r1, b2, b3, b4, b5⟩ : o_Mo_badField v mp (nI (52 + 32 * i)) (if i = 0 then 1 else 0) (nI (52 + 32 * c)) ∧ ∃ r0, r0 ≤ 8 ∧ f_Mo_badField v mp (nI (52 + 32 * i)) (if i = 0 then 1 else 0) (nI (52 + 32 * c)) = nI r0 ∧ (∀ r, r < r0 → enf (tp_E mp i) c i r) ∧ (r0 < 8 → ¬ enf (tp_E mp i) c i r0) := by
    by_cases e : i = 0
    · subst e
      rw [if_pos rfl]
      obtain ⟨x1, r0, x2, x3, x4, x5⟩ := ml_n h hc v
      refine ⟨x1, r0, x2, x3, fun r hr => ?_, fun hr => ?_⟩
      · unfold enf
        rw [if_pos rfl]
        exact x4 r hr
      · unfold enf
        rw [if_pos rfl]
        exact x5 hr
    · rw [if_neg e]
      obtain ⟨x1, r0, x2, x3, x4, x5⟩ := ml_r h hc v hi
      refine ⟨x1, r0, x2, x3, fun r hr => ?_, fun hr => ?_⟩
      · unfold enf
        rw [if_neg e]
        exact x4 r hr
      · unfold enf
        rw [if_neg e]
        exact x5 hr
  refine ⟨a1, b1, ?_⟩
  rcases a2 with ⟨a2, a3⟩ | ⟨r0, c1, c2, c3, c4⟩
  · have e : r1 = 8 := by
      have : ¬ r1 < 8 := fun q => b5 q (a3 r1 q)
      omega
    rw [e] at b3
    exact Or.inl ⟨a2, b3, a3⟩
  · have e : r1 = r0 := by
      rcases Nat.lt_trichotomy r1 r0 with q | q | q
      · exact absurd (c2 r1 q) (b5 (by omega))
      · exact q
      · exact absurd (b4 r0 q) c3
    rw [e] at b3
    exact Or.inr ⟨r0, c1, c4, b3⟩
end
