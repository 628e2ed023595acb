-- the entries looked at: fields
def en_n (E : Nat → Int32) (c : Nat) : Nat → Prop
  | 0 => E 0 = 4
  | 1 => ((52 + 32 * c : Nat) : Int) ≤ (E 1).toInt
  | 2 => E 2 = 0
  | 3 => E 3 = 0
  | 4 => 0 ≤ (E 4).toInt
  | 5 => E 5 = E 4
  | 6 => E 6 = 0
  | _ => E 7 = 4
def en_r (E : Nat → Int32) (c : Nat) : Nat → Prop
  | 0 => E 0 = 1
  | 1 => ((52 + 32 * c : Nat) : Int) ≤ (E 1).toInt
  | 2 => 0 ≤ (E 2).toInt ∧ (E 2).toInt % 64 = 0
  | 3 => E 3 = 0
  | 4 => 0 ≤ (E 4).toInt ∧ (E 4).toInt ≤ 1024 ∧ (E 4).toInt % 64 = 0
  | 5 => 64 ≤ (E 5).toInt ∧ (E 5).toInt ≤ 1024 ∧ (E 5).toInt % 64 = 0 ∧ (E 2).toInt + (E 5).toInt ≤ 2147483648 ∧ (E 4).toInt ≤ (E 5).toInt
  | 6 => 0 ≤ (E 6).toInt ∧ (E 6).toInt ≤ 7
  | _ => E 7 = 64
/-- the fields of entry i, as the reference reads them -/
def tp_E (mp : Nat → Int32) (i r : Nat) : Int32 := f_Mo_fourAt (0, 0, 0, 0, 0, 0) mp (nI (52 + 32 * i + 4 * r))
theorem pu_spanI {k x : Int32} (h1 : 0 ≤ k.toInt) (h2 : k.toInt % 64 = 0) : (f_Mem_isSpan k x = 1 ∧ 64 ≤ x.toInt ∧ x.toInt ≤ 1024 ∧ x.toInt % 64 = 0 ∧ k.toInt + x.toInt ≤ 2147483648) ∨ (f_Mem_isSpan k x = 0 ∧ ¬ (64 ≤ x.toInt ∧ x.toInt ≤ 1024 ∧ x.toInt % 64 = 0 ∧ k.toInt + x.toInt ≤ 2147483648)) := by
  have z0 : (0 : Int32).toInt = 0 := by decide
  have z1 : (1 : Int32).toInt = 1 := by decide
  have z2 : (64 : Int32).toInt = 64 := by decide
  have z3 : (1024 : Int32).toInt = 1024 := by decide
  have z4 : (2147483647 : Int32).toInt = 2147483647 := nI_toInt (n := 2147483647) (by omega)
  have hr := pu_rng k
  unfold f_Mem_isSpan
  have c1 : ¬ k < 0 := by rw [pu_lt]; omega
  have c2 : k - k / 64 * 64 = 0 := by rw [pu_eq, pu_rem64 (by omega)]; omega
  rw [if_neg c1, if_pos c2]
  by_cases c3 : x < 64
  · rw [if_pos c3]
    rw [pu_lt] at c3
    exact Or.inr ⟨rfl, by omega⟩
  · rw [if_neg c3]
    rw [pu_lt] at c3
    by_cases c4 : (1024 : Int32) < x
    · rw [if_pos c4]
      rw [pu_lt] at c4
      exact Or.inr ⟨rfl, by omega⟩
    · rw [if_neg c4]
      rw [pu_lt] at c4
      by_cases c5 : x - x / 64 * 64 = 0
      · rw [if_pos c5]
        rw [pu_eq, pu_rem64 (by omega)] at c5
        have e1 : (x - 1).toInt = x.toInt - 1 := by rw [pu_sub (by omega) (by omega), z1]
        have e2 : ((2147483647 : Int32) - (x - 1)).toInt = 2147483648 - x.toInt := by rw [pu_sub (by omega) (by omega), z4, e1]; omega
        by_cases c6 : (2147483647 : Int32) - (x - 1) < k
        · rw [if_pos c6]
          rw [pu_lt, e2] at c6
          exact Or.inr ⟨rfl, by omega⟩
        · rw [if_neg c6]
          rw [pu_lt, e2] at c6
          exact Or.inl ⟨rfl, by omega⟩
      · rw [if_neg c5]
        rw [pu_eq, pu_rem64 (by omega)] at c5
        exact Or.inr ⟨rfl, by omega⟩
section
variable {up : cd_Row} {sz : Int32} {mp : Nat → Int32} {L c : Nat}
theorem tp_f (h : rw_rel up 8192 sz mp L) (hc : tp_n mp L c) (u : cd_Tc) {i r : Nat} (hi : i < c) (hr : r < 8) : o_Tc_entryField u 8192 up (nI i) (nI r) ∧ f_Tc_entryField u 8192 up (nI i) (nI r) = tp_E mp i r ∧ f_Tc_fieldPlace u (nI i) (nI r) = nI (52 + 32 * i + 4 * r) := by
  have hc2 := hc.2.2.1
  have hc3 := hc.2.2.2
  have e : f_Tc_fieldPlace u (nI i) (nI r) = nI (52 + 32 * i + 4 * r) := by
    unfold f_Tc_fieldPlace
    rw [show (52 : Int32) = nI 52 from rfl, show (32 : Int32) = nI 32 from rfl, show (4 : Int32) = nI 4 from rfl, pk_mul, pk_mul, nI_add, nI_add, Nat.mul_comm i 32]
  obtain ⟨p1, -, -, p4⟩ := tp_4 h (0, 0, 0, 0, 0, 0) (p := 52 + 32 * i + 4 * r) (by omega)
  unfold o_Tc_entryField f_Tc_entryField
  rw [e]
  exact ⟨p1, p4, rfl⟩
theorem tp_p (h : rw_rel up 8192 sz mp L) (hc : tp_n mp L c) (u : cd_Tc) : o_Tc_entries u 8192 up ∧ f_Tc_entries u 8192 up = nI c ∧ f_Tc_fieldPlace u (f_Tc_entries u 8192 up) 0 = nI (52 + 32 * c) := by
  have hc2 := hc.2.2.1
  have hc3 := hc.2.2.2
  obtain ⟨p1, -, p3, -⟩ := tp_c h (by omega) (0, 0, 0, 0, 0, 0)
  have e : f_Tc_entries u 8192 up = nI c := p3.trans hc.1
  refine ⟨p1, e, ?_⟩
  rw [e]
  unfold f_Tc_fieldPlace
  rw [show (52 : Int32) = nI 52 from rfl, show (32 : Int32) = nI 32 from rfl, show (4 : Int32) * 0 = nI 0 by decide, pk_mul, nI_add, nI_add, Nat.mul_comm c 32]
  rfl
theorem cl_n (h : rw_rel up 8192 sz mp L) (hc : tp_n mp L c) (u : cd_Tc) {r : Nat} (hr : r < 8) : o_Tc_notesFieldFits u 8192 up (nI r) (tp_E mp 0 r) ∧ ((f_Tc_notesFieldFits u 8192 up (nI r) (tp_E mp 0 r) = 1 ∧ en_n (tp_E mp 0) c r) ∨ (f_Tc_notesFieldFits u 8192 up (nI r) (tp_E mp 0 r) = 0 ∧ ¬ en_n (tp_E mp 0) c r)) := by
  have hc1 := hc.2.1
  have hc2 := hc.2.2.1
  obtain ⟨o1, o2, o3⟩ := tp_p h hc u
  obtain ⟨q1, q2, -⟩ := tp_f h hc u (i := 0) (r := 4) (by omega) (by omega)
  rw [show nI 0 = (0 : Int32) from rfl, show nI 4 = (4 : Int32) from rfl] at q1 q2
  refine ⟨⟨fun _ _ => o1, fun _ _ _ _ _ _ => q1⟩, ?_⟩
  have z0 : (0 : Int32).toInt = 0 := by decide
  have yes : ∀ (P : Prop) (A : Prop) [Decidable A], (A ↔ P) → ((if A then (1 : Int32) else 0) = 1 ∧ P) ∨ ((if A then (1 : Int32) else 0) = 0 ∧ ¬ P) := by
    intro P A _ hA
    by_cases q : A
    · rw [if_pos q]; exact Or.inl ⟨rfl, hA.mp q⟩
    · rw [if_neg q]; exact Or.inr ⟨rfl, fun z => q (hA.mpr z)⟩
  have no : ∀ (P : Prop) (A : Prop) [Decidable A], (A ↔ ¬ P) → ((if A then (0 : Int32) else 1) = 1 ∧ P) ∨ ((if A then (0 : Int32) else 1) = 0 ∧ ¬ P) := by
    intro P A _ hA
    by_cases q : A
    · rw [if_pos q]; exact Or.inr ⟨rfl, hA.mp q⟩
    · rw [if_neg q]; exact Or.inl ⟨rfl, Classical.byContradiction fun z => q (hA.mpr z)⟩
  unfold f_Tc_notesFieldFits
  have cases8 : r = 0 ∨ r = 1 ∨ r = 2 ∨ r = 3 ∨ r = 4 ∨ r = 5 ∨ r = 6 ∨ r = 7 := by omega
  rcases cases8 with rfl | rfl | rfl | rfl | rfl | rfl | rfl | rfl
  · rw [if_pos (by decide)]
    exact yes _ _ Iff.rfl
  · rw [if_neg (by decide), if_pos (by decide), o3]
    apply no
    rw [pu_lt, nI_toInt (by omega)]
    show _ ↔ ¬ ((52 + 32 * c : Nat) : Int) ≤ (tp_E mp 0 1).toInt
    omega
  · rw [if_neg (by decide), if_neg (by decide), if_pos (by decide)]
    exact yes _ _ Iff.rfl
  · rw [if_neg (by decide), if_neg (by decide), if_neg (by decide), if_pos (by decide)]
    exact yes _ _ Iff.rfl
  · rw [if_neg (by decide), if_neg (by decide), if_neg (by decide), if_neg (by decide), if_pos (by decide)]
    apply no
    rw [pu_lt]
    show _ ↔ ¬ 0 ≤ (tp_E mp 0 4).toInt
    omega
  · rw [if_neg (by decide), if_neg (by decide), if_neg (by decide), if_neg (by decide), if_neg (by decide), if_pos (by decide), q2]
    exact yes _ _ Iff.rfl
  · rw [if_neg (by decide), if_neg (by decide), if_neg (by decide), if_neg (by decide), if_neg (by decide), if_neg (by decide), if_pos (by decide)]
    exact yes _ _ Iff.rfl
  · rw [if_neg (by decide), if_neg (by decide), if_neg (by decide), if_neg (by decide), if_neg (by decide), if_neg (by decide), if_neg (by decide), if_pos (by decide)]
    exact yes _ _ Iff.rfl
theorem cl_r (h : rw_rel up 8192 sz mp L) (hc : tp_n mp L c) (u : cd_Tc) {i r : Nat} (hi : i < c) (hr : r < 8) (hb : ∀ r', r' < r → en_r (tp_E mp i) c r') : o_Tc_regionFieldFits u 8192 up (nI i) (nI r) (tp_E mp i r) ∧ ((f_Tc_regionFieldFits u 8192 up (nI i) (nI r) (tp_E mp i r) = 1 ∧ en_r (tp_E mp i) c r) ∨ (f_Tc_regionFieldFits u 8192 up (nI i) (nI r) (tp_E mp i r) = 0 ∧ ¬ en_r (tp_E mp i) c r)) := by
  have hc1 := hc.2.1
  have hc2 := hc.2.2.1
  obtain ⟨o1, o2, o3⟩ := tp_p h hc u
  obtain ⟨q1, q2, -⟩ := tp_f h hc u (i := i) (r := 4) hi (by omega)
  obtain ⟨q3, q4, -⟩ := tp_f h hc u (i := i) (r := 2) hi (by omega)
  rw [show nI 4 = (4 : Int32) from rfl] at q1 q2
  rw [show nI 2 = (2 : Int32) from rfl] at q3 q4
  refine ⟨⟨fun _ _ => o1, fun _ _ _ _ _ _ => q3, fun _ _ _ _ _ _ _ => q1⟩, ?_⟩
  have z0 : (0 : Int32).toInt = 0 := by decide
  have z7 : (7 : Int32).toInt = 7 := by decide
  have z3 : (1024 : Int32).toInt = 1024 := by decide
  have yes : ∀ (P : Prop) (A : Prop) [Decidable A], (A ↔ P) → ((if A then (1 : Int32) else 0) = 1 ∧ P) ∨ ((if A then (1 : Int32) else 0) = 0 ∧ ¬ P) := by
    intro P A _ hA
    by_cases q : A
    · rw [if_pos q]; exact Or.inl ⟨rfl, hA.mp q⟩
    · rw [if_neg q]; exact Or.inr ⟨rfl, fun z => q (hA.mpr z)⟩
  have no : ∀ (P : Prop) (A : Prop) [Decidable A], (A ↔ ¬ P) → ((if A then (0 : Int32) else 1) = 1 ∧ P) ∨ ((if A then (0 : Int32) else 1) = 0 ∧ ¬ P) := by
    intro P A _ hA
    by_cases q : A
    · rw [if_pos q]; exact Or.inr ⟨rfl, hA.mp q⟩
    · rw [if_neg q]; exact Or.inl ⟨rfl, Classical.byContradiction fun z => q (hA.mpr z)⟩
  unfold f_Tc_regionFieldFits
  have cases8 : r = 0 ∨ r = 1 ∨ r = 2 ∨ r = 3 ∨ r = 4 ∨ r = 5 ∨ r = 6 ∨ r = 7 := by omega
  rcases cases8 with rfl | rfl | rfl | rfl | rfl | rfl | rfl | rfl
  · rw [if_pos (by decide)]
    exact yes _ _ Iff.rfl
  · rw [if_neg (by decide), if_pos (by decide), o3]
    apply no
    rw [pu_lt, nI_toInt (by omega)]
    show _ ↔ ¬ ((52 + 32 * c : Nat) : Int) ≤ (tp_E mp i 1).toInt
    omega
  · rw [if_neg (by decide), if_neg (by decide), if_pos (by decide)]
    show _ ∧ (0 ≤ (tp_E mp i 2).toInt ∧ (tp_E mp i 2).toInt % 64 = 0) ∨ _ ∧ ¬ (0 ≤ (tp_E mp i 2).toInt ∧ (tp_E mp i 2).toInt % 64 = 0)
    by_cases k : tp_E mp i 2 < 0
    · rw [if_pos k]
      rw [pu_lt] at k
      exact Or.inr ⟨rfl, by omega⟩
    · rw [if_neg k]
      rw [pu_lt] at k
      apply yes
      rw [pu_eq, pu_rem64 (by omega)]
      omega
  · rw [if_neg (by decide), if_neg (by decide), if_neg (by decide), if_pos (by decide)]
    exact yes _ _ Iff.rfl
  · rw [if_neg (by decide), if_neg (by decide), if_neg (by decide), if_neg (by decide), if_pos (by decide)]
    show _ ∧ (0 ≤ (tp_E mp i 4).toInt ∧ (tp_E mp i 4).toInt ≤ 1024 ∧ (tp_E mp i 4).toInt % 64 = 0) ∨ _ ∧ ¬ (0 ≤ (tp_E mp i 4).toInt ∧ (tp_E mp i 4).toInt ≤ 1024 ∧ (tp_E mp i 4).toInt % 64 = 0)
    by_cases k : tp_E mp i 4 < 0
    · rw [if_pos k]
      rw [pu_lt] at k
      exact Or.inr ⟨rfl, by omega⟩
    · rw [if_neg k]
      rw [pu_lt] at k
      by_cases k2 : (1024 : Int32) < tp_E mp i 4
      · rw [if_pos k2]
        rw [pu_lt] at k2
        exact Or.inr ⟨rfl, by omega⟩
      · rw [if_neg k2]
        rw [pu_lt] at k2
        apply yes
        rw [pu_eq, pu_rem64 (by omega)]
        omega
  · rw [if_neg (by decide), if_neg (by decide), if_neg (by decide), if_neg (by decide), if_neg (by decide), if_pos (by decide), q2, q4]
    show _ ∧ (64 ≤ (tp_E mp i 5).toInt ∧ (tp_E mp i 5).toInt ≤ 1024 ∧ (tp_E mp i 5).toInt % 64 = 0 ∧ (tp_E mp i 2).toInt + (tp_E mp i 5).toInt ≤ 2147483648 ∧ (tp_E mp i 4).toInt ≤ (tp_E mp i 5).toInt) ∨ _ ∧ ¬ (64 ≤ (tp_E mp i 5).toInt ∧ (tp_E mp i 5).toInt ≤ 1024 ∧ (tp_E mp i 5).toInt % 64 = 0 ∧ (tp_E mp i 2).toInt + (tp_E mp i 5).toInt ≤ 2147483648 ∧ (tp_E mp i 4).toInt ≤ (tp_E mp i 5).toInt)
    obtain ⟨m1, m2⟩ : 0 ≤ (tp_E mp i 2).toInt ∧ (tp_E mp i 2).toInt % 64 = 0 := hb 2 (by omega)
    rcases pu_spanI (x := tp_E mp i 5) m1 m2 with ⟨k1, k2⟩ | ⟨k1, k2⟩
    · rw [k1, if_neg (by decide)]
      apply no
      rw [pu_lt]
      omega
    · rw [k1, if_pos rfl]
      exact Or.inr ⟨rfl, by omega⟩
  · rw [if_neg (by decide), if_neg (by decide), if_neg (by decide), if_neg (by decide), if_neg (by decide), if_neg (by decide), if_pos (by decide)]
    show _ ∧ (0 ≤ (tp_E mp i 6).toInt ∧ (tp_E mp i 6).toInt ≤ 7) ∨ _ ∧ ¬ (0 ≤ (tp_E mp i 6).toInt ∧ (tp_E mp i 6).toInt ≤ 7)
    by_cases k : tp_E mp i 6 < 0
    · rw [if_pos k]
      rw [pu_lt] at k
      exact Or.inr ⟨rfl, by omega⟩
    · rw [if_neg k]
      rw [pu_lt] at k
      apply no
      rw [pu_lt]
      omega
  · rw [if_neg (by decide), if_neg (by decide), if_neg (by decide), if_neg (by decide), if_neg (by decide), if_neg (by decide), if_neg (by decide)]
    exact yes _ _ Iff.rfl
end
