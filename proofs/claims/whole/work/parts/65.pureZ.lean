def sp_ov (k x k1 x1 : Int32) : Prop := 0 < x.toInt ∧ 0 < x1.toInt ∧ k.toInt < k1.toInt + x1.toInt ∧ k1.toInt < k.toInt + x.toInt
theorem pu_meet {k x k1 x1 : Int32} (h1 : 0 ≤ k.toInt) (h3 : 0 ≤ k1.toInt) : f_Mo_meet k.toInt64 x.toInt64 k1.toInt64 x1.toInt64 = f_Mem_overlap k x k1 x1 ∧ ((f_Mem_overlap k x k1 x1 = 0 ∧ ¬ sp_ov k x k1 x1) ∨ (f_Mem_overlap k x k1 x1 = 1 ∧ sp_ov k x k1 x1)) := by
  have z0 : (0 : Int32).toInt = 0 := by decide
  have z0' : (0 : Int64).toInt = 0 := by decide
  have rk := pu_rng k
  have rx := pu_rng x
  have rk1 := pu_rng k1
  have rx1 := pu_rng x1
  have e1 : (k - k1).toInt = k.toInt - k1.toInt := pu_sub (by omega) (by omega)
  have e2 : (k1 - k).toInt = k1.toInt - k.toInt := pu_sub (by omega) (by omega)
  have e3 : (k1.toInt64 + x1.toInt64).toInt = k1.toInt + x1.toInt := by rw [pl_add (by rw [pl_i, pl_i]; omega) (by rw [pl_i, pl_i]; omega), pl_i, pl_i]
  have e4 : (k.toInt64 + x.toInt64).toInt = k.toInt + x.toInt := by rw [pl_add (by rw [pl_i, pl_i]; omega) (by rw [pl_i, pl_i]; omega), pl_i, pl_i]
  have i1 : x.toInt64 ≤ 0 ↔ x ≤ 0 := by rw [pl_le, pu_le, pl_i, z0, z0']
  have i2 : x1.toInt64 ≤ 0 ↔ x1 ≤ 0 := by rw [pl_le, pu_le, pl_i, z0, z0']
  have i3 : k1.toInt64 + x1.toInt64 ≤ k.toInt64 ↔ x1 ≤ k - k1 := by rw [pl_le, pu_le, e3, pl_i, e1]; omega
  have i4 : k.toInt64 + x.toInt64 ≤ k1.toInt64 ↔ x ≤ k1 - k := by rw [pl_le, pu_le, e4, pl_i, e2]; omega
  unfold f_Mo_meet f_Mem_overlap sp_ov
  by_cases c1 : x ≤ 0
  · rw [if_pos c1, if_pos (i1.mpr c1)]
    rw [pu_le] at c1
    exact ⟨rfl, Or.inl ⟨rfl, by omega⟩⟩
  · rw [if_neg c1, if_neg (fun q => c1 (i1.mp q))]
    rw [pu_le] at c1
    by_cases c2 : x1 ≤ 0
    · rw [if_pos c2, if_pos (i2.mpr c2)]
      rw [pu_le] at c2
      exact ⟨rfl, Or.inl ⟨rfl, by omega⟩⟩
    · rw [if_neg c2, if_neg (fun q => c2 (i2.mp q))]
      rw [pu_le] at c2
      by_cases c3 : x1 ≤ k - k1
      · rw [if_pos c3, if_pos (i3.mpr c3)]
        rw [pu_le, e1] at c3
        exact ⟨rfl, Or.inl ⟨rfl, by omega⟩⟩
      · rw [if_neg c3, if_neg (fun q => c3 (i3.mp q))]
        rw [pu_le, e1] at c3
        by_cases c4 : x ≤ k1 - k
        · rw [if_pos c4, if_pos (i4.mpr c4)]
          rw [pu_le, e2] at c4
          exact ⟨rfl, Or.inl ⟨rfl, by omega⟩⟩
        · rw [if_neg c4, if_neg (fun q => c4 (i4.mp q))]
          rw [pu_le, e2] at c4
          exact ⟨rfl, Or.inr ⟨rfl, by omega⟩⟩
theorem enf_pos {E : Nat → Int32} {c i : Nat} (h : ∀ r, r < 8 → enf E c i r) : 52 ≤ (E 1).toInt ∧ 0 ≤ (E 4).toInt ∧ (i ≠ 0 → 0 ≤ (E 2).toInt ∧ 64 ≤ (E 5).toInt) := by
  have h1 := h 1 (by omega)
  have h4 := h 4 (by omega)
  have h2 := h 2 (by omega)
  have h5 := h 5 (by omega)
  unfold enf at h1 h2 h4 h5
  by_cases e : i = 0
  · rw [if_pos e] at h1 h4
    have h1' : ((52 + 32 * c : Nat) : Int) ≤ (E 1).toInt := h1
    have h4' : 0 ≤ (E 4).toInt := h4
    exact ⟨by omega, h4', fun q => absurd e q⟩
  · rw [if_neg e] at h1 h2 h4 h5
    have h1' : ((52 + 32 * c : Nat) : Int) ≤ (E 1).toInt := h1
    exact ⟨by omega, h4.1, fun _ => ⟨h2.1, h5.1⟩⟩
section
variable {up : cd_Row} {sz : Int32} {mp : Nat → Int32} {L c : Nat}
theorem e_bytesL (h : rw_rel up 8192 sz mp L) (hc : tp_n mp L c) (u : cd_Tc) (v0 v : cd_Mo) {i : Nat} (hi : i < c) (ke : Int32) (hE : ∀ j, j ≤ i → ∀ r, r < 8 → enf (tp_E mp j) c j r) (O : o_Mo_entryFits_L154 v0 mp (nI i) ke 8 (nI (52 + 32 * i)) 1 v) : ∀ (F g j : Nat), j + g = i → g < F → (∀ j', j' < j → ¬ sp_ov (tp_E mp i 1) (tp_E mp i 4) (tp_E mp j' 1) (tp_E mp j' 4)) → o_Tc_bytesPass_L53 u 8192 up (nI i) F (tp_E mp i 1) (tp_E mp i 4) (nI j) ∧ o_Mo_entryFits_L91 v0 mp (nI i) ke F (nI (52 + 32 * i)) (tp_E mp i 1).toInt64 (tp_E mp i 4).toInt64 (nI j) v ∧ ((f_Tc_bytesPass_L53 u 8192 up (nI i) F (tp_E mp i 1) (tp_E mp i 4) (nI j) = (1, u) ∧ f_Mo_entryFits_L91 v0 mp (nI i) ke F (nI (52 + 32 * i)) (tp_E mp i 1).toInt64 (tp_E mp i 4).toInt64 (nI j) v = f_Mo_entryFits_L154 v0 mp (nI i) ke 8 (nI (52 + 32 * i)) 1 v ∧ ∀ j', j' < i → ¬ sp_ov (tp_E mp i 1) (tp_E mp i 4) (tp_E mp j' 1) (tp_E mp j' 4)) ∨ (f_Tc_bytesPass_L53 u 8192 up (nI i) F (tp_E mp i 1) (tp_E mp i 4) (nI j) = (0, (4, nI (52 + 32 * i + 4))) ∧ f_Mo_entryFits_L91 v0 mp (nI i) ke F (nI (52 + 32 * i)) (tp_E mp i 1).toInt64 (tp_E mp i 4).toInt64 (nI j) v = (0, mo_w v 4 (nI (52 + 32 * i + 4))))) := by
  have hc2 := hc.2.2.1
  intro F
  induction F with
  | zero => intro g j _ h; omega
  | succ F ih =>
    intro g j hj hg hb
    unfold o_Tc_bytesPass_L53 o_Mo_entryFits_L91 f_Tc_bytesPass_L53 f_Mo_entryFits_L91
    cases g with
    | zero =>
      have e : j = i := by omega
      subst e
      have c1 : nI j ≤ nI j := (nI_leI (by omega) (by omega)).mpr (Nat.le_refl _)
      rw [if_pos c1, if_pos c1]
      exact ⟨⟨fun q => absurd c1 q, fun q => absurd c1 q, fun q => absurd c1 q⟩, ⟨fun _ => O, fun q => absurd c1 q, fun q => absurd c1 q, fun q => absurd c1 q⟩, Or.inl ⟨rfl, rfl, hb⟩⟩
    | succ g =>
      have c1 : ¬ nI i ≤ nI j := fun q => by have := (nI_leI (by omega) (by omega)).mp q; omega
      obtain ⟨q1, q2, -⟩ := tp_f h hc u (i := j) (r := 1) (by omega) (by omega)
      obtain ⟨q3, q4, -⟩ := tp_f h hc u (i := j) (r := 4) (by omega) (by omega)
      obtain ⟨-, -, q5⟩ := tp_f h hc u (i := i) (r := 1) (by omega) (by omega)
      rw [show nI 1 = (1 : Int32) from rfl] at q1 q2 q5
      rw [show nI 4 = (4 : Int32) from rfl] at q3 q4
      obtain ⟨m1, m2⟩ := tp_m h hc v (i := j) (by omega) 1 (by omega)
      obtain ⟨m3, m4⟩ := tp_m h hc v (i := j) (by omega) 4 (by omega)
      have ep : (52 : Int32) + 32 * nI j = nI (52 + 32 * j) := by
        rw [show (52 : Int32) = nI 52 from rfl, show (32 : Int32) = nI 32 from rfl, pk_mul, nI_add]
      rw [show nI (52 + 32 * j + 4 * 1) = nI (52 + 32 * j) + 4 from (nI_add _ 4).symm] at m1 m2
      rw [show nI (52 + 32 * j + 4 * 4) = nI (52 + 32 * j) + 16 from (nI_add _ 16).symm] at m3 m4
      have p1 := enf_pos (hE i (Nat.le_refl _))
      have p2 := enf_pos (hE j (by omega))
      obtain ⟨k1, k2⟩ := pu_meet (k := tp_E mp i 1) (x := tp_E mp i 4) (k1 := tp_E mp j 1) (x1 := tp_E mp j 4) (by omega) (by omega)
      rw [if_neg c1, if_neg c1, ep, m2, m4, k1, q2, q4, q5, nI_1]
      rcases k2 with ⟨k2, k3⟩ | ⟨k2, k3⟩
      · rw [if_pos k2, if_pos k2]
        obtain ⟨i1, i2, i3⟩ := ih g (j + 1) (by omega) (by omega) (fun j' hj' => by
          by_cases e : j' = j
          · rw [e]; exact k3
          · exact hb j' (by omega))
        exact ⟨⟨fun _ => q1, fun _ => q3, fun _ _ => i1⟩, ⟨fun q => absurd q c1, fun _ => m1, fun _ => m3, fun _ _ => i2⟩, i3⟩
      · have d : ¬ f_Mem_overlap (tp_E mp i 1) (tp_E mp i 4) (tp_E mp j 1) (tp_E mp j 4) = 0 := by rw [k2]; decide
        rw [if_neg d, if_neg d]
        refine ⟨⟨fun _ => q1, fun _ => q3, fun _ q => absurd q d⟩, ⟨fun q => absurd q c1, fun _ => m1, fun _ => m3, fun _ q => absurd q d⟩, Or.inr ⟨rfl, ?_⟩⟩
        rw [show nI (52 + 32 * i) + 4 = nI (52 + 32 * i + 4) from nI_add _ 4]
        rfl
theorem e_addrL (h : rw_rel up 8192 sz mp L) (hc : tp_n mp L c) (u : cd_Tc) (v0 v : cd_Mo) {i : Nat} (hi : i < c) (ke : Int32) (hE : ∀ j, j ≤ i → ∀ r, r < 8 → enf (tp_E mp j) c j r) : ∀ (F j : Nat), 1 ≤ j → j ≤ 7 → i - j < F → (∀ j', 1 ≤ j' → j' < j → j' < i → ¬ sp_ov (tp_E mp i 2) (tp_E mp i 5) (tp_E mp j' 2) (tp_E mp j' 5)) → o_Tc_addressesPass_L17 u 8192 up (nI i) F (tp_E mp i 2) (tp_E mp i 5) (nI j) ∧ o_Mo_entryFits_L154 v0 mp (nI i) ke F (nI (52 + 32 * i)) (nI j) v ∧ ((f_Tc_addressesPass_L17 u 8192 up (nI i) F (tp_E mp i 2) (tp_E mp i 5) (nI j) = (1, u) ∧ f_Mo_entryFits_L154 v0 mp (nI i) ke F (nI (52 + 32 * i)) (nI j) v = (1, v) ∧ ∀ j', 1 ≤ j' → j' < i → ¬ sp_ov (tp_E mp i 2) (tp_E mp i 5) (tp_E mp j' 2) (tp_E mp j' 5)) ∨ (f_Tc_addressesPass_L17 u 8192 up (nI i) F (tp_E mp i 2) (tp_E mp i 5) (nI j) = (0, (5, nI (52 + 32 * i + 8))) ∧ f_Mo_entryFits_L154 v0 mp (nI i) ke F (nI (52 + 32 * i)) (nI j) v = (0, mo_w v 5 (nI (52 + 32 * i + 8))))) := by
  have hc2 := hc.2.2.1
  intro F
  induction F with
  | zero => intro j _ _ h; omega
  | succ F ih =>
    intro j hj1 hj7 hg hb
    unfold o_Tc_addressesPass_L17 o_Mo_entryFits_L154 f_Tc_addressesPass_L17 f_Mo_entryFits_L154
    by_cases c0 : i ≤ j
    · have c1 : nI i ≤ nI j := (nI_leI (by omega) (by omega)).mpr c0
      rw [if_pos c1, if_pos c1]
      exact ⟨⟨fun q => absurd c1 q, fun q => absurd c1 q, fun q => absurd c1 q⟩, ⟨fun q => absurd c1 q, fun q => absurd c1 q, fun q => absurd c1 q, fun q => absurd c1 q, fun q => absurd c1 q⟩, Or.inl ⟨rfl, rfl, fun j' a b => hb j' a (by omega) b⟩⟩
    · have c1 : ¬ nI i ≤ nI j := fun q => c0 ((nI_leI (by omega) (by omega)).mp q)
      obtain ⟨q1, q2, -⟩ := tp_f h hc u (i := j) (r := 2) (by omega) (by omega)
      obtain ⟨q3, q4, -⟩ := tp_f h hc u (i := j) (r := 5) (by omega) (by omega)
      obtain ⟨-, -, q5⟩ := tp_f h hc u (i := i) (r := 2) (by omega) (by omega)
      rw [show nI 2 = (2 : Int32) from rfl] at q1 q2 q5
      rw [show nI 5 = (5 : Int32) from rfl] at q3 q4
      obtain ⟨m1, m2⟩ := tp_m h hc v (i := j) (by omega) 2 (by omega)
      obtain ⟨m3, m4⟩ := tp_m h hc v (i := j) (by omega) 5 (by omega)
      obtain ⟨n1, n2⟩ := tp_m h hc v (i := i) (by omega) 2 (by omega)
      obtain ⟨n3, n4⟩ := tp_m h hc v (i := i) (by omega) 5 (by omega)
      have ep : (52 : Int32) + 32 * nI j = nI (52 + 32 * j) := by
        rw [show (52 : Int32) = nI 52 from rfl, show (32 : Int32) = nI 32 from rfl, pk_mul, nI_add]
      rw [show nI (52 + 32 * j + 4 * 2) = nI (52 + 32 * j) + 8 from (nI_add _ 8).symm] at m1 m2
      rw [show nI (52 + 32 * j + 4 * 5) = nI (52 + 32 * j) + 20 from (nI_add _ 20).symm] at m3 m4
      rw [show nI (52 + 32 * i + 4 * 2) = nI (52 + 32 * i) + 8 from (nI_add _ 8).symm] at n1 n2
      rw [show nI (52 + 32 * i + 4 * 5) = nI (52 + 32 * i) + 20 from (nI_add _ 20).symm] at n3 n4
      have p1 := (enf_pos (hE i (Nat.le_refl _))).2.2 (by omega)
      have p2 := (enf_pos (hE j (by omega))).2.2 (by omega)
      obtain ⟨k1, k2⟩ := pu_meet (k := tp_E mp i 2) (x := tp_E mp i 5) (k1 := tp_E mp j 2) (x1 := tp_E mp j 5) (by omega) (by omega)
      rw [if_neg c1, if_neg c1, ep, m2, m4, n2, n4, k1, q2, q4, q5, nI_1]
      rcases k2 with ⟨k2, k3⟩ | ⟨k2, k3⟩
      · rw [if_pos k2, if_pos k2]
        obtain ⟨i1, i2, i3⟩ := ih (j + 1) (by omega) (by omega) (by omega) (fun j' a b d => by
          by_cases e : j' = j
          · rw [e]; exact k3
          · exact hb j' a (by omega) d)
        exact ⟨⟨fun _ => q1, fun _ => q3, fun _ _ => i1⟩, ⟨fun _ => n1, fun _ => n3, fun _ => m1, fun _ => m3, fun _ _ => i2⟩, i3⟩
      · have d : ¬ f_Mem_overlap (tp_E mp i 2) (tp_E mp i 5) (tp_E mp j 2) (tp_E mp j 5) = 0 := by rw [k2]; decide
        rw [if_neg d, if_neg d]
        refine ⟨⟨fun _ => q1, fun _ => q3, fun _ q => absurd q d⟩, ⟨fun _ => n1, fun _ => n3, fun _ => m1, fun _ => m3, fun _ q => absurd q d⟩, Or.inr ⟨rfl, ?_⟩⟩
        rw [show nI (52 + 32 * i) + 8 = nI (52 + 32 * i + 8) from nI_add _ 8]
        rfl
end
