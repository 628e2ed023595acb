def en_ok (mp : Nat → Int32) (L c i : Nat) : Prop := (∀ r, r < 8 → enf (tp_E mp i) c i r) ∧ (tp_E mp i 1).toInt + (tp_E mp i 4).toInt ≤ (L : Int) ∧ ∀ j, 1 ≤ j → j < i → ¬ sp_ov (tp_E mp i 2) (tp_E mp i 5) (tp_E mp j 2) (tp_E mp j 5)
section
variable {up : cd_Row} {sz : Int32} {mp : Nat → Int32} {L c : Nat}
/-- one entry on both sides -/
theorem e_entry (h : rw_rel up 8192 sz mp L) (hc : tp_n mp L c) (u : cd_Tc) (v : cd_Mo) (hv : v.2.2.1 = nI L) {i : Nat} (hi : i < c) (hb : ∀ j, j < i → en_ok mp L c j) : o_Tc_fieldsPass u 8192 up (nI i) ∧ o_Mo_entryFits v mp (nI i) (nI (52 + 32 * c)) ∧ ((∃ k x, f_Tc_fieldsPass u 8192 up (nI i) = (0, (k, x)) ∧ f_Mo_entryFits v mp (nI i) (nI (52 + 32 * c)) = (0, mo_w v k x)) ∨ (f_Tc_fieldsPass u 8192 up (nI i) = (1, u) ∧ o_Tc_bytesPass u 8192 up (nI i) ∧ ((∃ k x, f_Tc_bytesPass u 8192 up (nI i) = (0, (k, x)) ∧ f_Mo_entryFits v mp (nI i) (nI (52 + 32 * c)) = (0, mo_w v k x)) ∨ (f_Tc_bytesPass u 8192 up (nI i) = (1, u) ∧ o_Tc_addressesPass u 8192 up (nI i) ∧ ((∃ k x, f_Tc_addressesPass u 8192 up (nI i) = (0, (k, x)) ∧ f_Mo_entryFits v mp (nI i) (nI (52 + 32 * c)) = (0, mo_w v k x)) ∨ (f_Tc_addressesPass u 8192 up (nI i) = (1, u) ∧ f_Mo_entryFits v mp (nI i) (nI (52 + 32 * c)) = (1, v) ∧ en_ok mp L c i)))))) := by
  have hc1 := hc.2.1
  have hc2 := hc.2.2.1
  have hc3 := hc.2.2.2
  have hL8 := h.1
  have hu := h.2.1
  obtain ⟨a1, a2, a3⟩ := e_fields h hc u v hi
  have ep : (52 : Int32) + 32 * nI i = nI (52 + 32 * i) := by
    rw [show (52 : Int32) = nI 52 from rfl, show (32 : Int32) = nI 32 from rfl, pk_mul, nI_add]
  obtain ⟨m1, m2⟩ := tp_m h hc v hi 1 (by omega)
  obtain ⟨m3, m4⟩ := tp_m h hc v hi 4 (by omega)
  rw [show nI (52 + 32 * i + 4 * 1) = nI (52 + 32 * i) + 4 from (nI_add _ 4).symm] at m1 m2
  rw [show nI (52 + 32 * i + 4 * 4) = nI (52 + 32 * i) + 16 from (nI_add _ 16).symm] at m3 m4
  obtain ⟨t1, t2, t3⟩ := tp_f h hc u (i := i) (r := 1) hi (by omega)
  obtain ⟨t4, t5, -⟩ := tp_f h hc u (i := i) (r := 4) hi (by omega)
  obtain ⟨t6, t7, -⟩ := tp_f h hc u (i := i) (r := 2) hi (by omega)
  obtain ⟨t8, t9, -⟩ := tp_f h hc u (i := i) (r := 5) hi (by omega)
  rw [show nI 1 = (1 : Int32) from rfl] at t1 t2 t3
  rw [show nI 4 = (4 : Int32) from rfl] at t4 t5
  rw [show nI 2 = (2 : Int32) from rfl] at t6 t7
  rw [show nI 5 = (5 : Int32) from rfl] at t8 t9
  -- the reference's form, one for both kinds of entry
  have eR : f_Mo_entryFits v mp (nI i) (nI (52 + 32 * c)) = (if (8 : Int32) ≤ f_Mo_badField v mp (nI (52 + 32 * i)) (if i = 0 then 1 else 0) (nI (52 + 32 * c)) then (if (tp_E mp i 1).toInt64 + (tp_E mp i 4).toInt64 ≤ (nI L).toInt64 then f_Mo_entryFits_L91 v mp (nI i) (nI (52 + 32 * c)) 8 (nI (52 + 32 * i)) (tp_E mp i 1).toInt64 (tp_E mp i 4).toInt64 0 v else (0, mo_w v 1 (nI (52 + 32 * i) + 4))) else (0, mo_w v 3 (nI (52 + 32 * i) + 4 * f_Mo_badField v mp (nI (52 + 32 * i)) (if i = 0 then 1 else 0) (nI (52 + 32 * c))))) := by
    unfold f_Mo_entryFits
    rw [ep, m2, m4, hv]
    by_cases e : i = 0
    · have e1 : nI i = (0 : Int32) := by rw [e]; rfl
      rw [if_pos e1, if_pos e]
      rfl
    · have e1 : ¬ nI i = (0 : Int32) := fun q => e ((nI_eq (b := 0) (by omega) (by omega)).mp q)
      rw [if_neg e1, if_neg e]
      rfl
  have oR : ((8 : Int32) ≤ f_Mo_badField v mp (nI (52 + 32 * i)) (if i = 0 then 1 else 0) (nI (52 + 32 * c)) → (tp_E mp i 1).toInt64 + (tp_E mp i 4).toInt64 ≤ (nI L).toInt64 → o_Mo_entryFits_L91 v mp (nI i) (nI (52 + 32 * c)) 8 (nI (52 + 32 * i)) (tp_E mp i 1).toInt64 (tp_E mp i 4).toInt64 0 v) → o_Mo_entryFits v mp (nI i) (nI (52 + 32 * c)) := by
    intro q
    unfold o_Mo_entryFits
    rw [ep, m2, m4, hv]
    by_cases e : i = 0
    · have e1 : nI i = (0 : Int32) := by rw [e]; rfl
      rw [if_pos e] at q a2
      exact ⟨fun z => absurd e1 z, fun z => absurd e1 z, fun z => absurd e1 z, fun z => absurd e1 z, fun _ => a2, fun _ _ => m1, fun _ _ => m3, fun _ x y => q x y⟩
    · have e1 : ¬ nI i = (0 : Int32) := fun q => e ((nI_eq (b := 0) (by omega) (by omega)).mp q)
      rw [if_neg e] at q a2
      exact ⟨fun _ => a2, fun _ _ => m1, fun _ _ => m3, fun _ x y => q x y, fun z => absurd z e1, fun z => absurd z e1, fun z => absurd z e1, fun z => absurd z e1⟩
  rw [eR]
  rcases a3 with ⟨a3, a4, a5⟩ | ⟨r0, a3, a4, a5⟩
  · have hE : ∀ j, j ≤ i → ∀ r, r < 8 → enf (tp_E mp j) c j r := fun j hj r hr => by
      by_cases e : j = i
      · rw [e]; exact a5 r hr
      · exact (hb j (by omega)).1 r hr
    obtain ⟨w1, w2, w3⟩ := e_addrL h hc u v v hi (nI (52 + 32 * c)) hE 8 1 (by omega) (by omega) (by omega) (fun j' x y => by omega)
    rw [show nI 1 = (1 : Int32) from rfl] at w1 w2 w3
    obtain ⟨x1, x2, x3⟩ := e_bytesL h hc u v v hi (nI (52 + 32 * c)) hE w2 8 i 0 (by omega) (by omega) (fun j' x => by omega)
    rw [show nI 0 = (0 : Int32) from rfl] at x1 x2 x3
    have pos := enf_pos a5
    have r1 := pu_rng (tp_E mp i 1)
    have r4 := pu_rng (tp_E mp i 4)
    have esum : ((tp_E mp i 1).toInt64 + (tp_E mp i 4).toInt64).toInt = (tp_E mp i 1).toInt + (tp_E mp i 4).toInt := by rw [pl_add (by rw [pl_i, pl_i]; omega) (by rw [pl_i, pl_i]; omega), pl_i, pl_i]
    have iL : (tp_E mp i 1).toInt64 + (tp_E mp i 4).toInt64 ≤ (nI L).toInt64 ↔ (tp_E mp i 1).toInt + (tp_E mp i 4).toInt ≤ (L : Int) := by rw [pl_le, esum, pl_i, nI_toInt (by omega)]
    refine ⟨a1, oR (fun _ _ => x2), Or.inr ⟨a3, ⟨t1, t4, fun _ _ => ?_⟩, ?_⟩⟩
    · rw [t2, t5]
      exact x1
    · rw [a4, if_pos (show (8 : Int32) ≤ 8 by decide)]
      unfold f_Tc_bytesPass f_Row_length
      rw [t2, t5, t3, hu]
      by_cases k : (tp_E mp i 1).toInt + (tp_E mp i 4).toInt ≤ (L : Int)
      · have d1 : ¬ nI L < tp_E mp i 1 := by rw [pu_lt, nI_toInt (by omega)]; omega
        have d2 : tp_E mp i 4 ≤ nI L - tp_E mp i 1 := by
          rw [pu_le, pu_sub (by rw [nI_toInt (by omega)]; omega) (by rw [nI_toInt (by omega)]; omega), nI_toInt (by omega)]
          omega
        rw [if_pos (iL.mpr k), if_neg d1, if_pos d2]
        rcases x3 with ⟨x3, x4, x5⟩ | ⟨x3, x4⟩
        · refine Or.inr ⟨x3, ⟨t6, t8, ?_⟩, ?_⟩
          · rw [t7, t9]
            exact w1
          · unfold f_Tc_addressesPass
            rw [t7, t9, x4]
            rcases w3 with ⟨w3, w4, w5⟩ | ⟨w3, w4⟩
            · exact Or.inr ⟨w3, w4, a5, k, w5⟩
            · exact Or.inl ⟨_, _, w3, w4⟩
        · exact Or.inl ⟨_, _, x3, x4⟩
      · rw [if_neg (fun q => k (iL.mp q))]
        refine Or.inl ⟨1, nI (52 + 32 * i + 4 * 1), ?_, by rw [nI_add (52 + 32 * i) 4 |>.symm]; rfl⟩
        by_cases d1 : nI L < tp_E mp i 1
        · rw [if_pos d1]
          rfl
        · rw [if_neg d1]
          rw [pu_lt, nI_toInt (by omega)] at d1
          have d2 : ¬ tp_E mp i 4 ≤ nI L - tp_E mp i 1 := by
            rw [pu_le, pu_sub (by rw [nI_toInt (by omega)]; omega) (by rw [nI_toInt (by omega)]; omega), nI_toInt (by omega)]
            omega
          rw [if_neg d2]
          rfl
  · have d : ¬ (8 : Int32) ≤ nI r0 := fun q => by have := (nI_leI (a := 8) (by omega) (by omega)).mp q; omega
    refine ⟨a1, oR (fun q => absurd (by rw [a5] at q; exact q) d), Or.inl ⟨3, nI (52 + 32 * i + 4 * r0), a4, ?_⟩⟩
    rw [a5, if_neg d, show (4 : Int32) = nI 4 from rfl, pk_mul, nI_add]
end
