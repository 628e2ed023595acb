section
variable {up : cd_Row} {sz : Int32} {mp : Nat → Int32} {L : Nat}
theorem tp_c (h : rw_rel up 8192 sz mp L) (hL : 52 ≤ L) (v : cd_Mo) : o_Row_number 8192 up 44 2 ∧ o_Mo_twoAt v mp 44 ∧ f_Row_number 8192 up 44 2 = f_Mo_twoAt v mp 44 ∧ ∃ c : Nat, c < 65536 ∧ f_Mo_twoAt v mp 44 = nI c := by
  obtain ⟨p1, p2, p3, p4⟩ := tp_2 h v (p := 44) (by omega)
  rw [show nI 44 = (44 : Int32) from rfl] at p1 p2 p3 p4
  refine ⟨p1, p2, p4, ?_⟩
  obtain ⟨x0, h0, e0⟩ := pu_by (mp 44)
  obtain ⟨x1, h1, e1⟩ := pu_by (mp (44 + 1))
  refine ⟨x0 + 256 * x1, by omega, ?_⟩
  rw [p3, e0, e1, w4_2, w4_eq h0 h1 (by omega) (by omega) (by omega)]
  omega
theorem mo_two_any {v w : cd_Mo} {k : Int32} : f_Mo_twoAt v mp k = f_Mo_twoAt w mp k := rfl
theorem mo_four_any {v w : cd_Mo} {k : Int32} : f_Mo_fourAt v mp k = f_Mo_fourAt w mp k := rfl
/-- both look on with the same outcome -/
def ck_rel (c : Int32 × cd_Tc) (r : Int32 × cd_Mo) (u : cd_Tc) (v : cd_Mo) (P : Prop) : Prop := (c = (1, u) ∧ r = (1, v) ∧ P) ∨ ∃ k x, c = (0, (k, x)) ∧ r = (0, mo_w v k x)
/-- how many entries there are -/
def tp_n (mp : Nat → Int32) (L c : Nat) : Prop := f_Mo_twoAt (0, 0, 0, 0, 0, 0) mp 44 = nI c ∧ 1 ≤ c ∧ c ≤ 7 ∧ 52 + 32 * c ≤ L
theorem hd_both (h : rw_rel up 8192 sz mp L) (hL : 52 ≤ L) {u : cd_Tc} {v0 v : cd_Mo} (hv : v.2.2.1 = nI L) : ∀ g i, i + g = 29 → (i ≤ 25 ∨ ∃ c, f_Mo_twoAt v mp 44 = nI c ∧ 1 ≤ c ∧ c ≤ 7) → o_Tc_headerPasses_L29 u 8192 up (g + 1) (nI (hd_o i)) (nI i) ∧ o_Mo_headerFits_L21 v0 mp (53 - hd_o i) (nI (hd_o i)) v ∧ ck_rel (f_Tc_headerPasses_L29 u 8192 up (g + 1) (nI (hd_o i)) (nI i)) (f_Mo_headerFits_L21 v0 mp (53 - hd_o i) (nI (hd_o i)) v) u v (∃ c, tp_n mp L c) := by
  have hL8 := h.1
  have hu := h.2.1
  obtain ⟨o1, o2, o3, c, hc, ec⟩ := tp_c h hL v
  intro g
  induction g with
  | zero =>
    intro i hi hcnt
    have e : i = 29 := by omega
    subst e
    rw [show hd_o 29 = 52 from rfl, show 53 - 52 = 0 + 1 from rfl]
    rw [o_Tc_headerPasses_L29, o_Mo_headerFits_L21, f_Tc_headerPasses_L29, f_Mo_headerFits_L21]
    have c1 : (29 : Int32) ≤ nI 29 := by decide
    have c2 : (52 : Int32) ≤ nI 52 := by decide
    rw [if_pos c1, if_pos c2]
    obtain ⟨c', ec', k1, k2⟩ : ∃ c, f_Mo_twoAt v mp 44 = nI c ∧ 1 ≤ c ∧ c ≤ 7 := by
      rcases hcnt with q | q
      · omega
      · exact q
    have eF : f_Tc_fieldPlace u (f_Tc_entries u 8192 up) 0 = nI (52 + 32 * c') := by
      unfold f_Tc_fieldPlace f_Tc_entries
      rw [o3, ec', show (52 : Int32) = nI 52 from rfl, show (32 : Int32) = nI 32 from rfl, show (4 : Int32) * 0 = nI 0 by decide, pk_mul, nI_add, nI_add]
      congr 1
      omega
    have eG : (52 : Int32) + 32 * f_Mo_twoAt v mp 44 = nI (52 + 32 * c') := by
      rw [ec', show (52 : Int32) = nI 52 from rfl, show (32 : Int32) = nI 32 from rfl, pk_mul, nI_add]
    unfold f_Row_length
    rw [eF, eG, hu, hv]
    refine ⟨⟨fun _ => o1, fun q => absurd c1 q, fun q => absurd c1 q, fun q => absurd c1 q, fun q => absurd c1 q, fun q => absurd c1 q⟩, ⟨fun _ => o2, fun q => absurd c2 q, fun q => absurd c2 q, fun q => absurd c2 q, fun q => absurd c2 q, fun q => absurd c2 q, fun q => absurd c2 q⟩, ?_⟩
    by_cases c3 : 52 + 32 * c' ≤ L
    · have c4 : nI (52 + 32 * c') ≤ nI L := (nI_leI (by omega) (by omega)).mpr c3
      rw [if_pos c4, if_pos c4]
      exact Or.inl ⟨rfl, rfl, c', ec', k1, k2, c3⟩
    · have c4 : ¬ nI (52 + 32 * c') ≤ nI L := fun q => c3 ((nI_leI (by omega) (by omega)).mp q)
      rw [if_neg c4, if_neg c4]
      unfold f_Tc_refuse f_Mo_isWrong
      rw [if_pos rfl, if_pos rfl]
      exact Or.inr ⟨1, nI L, rfl, rfl⟩
  | succ g ih =>
    intro i hi hcnt
    have hi9 : i < 29 := by omega
    obtain ⟨a1, a2, a3, a4⟩ := hd_t1 i hi9
    obtain ⟨b1, b2⟩ := hd_wok i hi9
    obtain ⟨f1, f2⟩ := hd_field h hL hi9
    have c1 : ¬ (29 : Int32) ≤ nI i := fun q => by have := (nI_leI (a := 29) (by omega) (by omega)).mp q; omega
    have v29 : vp_in (nI i) 29 := vp_in_nI hi9 (by omega)
    have ez : nI (hd_o i) + cd_hw i = nI (hd_o (i + 1)) := by rw [b1, nI_add, a1]
    rw [o_Tc_headerPasses_L29, f_Tc_headerPasses_L29, if_neg c1, nI_clamp (by omega), ez, nI_1]
    have oF : o_Tc_headerFieldFits u (nI i) (f_Row_number 8192 up (nI (hd_o i)) (cd_hw i)) := fun _ _ _ => v29
    by_cases e25 : i = 25
    · subst e25
      have eN : f_Row_number 8192 up (nI (hd_o 25)) (cd_hw 25) = nI c := o3.trans ec
      rw [show hd_o 25 = 44 from rfl] at eN f1 oF ⊢
      rw [show 53 - 44 = 8 + 1 from rfl, o_Mo_headerFits_L21, f_Mo_headerFits_L21]
      have d1 : ¬ (52 : Int32) ≤ nI 44 := by decide
      have d2 : nI 44 = (44 : Int32) := rfl
      rw [if_neg d1, if_pos d2, show nI 44 + (1 : Int32) = nI 45 by decide, eN, ec]
      unfold f_Tc_headerFieldFits
      rw [if_pos (show nI 25 = (25 : Int32) from rfl)]
      have eo : f_Mo_fieldOf (nI 44) = nI 44 := by decide
      rw [eo]
      by_cases k1 : 1 ≤ c
      · have k1' : ¬ nI c < (1 : Int32) := nI_nlt (b := 1) k1 (by omega)
        rw [if_neg k1', if_neg k1']
        by_cases k2 : c ≤ 7
        · have k2' : ¬ (7 : Int32) < nI c := nI_nlt (a := 7) k2 (by omega)
          have k2'' : nI c ≤ (7 : Int32) := nI_le (b := 7) k2 (by omega)
          have d : ¬ (1 : Int32) = 0 := by decide
          rw [if_neg k2', if_pos k2'', if_neg d]
          obtain ⟨i1, i2, i3⟩ := ih 26 (by omega) (Or.inr ⟨c, ec, k1, k2⟩)
          have d3 : ¬ (52 : Int32) ≤ nI 45 := by decide
          have d4 : ¬ nI 45 = (44 : Int32) := by decide
          have d5 : nI 45 = (45 : Int32) := rfl
          have hs : o_Mo_headerFits_L21 v0 mp 8 (nI 45) v ∧ f_Mo_headerFits_L21 v0 mp 8 (nI 45) v = f_Mo_headerFits_L21 v0 mp 7 (nI 46) v := by
            rw [show 8 = 7 + 1 from rfl, o_Mo_headerFits_L21, f_Mo_headerFits_L21, if_neg d3, if_neg d4, if_pos d5, show nI 45 + (1 : Int32) = nI 46 by decide]
            exact ⟨⟨fun q => absurd q d3, fun _ q => absurd q d4, fun _ q => absurd q d4, fun _ q => absurd q d4, fun _ _ q => absurd d5 q, fun _ _ q => absurd d5 q, fun _ _ _ => i2⟩, rfl⟩
          rw [hs.2]
          exact ⟨⟨fun q => absurd q c1, fun _ => v29, fun _ => f1, fun _ _ _ _ => v29, fun _ _ => v29, fun _ _ => i1⟩, ⟨fun q => absurd q d1, fun _ _ => o2, fun _ _ _ => o2, fun _ _ _ _ => hs.1, fun _ q => absurd d2 q, fun _ q => absurd d2 q, fun _ q => absurd d2 q⟩, i3⟩
        · have k2' : (7 : Int32) < nI c := nI_lt (a := 7) (by omega) (by omega)
          have k2'' : ¬ nI c ≤ (7 : Int32) := nI_ge (a := 7) (by omega) (by omega)
          rw [if_pos k2', if_neg k2'', if_pos rfl]
          exact ⟨⟨fun q => absurd q c1, fun _ => v29, fun _ => f1, fun _ _ _ _ => v29, fun _ q => absurd rfl q, fun _ q => absurd rfl q⟩, ⟨fun q => absurd q d1, fun _ _ => o2, fun _ _ _ => o2, fun _ _ _ q => absurd q k2'', fun _ q => absurd d2 q, fun _ q => absurd d2 q, fun _ q => absurd d2 q⟩, Or.inr ⟨2, nI 44, rfl, rfl⟩⟩
      · have k1' : nI c < (1 : Int32) := nI_lt (b := 1) (by omega) (by omega)
        rw [if_pos k1', if_pos k1', if_pos rfl]
        exact ⟨⟨fun q => absurd q c1, fun _ => v29, fun _ => f1, fun _ _ _ _ => v29, fun _ q => absurd rfl q, fun _ q => absurd rfl q⟩, ⟨fun q => absurd q d1, fun _ _ => o2, fun _ _ q => absurd k1' q, fun _ _ q => absurd k1' q, fun _ q => absurd d2 q, fun _ q => absurd d2 q, fun _ q => absurd d2 q⟩, Or.inr ⟨2, nI 44, rfl, rfl⟩⟩
    · have d25 : ¬ nI i = (25 : Int32) := fun q => e25 ((nI_eq (b := 25) (by omega) (by omega)).mp q)
      have eFit : ∀ x, f_Tc_headerFieldFits u (nI i) x = if x = cd_hv i then 1 else 0 := by
        intro x
        unfold f_Tc_headerFieldFits
        rw [if_neg d25, if_neg (nI_pos (by omega)), if_neg c1, nI_clamp (by omega)]
      rw [eFit]
      have hcnt' : i + 1 ≤ 25 ∨ ∃ c, f_Mo_twoAt v mp 44 = nI c ∧ 1 ≤ c ∧ c ≤ 7 := by
        rcases hcnt with q | q
        · exact Or.inl (by omega)
        · exact Or.inr q
      obtain ⟨i1, i2, i3⟩ := ih (i + 1) (by omega) hcnt'
      have hrun := hd_run (mp := mp) (v0 := v0) (v := v) hi9 e25 (hd_w i) 0 (by omega)
      rw [show hd_o i + 0 = hd_o i by omega] at hrun
      rcases hrun with ⟨r1, r2, r3⟩ | ⟨⟨j, -, r1, r2⟩, r3, r4⟩
      · have q := f2.mpr (fun j hj => r1 j (by omega) hj)
        have d : ¬ (if f_Row_number 8192 up (nI (hd_o i)) (cd_hw i) = cd_hv i then (1 : Int32) else 0) = 0 := by rw [if_pos q]; decide
        rw [if_neg d, r3]
        exact ⟨⟨fun q => absurd q c1, fun _ => v29, fun _ => f1, fun _ => oF, fun _ _ => v29, fun _ _ => i1⟩, r2 i2, i3⟩
      · have q : ¬ f_Row_number 8192 up (nI (hd_o i)) (cd_hw i) = cd_hv i := fun q => r2 (f2.mp q j r1)
        have d : (if f_Row_number 8192 up (nI (hd_o i)) (cd_hw i) = cd_hv i then (1 : Int32) else 0) = 0 := by rw [if_neg q]
        rw [if_pos d, r4]
        exact ⟨⟨fun q => absurd q c1, fun _ => v29, fun _ => f1, fun _ => oF, fun _ q => absurd d q, fun _ q => absurd d q⟩, r3, Or.inr ⟨2, nI (hd_o i), rfl, rfl⟩⟩
theorem e_head (h : rw_rel up 8192 sz mp L) {u : cd_Tc} {v : cd_Mo} (hv : v.2.2.1 = nI L) : o_Tc_headerPasses u 8192 up ∧ o_Mo_headerFits v mp ∧ ck_rel (f_Tc_headerPasses u 8192 up) (f_Mo_headerFits v mp) u v (∃ c, tp_n mp L c) := by
  have hL8 := h.1
  have hu := h.2.1
  unfold o_Tc_headerPasses o_Mo_headerFits f_Tc_headerPasses f_Mo_headerFits f_Row_length
  rw [hu, hv]
  by_cases c : 52 ≤ L
  · have c1 : (52 : Int32) ≤ nI L := (nI_leI (a := 52) (by omega) (by omega)).mpr c
    obtain ⟨a1, a2, a3⟩ := hd_both h c (u := u) (v0 := v) (v := v) hv 29 0 (by omega) (Or.inl (by omega))
    rw [if_pos c1, if_pos c1]
    exact ⟨fun _ => a1, fun _ => a2, a3⟩
  · have c1 : ¬ (52 : Int32) ≤ nI L := fun q => c ((nI_leI (a := 52) (by omega) (by omega)).mp q)
    rw [if_neg c1, if_neg c1]
    exact ⟨fun q => absurd q c1, fun q => absurd q c1, Or.inr ⟨1, nI L, rfl, rfl⟩⟩
end
