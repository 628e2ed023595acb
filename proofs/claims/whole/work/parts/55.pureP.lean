def hd_w (i : Nat) : Nat := [1, 1, 1, 1, 1, 1, 1, 1, 1, 1, 1, 1, 1, 1, 1, 1, 2, 2, 4, 4, 4, 4, 4, 2, 2, 2, 2, 2, 2].getD i 0
def hd_v (m i : Nat) : Int32 := if i = 25 then nI m else cd_hv i
def hd_l (m : Nat) : Nat → Nat → List Int32
  | 0, _ => []
  | g + 1, i => wd (hd_v m i) (hd_w i) ++ hd_l m g (i + 1)
theorem hd_wok : ∀ i, i < 29 → cd_hw i = nI (hd_w i) ∧ (hd_w i = 1 ∨ hd_w i = 2 ∨ hd_w i = 4) := by decide
theorem wd_len (v : Int32) (w : Nat) : (wd v w).length ≤ 4 := by
  unfold wd
  split <;> simp
theorem fc_head {uf : cd_Row} {um : cd_Mem} {n : Nat} (hc : um.1 = nI n) (hn : n ≤ 6) : ∀ (g i : Nat) (u' : cd_Row) (l : List Int32), i + g = 29 → fc u' l → l.length + 4 * g ≤ 6500 → o_Fw_writeHeader_L2 6588 uf um (g + 1) (nI i) u' ∧ fc (f_Fw_writeHeader_L2 6588 uf um (g + 1) (nI i) u') (l ++ hd_l (n + 1) g i) := by
  intro g
  induction g with
  | zero =>
    intro i u' l hi h hl
    have e : i = 29 := by omega
    subst e
    unfold o_Fw_writeHeader_L2 f_Fw_writeHeader_L2
    have c : (29 : Int32) ≤ nI 29 := by decide
    rw [if_pos c, hd_l, List.append_nil]
    exact ⟨⟨fun q => absurd c q, fun q => absurd c q, fun q => absurd c q, fun q => absurd c q, fun q => absurd c q, fun q => absurd c q, fun q => absurd c q⟩, h⟩
  | succ g ih =>
    intro i u' l hi h hl
    unfold o_Fw_writeHeader_L2 f_Fw_writeHeader_L2
    have c : ¬ (29 : Int32) ≤ nI i := fun q => by have := (nI_leI (a := 29) (by omega) (by omega)).mp q; omega
    obtain ⟨e1, e2⟩ := hd_wok i (by omega)
    rw [if_neg c, nI_clamp (by omega), nI_1, e1]
    have v29 : vp_in (nI i) 29 := vp_in_nI (by omega) (by omega)
    have ee : f_Fw_entries um = nI (n + 1) := by
      unfold f_Fw_entries f_Mem_count
      rw [hc, nI_1]
    rw [ee]
    have hl2 := wd_len (hd_v (n + 1) i) (hd_w i)
    by_cases c2 : i = 25
    · have c3 : nI i = (25 : Int32) := by rw [c2]; rfl
      have ev : hd_v (n + 1) i = nI (n + 1) := by unfold hd_v; rw [if_pos c2]
      rw [if_pos c3, hd_l, ← List.append_assoc]
      obtain ⟨a1, a2⟩ := fc_num h (by omega) (nI (n + 1)) e2
      rw [ev] at hl2 ⊢
      obtain ⟨b1, b2⟩ := ih (i + 1) _ _ (by omega) a2 (by rw [List.length_append]; omega)
      exact ⟨⟨fun _ q => absurd c3 q, fun _ q => absurd c3 q, fun _ q => absurd c3 q, fun _ q => absurd c3 q, fun _ _ => v29, fun _ _ => a1, fun _ _ => b1⟩, b2⟩
    · have c3 : ¬ nI i = (25 : Int32) := fun q => c2 ((nI_eq (b := 25) (by omega) (by omega)).mp q)
      have ev : hd_v (n + 1) i = cd_hv i := by unfold hd_v; rw [if_neg c2]
      rw [if_neg c3, hd_l, ← List.append_assoc]
      obtain ⟨a1, a2⟩ := fc_num h (by omega) (cd_hv i) e2
      rw [ev] at hl2 ⊢
      obtain ⟨b1, b2⟩ := ih (i + 1) _ _ (by omega) a2 (by rw [List.length_append]; omega)
      exact ⟨⟨fun _ _ => v29, fun _ _ => v29, fun _ _ => a1, fun _ _ => b1, fun _ q => absurd q c3, fun _ q => absurd q c3, fun _ q => absurd q c3⟩, b2⟩
def hz : Nat → Nat → List Int32
  | 0, _ => []
  | g + 1, x => (if x < 3 then [b8 1] else [b8 0]) ++ hz g (x + 1)
def hd_t (m : Nat) : List Int32 := w2 4 ++ w2 8 ++ w4 1 ++ w4 0 ++ w4 52 ++ w4 0 ++ w4 0 ++ w2 52 ++ w2 32 ++ w2 (nI m) ++ w2 0 ++ w2 0 ++ w2 0
theorem ln2 {l : List Int32} {v : Int32} : (l ++ w2 v).length = l.length + 2 := by rw [List.length_append]; rfl
theorem ln4 {l : List Int32} {v : Int32} : (l ++ w4 v).length = l.length + 4 := by rw [List.length_append]; rfl
theorem ln1 {l : List Int32} {x : Int32} : (l ++ [x]).length = l.length + 1 := by rw [List.length_append]; rfl
theorem fm_head {S0 : cd_Mo × cd_By} {mr : Nat → Int32} {b : cd_Mo} {n : Nat} (hr : mr 0 = nI n) (hn : n ≤ 6) : ∀ (g x : Nat) (S : cd_Mo × cd_By) (l : List Int32), x + g = 12 → fm S b l → l.length + g ≤ 100 → o_Mo_header_L26 S0 mr (g + 1) (nI x) S ∧ fm (f_Mo_header_L26 S0 mr (g + 1) (nI x) S) b (l ++ hz g x ++ hd_t (n + 1)) := by
  intro g
  induction g with
  | zero =>
    intro x S l hx h hl
    have e : x = 12 := by omega
    subst e
    unfold o_Mo_header_L26 f_Mo_header_L26
    have c : (12 : Int32) ≤ nI 12 := by decide
    rw [if_pos c, pu_cz, hr, nI_1, hz, List.append_nil]
    obtain ⟨p1, q1⟩ := fm_two h (by omega) 4
    obtain ⟨p2, q2⟩ := fm_two q1 (by simp only [ln2, ln4]; omega) 8
    obtain ⟨p3, q3⟩ := fm_four q2 (by simp only [ln2, ln4]; omega) 1
    obtain ⟨p4, q4⟩ := fm_four q3 (by simp only [ln2, ln4]; omega) 0
    obtain ⟨p5, q5⟩ := fm_four q4 (by simp only [ln2, ln4]; omega) 52
    obtain ⟨p6, q6⟩ := fm_four q5 (by simp only [ln2, ln4]; omega) 0
    obtain ⟨p7, q7⟩ := fm_four q6 (by simp only [ln2, ln4]; omega) 0
    obtain ⟨p8, q8⟩ := fm_two q7 (by simp only [ln2, ln4]; omega) 52
    obtain ⟨p9, q9⟩ := fm_two q8 (by simp only [ln2, ln4]; omega) 32
    obtain ⟨pa, qa⟩ := fm_two q9 (by simp only [ln2, ln4]; omega) (nI (n + 1))
    obtain ⟨pb, qb⟩ := fm_two qa (by simp only [ln2, ln4]; omega) 0
    obtain ⟨pc, qc⟩ := fm_two qb (by simp only [ln2, ln4]; omega) 0
    obtain ⟨pd, qd⟩ := fm_two qc (by simp only [ln2, ln4]; omega) 0
    have nc : ¬ ¬ (12 : Int32) ≤ nI 12 := fun q => q c
    refine ⟨⟨fun _ => p1, fun _ => p2, fun _ => p3, fun _ => p4, fun _ => p5, fun _ => p6, fun _ => p7, fun _ => p8, fun _ => p9, fun _ => pu_v0, fun _ => pa, fun _ => pb, fun _ => pc, fun _ => pd, fun q => absurd c q, fun q => absurd c q, fun q => absurd c q, fun q => absurd c q⟩, ?_⟩
    unfold hd_t
    simp only [← List.append_assoc] at qd ⊢
    exact qd
  | succ g ih =>
    intro x S l hx h hl
    unfold o_Mo_header_L26 f_Mo_header_L26
    have c : ¬ (12 : Int32) ≤ nI x := fun q => by have := (nI_leI (a := 12) (by omega) (by omega)).mp q; omega
    rw [if_neg c, nI_1, hz, ← List.append_assoc]
    by_cases c2 : x < 3
    · have c3 : ¬ (3 : Int32) ≤ nI x := fun q => by have := (nI_leI (a := 3) (by omega) (by omega)).mp q; omega
      rw [if_neg c3, if_pos c2]
      obtain ⟨a1, a2⟩ := fm_lay h (by omega) 1
      obtain ⟨b1, b2⟩ := ih (x + 1) _ _ (by omega) a2 (by rw [ln1]; omega)
      exact ⟨⟨fun q => absurd q c, fun q => absurd q c, fun q => absurd q c, fun q => absurd q c, fun q => absurd q c, fun q => absurd q c, fun q => absurd q c, fun q => absurd q c, fun q => absurd q c, fun q => absurd q c, fun q => absurd q c, fun q => absurd q c, fun q => absurd q c, fun q => absurd q c, fun _ q => absurd q c3, fun _ q => absurd q c3, fun _ _ => a1, fun _ _ => b1⟩, b2⟩
    · have c3 : (3 : Int32) ≤ nI x := (nI_leI (a := 3) (by omega) (by omega)).mpr (by omega)
      rw [if_pos c3, if_neg c2]
      obtain ⟨a1, a2⟩ := fm_lay h (by omega) 0
      obtain ⟨b1, b2⟩ := ih (x + 1) _ _ (by omega) a2 (by rw [ln1]; omega)
      exact ⟨⟨fun q => absurd q c, fun q => absurd q c, fun q => absurd q c, fun q => absurd q c, fun q => absurd q c, fun q => absurd q c, fun q => absurd q c, fun q => absurd q c, fun q => absurd q c, fun q => absurd q c, fun q => absurd q c, fun q => absurd q c, fun q => absurd q c, fun q => absurd q c, fun _ _ => a1, fun _ _ => b1, fun _ q => absurd c3 q, fun _ q => absurd c3 q⟩, b2⟩
theorem hd_v0 (m : Nat) : hd_v m 0 = 127 ∧ hd_v m 1 = 69 ∧ hd_v m 2 = 76 ∧ hd_v m 3 = 70 ∧ hd_v m 4 = 1 ∧ hd_v m 5 = 1 ∧ hd_v m 6 = 1 ∧ hd_v m 7 = 0 ∧ hd_v m 8 = 0 ∧ hd_v m 9 = 0 ∧ hd_v m 10 = 0 ∧ hd_v m 11 = 0 ∧ hd_v m 12 = 0 ∧ hd_v m 13 = 0 ∧ hd_v m 14 = 0 ∧ hd_v m 15 = 0 := ⟨rfl, rfl, rfl, rfl, rfl, rfl, rfl, rfl, rfl, rfl, rfl, rfl, rfl, rfl, rfl, rfl⟩
theorem hd_v1 (m : Nat) : hd_v m 16 = 4 ∧ hd_v m 17 = 8 ∧ hd_v m 18 = 1 ∧ hd_v m 19 = 0 ∧ hd_v m 20 = 52 ∧ hd_v m 21 = 0 ∧ hd_v m 22 = 0 ∧ hd_v m 23 = 52 ∧ hd_v m 24 = 32 ∧ hd_v m 25 = nI m ∧ hd_v m 26 = 0 ∧ hd_v m 27 = 0 ∧ hd_v m 28 = 0 := ⟨rfl, rfl, rfl, rfl, rfl, rfl, rfl, rfl, rfl, rfl, rfl, rfl, rfl⟩
theorem hd_w0 : hd_w 0 = 1 ∧ hd_w 1 = 1 ∧ hd_w 2 = 1 ∧ hd_w 3 = 1 ∧ hd_w 4 = 1 ∧ hd_w 5 = 1 ∧ hd_w 6 = 1 ∧ hd_w 7 = 1 ∧ hd_w 8 = 1 ∧ hd_w 9 = 1 ∧ hd_w 10 = 1 ∧ hd_w 11 = 1 ∧ hd_w 12 = 1 ∧ hd_w 13 = 1 ∧ hd_w 14 = 1 ∧ hd_w 15 = 1 := ⟨rfl, rfl, rfl, rfl, rfl, rfl, rfl, rfl, rfl, rfl, rfl, rfl, rfl, rfl, rfl, rfl⟩
theorem hd_w1 : hd_w 16 = 2 ∧ hd_w 17 = 2 ∧ hd_w 18 = 4 ∧ hd_w 19 = 4 ∧ hd_w 20 = 4 ∧ hd_w 21 = 4 ∧ hd_w 22 = 4 ∧ hd_w 23 = 2 ∧ hd_w 24 = 2 ∧ hd_w 25 = 2 ∧ hd_w 26 = 2 ∧ hd_w 27 = 2 ∧ hd_w 28 = 2 := ⟨rfl, rfl, rfl, rfl, rfl, rfl, rfl, rfl, rfl, rfl, rfl, rfl, rfl⟩
theorem wd_1 (v : Int32) : wd v 1 = w1 v := rfl
theorem wd_2 (v : Int32) : wd v 2 = w2 v := rfl
theorem wd_4 (v : Int32) : wd v 4 = w4 v := rfl
theorem hz_eq : hz 12 0 = [b8 1] ++ ([b8 1] ++ ([b8 1] ++ ([b8 0] ++ ([b8 0] ++ ([b8 0] ++ ([b8 0] ++ ([b8 0] ++ ([b8 0] ++ ([b8 0] ++ ([b8 0] ++ ([b8 0] ++ []))))))))))) := rfl
theorem hd_s (m g i : Nat) : hd_l m (g + 1) i = wd (hd_v m i) (hd_w i) ++ hd_l m g (i + 1) := rfl
theorem hd_eq (m : Nat) : hd_l m 29 0 = [b8 127] ++ [b8 69] ++ [b8 76] ++ [b8 70] ++ hz 12 0 ++ hd_t m := by
  obtain ⟨a0, a1, a2, a3, a4, a5, a6, a7, a8, a9, aa, ab, ac, ad, ae, af⟩ := hd_v0 m
  obtain ⟨b0, b1, b2, b3, b4, b5, b6, b7, b8', b9, ba, bb, bc⟩ := hd_v1 m
  obtain ⟨c0, c1, c2, c3, c4, c5, c6, c7, c8, c9, ca, cb, cc, cd, ce, cf⟩ := hd_w0
  obtain ⟨d0, d1, d2, d3, d4, d5, d6, d7, d8, d9, da, db, dc⟩ := hd_w1
  rw [hz_eq, hd_t]
  rw [hd_s, hd_s, hd_s, hd_s, hd_s, hd_s, hd_s, hd_s, hd_s, hd_s, hd_s, hd_s, hd_s, hd_s, hd_s, hd_s, hd_s, hd_s, hd_s, hd_s, hd_s, hd_s, hd_s, hd_s, hd_s, hd_s, hd_s, hd_s, hd_s]
  simp only [Nat.reduceAdd, a0, a1, a2, a3, a4, a5, a6, a7, a8, a9, aa, ab, ac, ad, ae, af, b0, b1, b2, b3, b4, b5, b6, b7, b8', b9, ba, bb, bc, c0, c1, c2, c3, c4, c5, c6, c7, c8, c9, ca, cb, cc, cd, ce, cf, d0, d1, d2, d3, d4, d5, d6, d7, d8, d9, da, db, dc, wd_1, wd_2, wd_4, hd_l, List.append_assoc, List.append_nil, List.nil_append]
theorem hd_len (m : Nat) : (hd_l m 29 0).length = 52 := rfl
/-- the header on both sides -/
theorem fc_header {u : cd_Row} {um : cd_Mem} {n : Nat} (hc : um.1 = nI n) (hn : n ≤ 6) (h : fc u []) : o_Fw_writeHeader 6588 u um ∧ fc (f_Fw_writeHeader 6588 u um) (hd_l (n + 1) 29 0) := fc_head (uf := u) hc hn 29 0 u [] (by omega) h (by show 0 + 4 * 29 ≤ 6500; omega)
theorem fm_header {S : cd_Mo × cd_By} {mr : Nat → Int32} {b : cd_Mo} {n : Nat} (hr : mr 0 = nI n) (hn : n ≤ 6) (h : fm S b []) : o_Mo_header S mr ∧ fm (f_Mo_header S mr) b (hd_l (n + 1) 29 0) := by
  obtain ⟨p1, q1⟩ := fm_lay h (by show 0 < 8192; omega) 127
  obtain ⟨p2, q2⟩ := fm_lay q1 (by show 1 < 8192; omega) 69
  obtain ⟨p3, q3⟩ := fm_lay q2 (by show 2 < 8192; omega) 76
  obtain ⟨p4, q4⟩ := fm_lay q3 (by show 3 < 8192; omega) 70
  obtain ⟨p5, q5⟩ := fm_head (S0 := S) hr hn 12 0 _ _ (by omega) q4 (by show 4 + 12 ≤ 100; omega)
  refine ⟨⟨p1, p2, p3, p4, p5⟩, ?_⟩
  rw [hd_eq]
  exact q5
/-- one row of the table of entries -/
def ph (k0 k1 k2 k3 k4 k5 k6 k7 : Int32) : List Int32 := w4 k0 ++ w4 k1 ++ w4 k2 ++ w4 k3 ++ w4 k4 ++ w4 k5 ++ w4 k6 ++ w4 k7
theorem ph_len (k0 k1 k2 k3 k4 k5 k6 k7 : Int32) : (ph k0 k1 k2 k3 k4 k5 k6 k7).length = 32 := rfl
theorem fm_ph {S : cd_Mo × cd_By} {b : cd_Mo} {l : List Int32} (h : fm S b l) (hl : l.length + 32 ≤ 8192) (k0 k1 k2 k3 k4 k5 k6 : Int32) : o_Mo_programHeader S k0 k1 k2 k3 k4 k5 k6 ∧ fm (f_Mo_programHeader S k0 k1 k2 k3 k4 k5 k6) b (l ++ ph k0 k1 k2 0 k3 k4 k5 k6) := by
  obtain ⟨p1, q1⟩ := fm_four h (by omega) k0
  obtain ⟨p2, q2⟩ := fm_four q1 (by simp only [ln4]; omega) k1
  obtain ⟨p3, q3⟩ := fm_four q2 (by simp only [ln4]; omega) k2
  obtain ⟨p4, q4⟩ := fm_four q3 (by simp only [ln4]; omega) 0
  obtain ⟨p5, q5⟩ := fm_four q4 (by simp only [ln4]; omega) k3
  obtain ⟨p6, q6⟩ := fm_four q5 (by simp only [ln4]; omega) k4
  obtain ⟨p7, q7⟩ := fm_four q6 (by simp only [ln4]; omega) k5
  obtain ⟨p8, q8⟩ := fm_four q7 (by simp only [ln4]; omega) k6
  refine ⟨⟨p1, p2, p3, p4, p5, p6, p7, p8⟩, ?_⟩
  unfold ph
  simp only [← List.append_assoc]
  exact q8
theorem fc_ph {u : cd_Row} {l : List Int32} (h : fc u l) (hl : l.length + 32 ≤ 6588) (k0 k1 k2 k3 k4 k5 k6 k7 : Int32) : (o_Fw_writeFour 6588 u k0 ∧ o_Fw_writeFour 6588 (f_Fw_writeFour 6588 u k0) k1 ∧ o_Fw_writeFour 6588 (f_Fw_writeFour 6588 (f_Fw_writeFour 6588 u k0) k1) k2 ∧ o_Fw_writeFour 6588 (f_Fw_writeFour 6588 (f_Fw_writeFour 6588 (f_Fw_writeFour 6588 u k0) k1) k2) k3 ∧ o_Fw_writeFour 6588 (f_Fw_writeFour 6588 (f_Fw_writeFour 6588 (f_Fw_writeFour 6588 (f_Fw_writeFour 6588 u k0) k1) k2) k3) k4 ∧ o_Fw_writeFour 6588 (f_Fw_writeFour 6588 (f_Fw_writeFour 6588 (f_Fw_writeFour 6588 (f_Fw_writeFour 6588 (f_Fw_writeFour 6588 u k0) k1) k2) k3) k4) k5 ∧ o_Fw_writeFour 6588 (f_Fw_writeFour 6588 (f_Fw_writeFour 6588 (f_Fw_writeFour 6588 (f_Fw_writeFour 6588 (f_Fw_writeFour 6588 (f_Fw_writeFour 6588 u k0) k1) k2) k3) k4) k5) k6 ∧ o_Fw_writeFour 6588 (f_Fw_writeFour 6588 (f_Fw_writeFour 6588 (f_Fw_writeFour 6588 (f_Fw_writeFour 6588 (f_Fw_writeFour 6588 (f_Fw_writeFour 6588 (f_Fw_writeFour 6588 u k0) k1) k2) k3) k4) k5) k6) k7) ∧ fc (f_Fw_writeFour 6588 (f_Fw_writeFour 6588 (f_Fw_writeFour 6588 (f_Fw_writeFour 6588 (f_Fw_writeFour 6588 (f_Fw_writeFour 6588 (f_Fw_writeFour 6588 (f_Fw_writeFour 6588 u k0) k1) k2) k3) k4) k5) k6) k7) (l ++ ph k0 k1 k2 k3 k4 k5 k6 k7) := by
  obtain ⟨p1, q1⟩ := fc_four h (by omega) k0
  obtain ⟨p2, q2⟩ := fc_four q1 (by simp only [ln4]; omega) k1
  obtain ⟨p3, q3⟩ := fc_four q2 (by simp only [ln4]; omega) k2
  obtain ⟨p4, q4⟩ := fc_four q3 (by simp only [ln4]; omega) k3
  obtain ⟨p5, q5⟩ := fc_four q4 (by simp only [ln4]; omega) k4
  obtain ⟨p6, q6⟩ := fc_four q5 (by simp only [ln4]; omega) k5
  obtain ⟨p7, q7⟩ := fc_four q6 (by simp only [ln4]; omega) k6
  obtain ⟨p8, q8⟩ := fc_four q7 (by simp only [ln4]; omega) k7
  refine ⟨⟨p1, p2, p3, p4, p5, p6, p7, p8⟩, ?_⟩
  unfold ph
  simp only [← List.append_assoc]
  exact q8
