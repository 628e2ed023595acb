-- dump: the file as a list of bytes, written on each side
abbrev b8 (v : Int32) : Int32 := vp_nar .byte v.toInt8.toInt32
abbrev w1 (v : Int32) : List Int32 := [b8 v]
abbrev w2 (v : Int32) : List Int32 := [b8 v, b8 (v >>> ((8 : Int32) &&& 31))]
abbrev w4 (v : Int32) : List Int32 := [b8 v, b8 (v >>> ((8 : Int32) &&& 31)), b8 (v >>> ((16 : Int32) &&& 31)), b8 (v >>> ((16 : Int32) &&& 31) >>> ((8 : Int32) &&& 31))]
def fc (u : cd_Row) (l : List Int32) : Prop := u.1 = nI l.length ∧ (∀ j, j < l.length → u.2 j = l.getD j 0) ∧ sb_Fit u.2
def fm (S : cd_Mo × cd_By) (b : cd_Mo) (l : List Int32) : Prop := S.1 = (b.1, nI l.length, b.2.2) ∧ ∀ j, j < l.length → S.2 j = l.getD j 0
theorem ls_get {l : List Int32} {x : Int32} {f : Nat → Int32} (h : ∀ j, j < l.length → f j = l.getD j 0) : ∀ j, j < (l ++ [x]).length → upd f l.length x j = (l ++ [x]).getD j 0 := by
  intro j hj
  rw [List.length_append] at hj
  have hj' : j < l.length + 1 := hj
  rw [pu_upd, List.getD_eq_getElem?_getD, List.getElem?_append]
  by_cases c : j < l.length
  · rw [if_neg (by omega), if_pos c, h j c, List.getD_eq_getElem?_getD]
  · have e : j = l.length := by omega
    subst e
    rw [if_pos rfl, if_neg c]
    simp
theorem fc_app {u : cd_Row} {l : List Int32} (h : fc u l) (hl : l.length < 6588) (v : Int32) : o_Row_append 6588 u v ∧ fc (f_Row_append 6588 u v).2 (l ++ [b8 v]) := by
  obtain ⟨h1, h2, h3⟩ := h
  unfold o_Row_append f_Row_append
  rw [h1]
  have c : nI l.length < nI 6588 := (nI_ltI (by omega) (by omega)).mpr hl
  rw [if_pos c, nI_1, nI_clamp (by omega)]
  refine ⟨fun _ => vp_in_nI hl (by omega), ?_, ls_get h2, sb_fitU h3 (pu_fb v)⟩
  rw [List.length_append]
  rfl
theorem fm_lay {S : cd_Mo × cd_By} {b : cd_Mo} {l : List Int32} (h : fm S b l) (hl : l.length < 8192) (v : Int32) : o_Mo_lay S v ∧ fm (f_Mo_lay S v) b (l ++ [b8 v]) := by
  obtain ⟨h1, h2⟩ := h
  unfold o_Mo_lay f_Mo_lay
  rw [h1]
  dsimp only
  rw [nI_1, nI_clamp (by omega)]
  refine ⟨vp_in_nI hl (by omega), ?_, ls_get h2⟩
  rw [List.length_append]
  rfl
theorem fm_two {S : cd_Mo × cd_By} {b : cd_Mo} {l : List Int32} (h : fm S b l) (hl : l.length + 2 ≤ 8192) (v : Int32) : o_Mo_two S v ∧ fm (f_Mo_two S v) b (l ++ w2 v) := by
  obtain ⟨a1, a2⟩ := fm_lay h (by omega) v
  obtain ⟨b1, b2⟩ := fm_lay a2 (by rw [List.length_append]; show l.length + 1 < 8192; omega) (v >>> ((8 : Int32) &&& 31))
  rw [List.append_assoc] at b2
  exact ⟨⟨a1, b1⟩, b2⟩
theorem fm_four {S : cd_Mo × cd_By} {b : cd_Mo} {l : List Int32} (h : fm S b l) (hl : l.length + 4 ≤ 8192) (v : Int32) : o_Mo_four S v ∧ fm (f_Mo_four S v) b (l ++ w4 v) := by
  obtain ⟨a1, a2⟩ := fm_two h (by omega) v
  obtain ⟨b1, b2⟩ := fm_two a2 (by rw [List.length_append]; show l.length + 2 + 2 ≤ 8192; omega) (v >>> ((16 : Int32) &&& 31))
  rw [List.append_assoc] at b2
  exact ⟨⟨a1, b1⟩, b2⟩
theorem pu_r8 (x : Int32) : (x >>> ((8 : Int32) &&& 31)).toBitVec = x.toBitVec.sshiftRight 8 := by
  rw [Int32.toBitVec_shiftRight, BitVec.sshiftRight_eq', show (((8 : Int32) &&& 31).toBitVec.smod 32).toNat = 8 by decide]
theorem pu_r16 (x : Int32) : (x >>> ((16 : Int32) &&& 31)).toBitVec = x.toBitVec.sshiftRight 16 := by
  rw [Int32.toBitVec_shiftRight, BitVec.sshiftRight_eq', show (((16 : Int32) &&& 31).toBitVec.smod 32).toNat = 16 by decide]
theorem pu_r88 (x : Int32) : x >>> ((8 : Int32) &&& 31) >>> ((8 : Int32) &&& 31) = x >>> ((16 : Int32) &&& 31) := by
  apply Int32.toBitVec_inj.mp
  rw [pu_r8, pu_r8, pu_r16, ← BitVec.sshiftRight_add]
def wd (v : Int32) : Nat → List Int32
  | 1 => w1 v
  | 2 => w2 v
  | _ => w4 v
theorem fc_num {u : cd_Row} {l : List Int32} (h : fc u l) (hl : l.length + 4 ≤ 6588) (v : Int32) {w : Nat} (hw : w = 1 ∨ w = 2 ∨ w = 4) : o_Row_appendNumber 6588 u v (nI w) ∧ fc (f_Row_appendNumber 6588 u v (nI w)) (l ++ wd v w) := by
  have len : ∀ (l : List Int32) (x : Int32), (l ++ [x]).length = l.length + 1 := fun l x => by rw [List.length_append]; rfl
  obtain ⟨a1, a2⟩ := fc_app h (by omega) v
  obtain ⟨b1, b2⟩ := fc_app a2 (by rw [len]; omega) (v >>> ((8 : Int32) &&& 31))
  obtain ⟨c1, c2⟩ := fc_app b2 (by rw [len, len]; omega) (v >>> ((8 : Int32) &&& 31) >>> ((8 : Int32) &&& 31))
  obtain ⟨d1, d2⟩ := fc_app c2 (by rw [len, len, len]; omega) (v >>> ((8 : Int32) &&& 31) >>> ((8 : Int32) &&& 31) >>> ((8 : Int32) &&& 31))
  unfold o_Row_appendNumber f_Row_appendNumber
  have st : ∀ (g i : Nat) (y : Int32) (u' : cd_Row), w ≤ 4 → i < 5 → (i < w → o_Row_append 6588 u' y ∧ o_Row_appendNumber_L5 6588 u v (nI w) g (y >>> ((8 : Int32) &&& 31)) (nI (i + 1)) (f_Row_append 6588 u' y).2) → o_Row_appendNumber_L5 6588 u v (nI w) (g + 1) y (nI i) u' ∧ (i < w → f_Row_appendNumber_L5 6588 u v (nI w) (g + 1) y (nI i) u' = f_Row_appendNumber_L5 6588 u v (nI w) g (y >>> ((8 : Int32) &&& 31)) (nI (i + 1)) (f_Row_append 6588 u' y).2) ∧ (¬ i < w → f_Row_appendNumber_L5 6588 u v (nI w) (g + 1) y (nI i) u' = u') := by
    intro g i y u' hw hi hs
    rw [o_Row_appendNumber_L5, f_Row_appendNumber_L5, nI_1]
    by_cases c : i < w
    · have c1 : ¬ nI w ≤ nI i := fun q => by have := (nI_leI (by omega) (by omega)).mp q; omega
      rw [if_neg c1]
      exact ⟨⟨fun _ => (hs c).1, fun _ => (hs c).2⟩, fun _ => rfl, fun q => absurd c q⟩
    · have c1 : nI w ≤ nI i := (nI_leI (by omega) (by omega)).mpr (by omega)
      rw [if_pos c1]
      exact ⟨⟨fun q => absurd c1 q, fun q => absurd c1 q⟩, fun q => absurd q c, fun _ => rfl⟩
  rcases hw with rfl | rfl | rfl
  · obtain ⟨p1, p2, p3⟩ := st 3 1 (v >>> ((8 : Int32) &&& 31)) (f_Row_append 6588 u v).2 (by omega) (by omega) (fun q => by omega)
    obtain ⟨q1, q2, q3⟩ := st 4 0 v u (by omega) (by omega) (fun _ => ⟨a1, p1⟩)
    rw [show (0 : Int32) = nI 0 from rfl, q2 (by omega), p3 (by omega)]
    exact ⟨q1, a2⟩
  · obtain ⟨o1, o2, o3⟩ := st 2 2 (v >>> ((8 : Int32) &&& 31) >>> ((8 : Int32) &&& 31)) (f_Row_append 6588 (f_Row_append 6588 u v).2 (v >>> ((8 : Int32) &&& 31))).2 (by omega) (by omega) (fun q => by omega)
    obtain ⟨p1, p2, p3⟩ := st 3 1 (v >>> ((8 : Int32) &&& 31)) (f_Row_append 6588 u v).2 (by omega) (by omega) (fun q => ⟨b1, o1⟩)
    obtain ⟨q1, q2, q3⟩ := st 4 0 v u (by omega) (by omega) (fun _ => ⟨a1, p1⟩)
    rw [show (0 : Int32) = nI 0 from rfl, q2 (by omega), p2 (by omega), o3 (by omega)]
    rw [List.append_assoc] at b2
    exact ⟨q1, b2⟩
  · obtain ⟨m1, m2, m3⟩ := st 0 4 (v >>> ((8 : Int32) &&& 31) >>> ((8 : Int32) &&& 31) >>> ((8 : Int32) &&& 31) >>> ((8 : Int32) &&& 31)) (f_Row_append 6588 (f_Row_append 6588 (f_Row_append 6588 (f_Row_append 6588 u v).2 (v >>> ((8 : Int32) &&& 31))).2 (v >>> ((8 : Int32) &&& 31) >>> ((8 : Int32) &&& 31))).2 (v >>> ((8 : Int32) &&& 31) >>> ((8 : Int32) &&& 31) >>> ((8 : Int32) &&& 31))).2 (by omega) (by omega) (fun q => by omega)
    obtain ⟨n1, n2, n3⟩ := st 1 3 (v >>> ((8 : Int32) &&& 31) >>> ((8 : Int32) &&& 31) >>> ((8 : Int32) &&& 31)) (f_Row_append 6588 (f_Row_append 6588 (f_Row_append 6588 u v).2 (v >>> ((8 : Int32) &&& 31))).2 (v >>> ((8 : Int32) &&& 31) >>> ((8 : Int32) &&& 31))).2 (by omega) (by omega) (fun q => ⟨d1, m1⟩)
    obtain ⟨o1, o2, o3⟩ := st 2 2 (v >>> ((8 : Int32) &&& 31) >>> ((8 : Int32) &&& 31)) (f_Row_append 6588 (f_Row_append 6588 u v).2 (v >>> ((8 : Int32) &&& 31))).2 (by omega) (by omega) (fun q => ⟨c1, n1⟩)
    obtain ⟨p1, p2, p3⟩ := st 3 1 (v >>> ((8 : Int32) &&& 31)) (f_Row_append 6588 u v).2 (by omega) (by omega) (fun q => ⟨b1, o1⟩)
    obtain ⟨q1, q2, q3⟩ := st 4 0 v u (by omega) (by omega) (fun _ => ⟨a1, p1⟩)
    rw [show (0 : Int32) = nI 0 from rfl, q2 (by omega), p2 (by omega), o2 (by omega), n2 (by omega), m3 (by omega)]
    simp only [pu_r88] at d2 ⊢
    rw [List.append_assoc, List.append_assoc, List.append_assoc] at d2
    exact ⟨q1, d2⟩
theorem fc_four {u : cd_Row} {l : List Int32} (h : fc u l) (hl : l.length + 4 ≤ 6588) (v : Int32) : o_Fw_writeFour 6588 u v ∧ fc (f_Fw_writeFour 6588 u v) (l ++ w4 v) := fc_num h hl v (w := 4) (Or.inr (Or.inr rfl))
