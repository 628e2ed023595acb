-- numbers on the tape
theorem pu_bits4 (a b c d : Int32) : (a ||| (b <<< ((8 : Int32) &&& 31))) ||| ((c ||| (d <<< ((8 : Int32) &&& 31))) <<< ((16 : Int32) &&& 31)) = pu_w4 a b c d := by
  apply Int32.toBitVec_inj.mp
  simp only [Int32.toBitVec_or, pu_s8, pu_s16, pu_s24]
  simp only [pu_bvor, ← BitVec.shiftLeft_add]
  show _ = a.toBitVec ||| b.toBitVec <<< 8 ||| c.toBitVec <<< 16 ||| d.toBitVec <<< (8 + 16)
  generalize b.toBitVec <<< 8 = b'
  generalize c.toBitVec <<< 16 = c'
  generalize d.toBitVec <<< (8 + 16) = d'
  ac_rfl
theorem pu_bits2 (a b : Int32) : (((0 : Int32) <<< ((8 : Int32) &&& 31) ||| b) <<< ((8 : Int32) &&& 31)) ||| a = a ||| (b <<< ((8 : Int32) &&& 31)) := by
  apply Int32.toBitVec_inj.mp
  simp only [Int32.toBitVec_or, pu_s8]
  rw [show (0 : Int32).toBitVec = 0#32 from rfl, BitVec.zero_shiftLeft, BitVec.zero_or, BitVec.or_comm]
theorem pu_bits1 (a : Int32) : ((0 : Int32) <<< ((8 : Int32) &&& 31)) ||| a = a := by
  apply Int32.toBitVec_inj.mp
  simp only [Int32.toBitVec_or, pu_s8]
  rw [show (0 : Int32).toBitVec = 0#32 from rfl, BitVec.zero_shiftLeft, BitVec.zero_or]
theorem tp_o {n : Nat} {u : cd_Row} {k x : Int32} : ∀ (g i : Nat) (v : Int32), i < g → (∀ j, j ≤ i → vp_in (k + nI j) n) → o_Row_number_L23 n u k x (g + 1) v (nI i) := by
  intro g
  induction g with
  | zero => intro i v h; omega
  | succ g ih =>
    intro i v hi h
    unfold o_Row_number_L23
    refine ⟨fun _ => h i (Nat.le_refl _), fun c => ?_⟩
    cases i with
    | zero =>
      rw [show nI 0 + (-1 : Int32) = -1 by decide]
      unfold o_Row_number_L23
      exact ⟨fun q => absurd (by decide) q, fun q => absurd (by decide) q⟩
    | succ i =>
      have em : nI (i + 1) + (-1 : Int32) = nI i := by
        rw [← nI_1]
        rw [pu_eq]
        simp only [Int32.toInt_add]
        simp [Int.add_assoc]
      rw [em]
      exact ih i _ (by omega) (fun j hj => h j (by omega))
theorem tp_s {n : Nat} {u : cd_Row} {k x : Int32} (g i : Nat) (v : Int32) (hi : i < 65536) : f_Row_number_L23 n u k x (g + 1) v (nI (i + 1)) = f_Row_number_L23 n u k x g ((v <<< ((8 : Int32) &&& 31)) ||| (u.2 (k + nI (i + 1)).toNatClampNeg &&& 255)) (nI i) := by
  have em : nI (i + 1) + (-1 : Int32) = nI i := by
    rw [← nI_1]
    rw [pu_eq]
    simp only [Int32.toInt_add]
    simp [Int.add_assoc]
  rw [f_Row_number_L23, if_neg (nI_pos (by omega)), em]
theorem tp_e {n : Nat} {u : cd_Row} {k x : Int32} (g : Nat) (v : Int32) : f_Row_number_L23 n u k x (g + 2) v (nI 0) = ((v <<< ((8 : Int32) &&& 31)) ||| (u.2 (k + nI 0).toNatClampNeg &&& 255)) := by
  rw [f_Row_number_L23, if_neg (by decide), show nI 0 + (-1 : Int32) = -1 by decide, f_Row_number_L23, if_pos (by decide)]
section
variable {up : cd_Row} {sz : Int32} {mp : Nat → Int32} {L : Nat}
theorem tp_in {p w : Nat} (hL : L ≤ 8192) (hu : up.1 = nI L) (hp : p + w ≤ L) : ¬ nI p < 0 ∧ nI p ≤ up.1 - nI w := by
  refine ⟨nI_pos (by omega), ?_⟩
  rw [hu, pu_le, pu_sub (by rw [nI_toInt (by omega), nI_toInt (by omega)]; omega) (by rw [nI_toInt (by omega), nI_toInt (by omega)]; omega), nI_toInt (by omega), nI_toInt (by omega), nI_toInt (by omega)]
  omega
theorem tp_4 (h : rw_rel up 8192 sz mp L) (v : cd_Mo) {p : Nat} (hp : p + 4 ≤ L) : o_Row_number 8192 up (nI p) 4 ∧ o_Mo_fourAt v mp (nI p) ∧ f_Mo_fourAt v mp (nI p) = pu_w4 (mp p &&& 255) (mp (p + 1) &&& 255) (mp (p + 2) &&& 255) (mp (p + 3) &&& 255) ∧ f_Row_number 8192 up (nI p) 4 = f_Mo_fourAt v mp (nI p) := by
  obtain ⟨h1, h2, h3, h4, h5⟩ := h
  obtain ⟨c1, c2⟩ := tp_in (p := p) (w := 4) h1 h2 hp
  have vin : ∀ j, j ≤ 3 → vp_in (nI p + nI j) 8192 := fun j hj => by rw [nI_add]; exact vp_in_nI (by omega) (by omega)
  have e3 : (4 : Int32) - 1 = nI (2 + 1) := by decide
  have ef : f_Mo_fourAt v mp (nI p) = pu_w4 (mp p &&& 255) (mp (p + 1) &&& 255) (mp (p + 2) &&& 255) (mp (p + 3) &&& 255) := by
    unfold f_Mo_fourAt f_Mo_twoAt
    rw [show (2 : Int32) = nI 2 from rfl, nI_add, nI_1, nI_1, nI_clamp (by omega), nI_clamp (by omega), nI_clamp (by omega), nI_clamp (by omega)]
    exact pu_bits4 _ _ _ _
  refine ⟨fun _ _ => ?_, ?_, ef, ?_⟩
  · rw [e3]
    exact tp_o 4 3 0 (by omega) vin
  · unfold o_Mo_fourAt o_Mo_twoAt
    rw [show (2 : Int32) = nI 2 from rfl, nI_add, nI_1, nI_1]
    exact ⟨⟨vp_in_nI (by omega) (by omega), vp_in_nI (by omega) (by omega)⟩, vp_in_nI (by omega) (by omega), vp_in_nI (by omega) (by omega)⟩
  · rw [ef]
    unfold f_Row_number
    rw [if_neg c1, if_pos (show nI p ≤ up.1 - 4 from c2), e3, tp_s 4 2 _ (by omega), tp_s 3 1 _ (by omega), tp_s 2 0 _ (by omega), tp_e 0]
    rw [nI_add, nI_add, nI_add, nI_add, nI_clamp (by omega), nI_clamp (by omega), nI_clamp (by omega), nI_clamp (by omega)]
    rw [h4 (p + (2 + 1)) (by omega), h4 (p + (1 + 1)) (by omega), h4 (p + (0 + 1)) (by omega), h4 (p + 0) (by omega)]
    exact pu_bits _ _ _ _
theorem tp_2 (h : rw_rel up 8192 sz mp L) (v : cd_Mo) {p : Nat} (hp : p + 2 ≤ L) : o_Row_number 8192 up (nI p) 2 ∧ o_Mo_twoAt v mp (nI p) ∧ f_Mo_twoAt v mp (nI p) = (mp p &&& 255) ||| ((mp (p + 1) &&& 255) <<< ((8 : Int32) &&& 31)) ∧ f_Row_number 8192 up (nI p) 2 = f_Mo_twoAt v mp (nI p) := by
  obtain ⟨h1, h2, h3, h4, h5⟩ := h
  obtain ⟨c1, c2⟩ := tp_in (p := p) (w := 2) h1 h2 hp
  have vin : ∀ j, j ≤ 1 → vp_in (nI p + nI j) 8192 := fun j hj => by rw [nI_add]; exact vp_in_nI (by omega) (by omega)
  have e3 : (2 : Int32) - 1 = nI (0 + 1) := by decide
  have ef : f_Mo_twoAt v mp (nI p) = (mp p &&& 255) ||| ((mp (p + 1) &&& 255) <<< ((8 : Int32) &&& 31)) := by
    unfold f_Mo_twoAt
    rw [nI_1, nI_clamp (by omega), nI_clamp (by omega)]
  refine ⟨fun _ _ => ?_, ?_, ef, ?_⟩
  · rw [e3]
    exact tp_o 4 1 0 (by omega) vin
  · unfold o_Mo_twoAt
    rw [nI_1]
    exact ⟨vp_in_nI (by omega) (by omega), vp_in_nI (by omega) (by omega)⟩
  · rw [ef]
    unfold f_Row_number
    rw [if_neg c1, if_pos (show nI p ≤ up.1 - 2 from c2), e3, tp_s 4 0 _ (by omega), tp_e 2]
    rw [nI_add, nI_add, nI_clamp (by omega), nI_clamp (by omega)]
    rw [h4 (p + (0 + 1)) (by omega), h4 (p + 0) (by omega)]
    exact pu_bits2 _ _
theorem tp_1 (h : rw_rel up 8192 sz mp L) {p : Nat} (hp : p + 1 ≤ L) : o_Row_number 8192 up (nI p) 1 ∧ f_Row_number 8192 up (nI p) 1 = mp p &&& 255 := by
  obtain ⟨h1, h2, h3, h4, h5⟩ := h
  obtain ⟨c1, c2⟩ := tp_in (p := p) (w := 1) h1 h2 hp
  have vin : ∀ j, j ≤ 0 → vp_in (nI p + nI j) 8192 := fun j hj => by rw [nI_add]; exact vp_in_nI (by omega) (by omega)
  have e3 : (1 : Int32) - 1 = nI 0 := by decide
  refine ⟨fun _ _ => ?_, ?_⟩
  · rw [e3]
    exact tp_o 4 0 0 (by omega) vin
  · unfold f_Row_number
    rw [if_neg c1, if_pos (show nI p ≤ up.1 - 1 from c2), e3, tp_e 3, nI_add, nI_clamp (by omega), h4 (p + 0) (by omega)]
    exact pu_bits1 _
end
-- four bytes as a number
theorem pu_nbv {n : Nat} (h : n < 4294967296) : (nI n).toBitVec.toNat = n := by
  show (Int32.ofNat n).toBitVec.toNat = n
  rw [Int32.toBitVec_ofNat']
  exact BitVec.toNat_ofNat n 32 ▸ Nat.mod_eq_of_lt h
theorem w4_nat {a b c d : Nat} (ha : a < 256) (hb : b < 256) (hc : c < 256) (hd : d < 256) : (pu_w4 (nI a) (nI b) (nI c) (nI d)).toBitVec.toNat = a + 256 * b + 65536 * c + 16777216 * d := by
  simp only [pu_w4, Int32.toBitVec_or, pu_s8, pu_s16, pu_s24, BitVec.toNat_or, BitVec.toNat_shiftLeft]
  rw [pu_nbv (by omega), pu_nbv (by omega), pu_nbv (by omega), pu_nbv (by omega)]
  have e1 : b <<< 8 = 256 * b := by rw [Nat.shiftLeft_eq]; omega
  have e2 : c <<< 16 = 65536 * c := by rw [Nat.shiftLeft_eq]; omega
  have e3 : d <<< 24 = 16777216 * d := by rw [Nat.shiftLeft_eq]; omega
  have m1 : b <<< 8 % 2 ^ 32 = b <<< 8 := Nat.mod_eq_of_lt (by rw [e1]; omega)
  have m2 : c <<< 16 % 2 ^ 32 = c <<< 16 := Nat.mod_eq_of_lt (by rw [e2]; omega)
  have m3 : d <<< 24 % 2 ^ 32 = d <<< 24 := Nat.mod_eq_of_lt (by rw [e3]; omega)
  rw [m1, m2, m3]
  have s1 : a ||| b <<< 8 = b <<< 8 + a := by rw [Nat.or_comm]; exact (Nat.shiftLeft_add_eq_or_of_lt (by omega) b).symm
  rw [s1]
  have s2 : (b <<< 8 + a) ||| c <<< 16 = c <<< 16 + (b <<< 8 + a) := by rw [Nat.or_comm]; exact (Nat.shiftLeft_add_eq_or_of_lt (by rw [e1]; omega) c).symm
  rw [s2]
  have s3 : (c <<< 16 + (b <<< 8 + a)) ||| d <<< 24 = d <<< 24 + (c <<< 16 + (b <<< 8 + a)) := by rw [Nat.or_comm]; exact (Nat.shiftLeft_add_eq_or_of_lt (by rw [e1, e2]; omega) d).symm
  rw [s3, e1, e2, e3]
  omega
theorem w4_eq {a b c d v : Nat} (ha : a < 256) (hb : b < 256) (hc : c < 256) (hd : d < 256) (hv : v < 4294967296) : pu_w4 (nI a) (nI b) (nI c) (nI d) = nI v ↔ a + 256 * b + 65536 * c + 16777216 * d = v := by
  rw [← Int32.toBitVec_inj, ← BitVec.toNat_inj, w4_nat ha hb hc hd, pu_nbv hv]
theorem pu_by (x : Int32) : ∃ j : Nat, j < 256 ∧ x &&& 255 = nI j := pk_andE x 8 (by decide)
