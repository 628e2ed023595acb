-- numbers read
theorem pu_s8 (x : Int32) : (x <<< ((8 : Int32) &&& 31)).toBitVec = x.toBitVec <<< (8 : Nat) := by
  rw [Int32.toBitVec_shiftLeft, BitVec.shiftLeft_eq', show (((8 : Int32) &&& 31).toBitVec.smod 32).toNat = 8 by decide]
theorem pu_s16 (x : Int32) : (x <<< ((16 : Int32) &&& 31)).toBitVec = x.toBitVec <<< (16 : Nat) := by
  rw [Int32.toBitVec_shiftLeft, BitVec.shiftLeft_eq', show (((16 : Int32) &&& 31).toBitVec.smod 32).toNat = 16 by decide]
theorem pu_s24 (x : Int32) : (x <<< ((24 : Int32) &&& 31)).toBitVec = x.toBitVec <<< (24 : Nat) := by
  rw [Int32.toBitVec_shiftLeft, BitVec.shiftLeft_eq', show (((24 : Int32) &&& 31).toBitVec.smod 32).toNat = 24 by decide]
theorem pu_bvor (x y : BitVec 32) (n : Nat) : (x ||| y) <<< n = x <<< n ||| y <<< n := BitVec.shiftLeft_or_distrib x y n
theorem pu_bits (a b c d : Int32) : (((((((0 : Int32) <<< ((8 : Int32) &&& 31)) ||| d) <<< ((8 : Int32) &&& 31)) ||| c) <<< ((8 : Int32) &&& 31) ||| b) <<< ((8 : Int32) &&& 31)) ||| a = ((a ||| (b <<< ((8 : Int32) &&& 31))) ||| (c <<< ((16 : Int32) &&& 31))) ||| (d <<< ((24 : Int32) &&& 31)) := by
  apply Int32.toBitVec_inj.mp
  simp only [Int32.toBitVec_or, pu_s8, pu_s16, pu_s24]
  rw [show (0 : Int32).toBitVec = 0#32 from rfl, BitVec.zero_shiftLeft]
  simp only [pu_bvor, ← BitVec.shiftLeft_add, BitVec.zero_shiftLeft, BitVec.zero_or]
  show _ = a.toBitVec ||| b.toBitVec <<< 8 ||| c.toBitVec <<< (8 + 8) ||| d.toBitVec <<< (8 + 8 + 8)
  generalize b.toBitVec <<< 8 = b'
  generalize c.toBitVec <<< (8 + 8) = c'
  generalize d.toBitVec <<< (8 + 8 + 8) = d'
  ac_rfl

/-- a number read out of a memory: the four bytes, one after the other -/
abbrev pu_w4 (a b c d : Int32) : Int32 := ((a ||| (b <<< ((8 : Int32) &&& 31))) ||| (c <<< ((16 : Int32) &&& 31))) ||| (d <<< ((24 : Int32) &&& 31))
theorem pu_rdnum (u : cd_Mem) (k : Int32) : f_Mem_readNumber u k = pu_w4 (f_Mem_readByte u (k + 0)) (f_Mem_readByte u (k + 1)) (f_Mem_readByte u (k + 2)) (f_Mem_readByte u (k + 3)) := by
  unfold f_Mem_readNumber
  have s3 : f_Mem_readNumber_L4 u k 5 0 3 = f_Mem_readNumber_L4 u k 4 ((0 <<< ((8 : Int32) &&& 31)) ||| f_Mem_readByte u (k + 3)) 2 := by
    rw [f_Mem_readNumber_L4, if_neg (by decide), show (3 : Int32) + -1 = 2 by decide]
  have s2 : ∀ v, f_Mem_readNumber_L4 u k 4 v 2 = f_Mem_readNumber_L4 u k 3 ((v <<< ((8 : Int32) &&& 31)) ||| f_Mem_readByte u (k + 2)) 1 := by
    intro v
    rw [f_Mem_readNumber_L4, if_neg (by decide), show (2 : Int32) + -1 = 1 by decide]
  have s1 : ∀ v, f_Mem_readNumber_L4 u k 3 v 1 = f_Mem_readNumber_L4 u k 2 ((v <<< ((8 : Int32) &&& 31)) ||| f_Mem_readByte u (k + 1)) 0 := by
    intro v
    rw [f_Mem_readNumber_L4, if_neg (by decide), show (1 : Int32) + -1 = 0 by decide]
  have s0 : ∀ v, f_Mem_readNumber_L4 u k 2 v 0 = f_Mem_readNumber_L4 u k 1 ((v <<< ((8 : Int32) &&& 31)) ||| f_Mem_readByte u (k + 0)) (-1) := by
    intro v
    rw [f_Mem_readNumber_L4, if_neg (by decide), show (0 : Int32) + -1 = -1 by decide]
  have se : ∀ v, f_Mem_readNumber_L4 u k 1 v (-1) = v := by
    intro v
    rw [f_Mem_readNumber_L4, if_pos (by decide)]
  rw [s3, s2, s1, s0, se]
  exact pu_bits _ _ _ _
theorem pu_ordnum {u : cd_Mem} {n : Nat} (h : ∀ x, o_Mem_readByte u x) (k : Int32) : o_Mem_readNumber u k := by
  have key : ∀ (g x : Nat) (v : Int32), x < g → o_Mem_readNumber_L4 u k (g + 1) v (nI x) := by
    intro g
    induction g with
    | zero => intro x v h; omega
    | succ g ih =>
      intro x v hx
      unfold o_Mem_readNumber_L4
      refine ⟨fun _ => h _, fun c => ?_⟩
      cases x with
      | zero =>
        rw [show nI 0 + (-1 : Int32) = -1 by decide]
        unfold o_Mem_readNumber_L4
        exact ⟨fun q => absurd (by decide) q, fun q => absurd (by decide) q⟩
      | succ x =>
        have em : nI (x + 1) + (-1 : Int32) = nI x := by
          rw [← nI_1]
          rw [pu_eq]
          simp only [Int32.toInt_add]
          simp [Int.add_assoc]
        rw [em]
        exact ih x _ (by omega)
  exact key 4 3 0 (by omega)
theorem mr_obyte {u : cd_Mem} {v : cd_Mo} {ma ms mf mb mr : Nat → Int32} {o n : Nat} (h : mr_rel u ma ms mf mb mr o n) (a : Int64) : o_Mo_byteOf v ma ms mb mr (nI o) a := by
  obtain ⟨b1, b2⟩ := pu_within (u := v) (mr_rm h) a
  have hn := h.1.1
  have ho := h.2.1
  unfold o_Mo_byteOf
  rcases b2 with ⟨b2, -⟩ | ⟨i, hi, b2, b3⟩
  · rw [b2]
    exact ⟨b1, fun q => absurd rfl q, fun q => absurd rfl q⟩
  · obtain ⟨k1, k2, k3, k4, k5, k6, -⟩ := (mr_rm h).2.2.2 i hi
    rw [b2, nI_clamp (by omega)]
    have b4 := b3.1
    have b5 := b3.2
    dsimp only [rr_rg] at b4 b5 k1 k4 k6
    have ra := pl_rng a
    have es : (a - (ma (6 * o + i)).toInt64).toInt = a.toInt - (ma (6 * o + i)).toInt := by
      rw [pl_sub (by rw [pl_i]; omega) (by rw [pl_i]; omega), pl_i]
    obtain ⟨d, hd⟩ : ∃ d : Nat, a.toInt - (ma (6 * o + i)).toInt = d := ⟨(a.toInt - (ma (6 * o + i)).toInt).toNat, by omega⟩
    have e32 : (a - (ma (6 * o + i)).toInt64).toInt32 = nI d := pu_n (by rw [pl_n (by omega) (by omega)]; omega) (by omega)
    have eix : (1024 : Int32) * nI (6 * o + i) + nI d = nI (1024 * (6 * o + i) + d) := by rw [show (1024 : Int32) = nI 1024 from rfl, pk_mul, nI_add]
    rw [e32, eix]
    exact ⟨b1, fun _ => vp_in_nI (by omega) (by omega), fun _ => vp_in_nI (by omega) (by omega)⟩
theorem mr_onum {u : cd_Mem} {v : cd_Mo} {ma ms mf mb mr : Nat → Int32} {n : Nat} (h : mr_rel u ma ms mf mb mr 1 n) (a : Int64) : o_Mo_number v ma ms mb mr a := ⟨mr_obyte h _, mr_obyte h _, mr_obyte h _, mr_obyte h _⟩
theorem mr_ordb {u : cd_Mem} {ma ms mf mb mr : Nat → Int32} {o n : Nat} (h : mr_rel u ma ms mf mb mr o n) (k : Int32) : o_Mem_readByte u k := (mr_byte (v := (0, 0, 0, 0, 0, 0)) h k k.toInt64 pl_i).1
/-- the reference's number, by the class's bytes -/
theorem mr_num {u : cd_Mem} {v : cd_Mo} {ma ms mf mb mr : Nat → Int32} {n : Nat} (h : mr_rel u ma ms mf mb mr 1 n) (k : Int32) (a : Int64) (hz : a.toInt = k.toInt) (hk : k.toInt + 3 < 2147483648) : f_Mo_number v ma ms mb mr a = pu_w4 (f_Mem_readByte u (k + 0)) (f_Mem_readByte u (k + 1)) (f_Mem_readByte u (k + 2)) (f_Mem_readByte u (k + 3)) := by
  have hr := pu_rng k
  have key : ∀ (i : Int32) (j : Int64), j.toInt = i.toInt → 0 ≤ i.toInt → i.toInt ≤ 3 → f_Mo_byteOf v ma ms mb mr 1 (a + j) = f_Mem_readByte u (k + i) := by
    intro i j e h1 h2
    refine ((mr_byte (v := v) h (k + i) (a + j) ?_).2.2).symm
    rw [pl_add (by omega) (by omega), pu_add (by omega) (by omega), hz, e]
  have k0 : f_Mo_byteOf v ma ms mb mr 1 a = f_Mem_readByte u (k + 0) := by
    refine ((mr_byte (v := v) h (k + 0) a ?_).2.2).symm
    rw [hz, Int32.add_zero]
  unfold f_Mo_number
  rw [k0, key 1 1 (by decide) (by decide) (by decide), key 2 2 (by decide) (by decide) (by decide), key 3 3 (by decide) (by decide) (by decide)]
/-- a byte of a region, read through the memory -/
theorem pu_rdmem {u : cd_Mem} {n : Nat} (h : mm_ok u n) {i d : Nat} (hi : i < n) (hd : (d : Int) < (mm_rg u i).2.1.toInt) : f_Mem_readByte u ((mm_rg u i).1 + nI d) = f_Reg_read (mm_rg u i) (nI d) := by
  have hn := h.1
  have hok := h.2.2.2.2.1 i hi
  obtain ⟨k1, k2, k3, k4, k5, k6, -⟩ := hok
  have e : ((mm_rg u i).1 + nI d).toInt = (mm_rg u i).1.toInt + d := by
    rw [pu_add (by rw [nI_toInt (by omega)]; omega) (by rw [nI_toInt (by omega)]; omega), nI_toInt (by omega)]
  have hin : rg_in (mm_rg u i) ((mm_rg u i).1 + nI d).toInt := by
    unfold rg_in
    rw [e]
    omega
  obtain ⟨-, a2⟩ := pu_index h ((mm_rg u i).1 + nI d)
  rcases a2 with ⟨-, a2⟩ | ⟨j, hj, a2, a3⟩
  · exact absurd hin (a2 i hi)
  · have ej := mm_uniq h hj hi a3 hin
    subst ej
    unfold f_Mem_readByte
    rw [a2, if_neg (pu_m1 (by omega)), nI_clamp (by omega)]
    have e2 : (mm_rg u j).1 + nI d - (u.2.2 (u.2.1 j)).1 = nI d := by
      show (mm_rg u j).1 + nI d - (mm_rg u j).1 = nI d
      rw [pu_eq, pu_sub (by rw [e]; omega) (by rw [e]; omega), e, nI_toInt (by omega)]
      omega
    rw [e2]
theorem pu_numAt {u : cd_Mem} {n : Nat} (h : mm_ok u n) {i d : Nat} (hi : i < n) (hd : (d : Int) + 4 ≤ (mm_rg u i).2.1.toInt) : f_Reg_numberAt (mm_rg u i) (nI d) = pu_w4 (f_Mem_readByte u ((mm_rg u i).1 + nI d + 0)) (f_Mem_readByte u ((mm_rg u i).1 + nI d + 1)) (f_Mem_readByte u ((mm_rg u i).1 + nI d + 2)) (f_Mem_readByte u ((mm_rg u i).1 + nI d + 3)) := by
  have key : ∀ (j : Nat), j < 4 → f_Mem_readByte u ((mm_rg u i).1 + nI d + nI j) = f_Reg_read (mm_rg u i) (nI d + nI j) := by
    intro j hj
    rw [Int32.add_assoc, nI_add]
    exact pu_rdmem h hi (by omega)
  unfold f_Reg_numberAt
  rw [show (0 : Int32) = nI 0 from rfl, show (1 : Int32) = nI 1 from rfl, show (2 : Int32) = nI 2 from rfl, show (3 : Int32) = nI 3 from rfl, key 0 (by omega), key 1 (by omega), key 2 (by omega), key 3 (by omega)]
  rw [show nI d + nI 0 = nI d from nI_add d 0]
theorem mm_read {u : cd_Mem} {i d : Nat} (hd : d + 4 ≤ 1024) : o_Reg_numberAt (mm_rg u i) (nI d) := by
  unfold o_Reg_numberAt
  rw [show (1 : Int32) = nI 1 from rfl, show (2 : Int32) = nI 2 from rfl, show (3 : Int32) = nI 3 from rfl, nI_add, nI_add, nI_add]
  exact ⟨(pu_read (by omega)).2, (pu_read (by omega)).2, (pu_read (by omega)).2, (pu_read (by omega)).2⟩
