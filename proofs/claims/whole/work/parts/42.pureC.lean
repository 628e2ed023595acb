theorem pu_n {x : Int32} {n : Nat} (h : x.toInt = (n : Int)) (hn : n < 2147483648) : x = nI n := by
  rw [pu_eq, nI_toInt (by omega)]
  exact h
/-- one memory, kept twice: the class's regions by addresses, the reference's by the order in which they came -/
def mr_rel (u : cd_Mem) (ma ms mf mb mr : Nat → Int32) (o n : Nat) : Prop := mm_ok u n ∧ o < 3 ∧ mr o = nI n ∧ ∃ si ta : Nat → Nat, (∀ i, i < n → si i < n ∧ ta (si i) = i) ∧ (∀ k, k < n → ta k < n ∧ si (ta k) = k) ∧ ∀ i, i < n → rg_sm (mm_rg u i) (rr_rg ma ms mf mb (6 * o + si i))
theorem mr_rm {u : cd_Mem} {ma ms mf mb mr : Nat → Int32} {o n : Nat} (h : mr_rel u ma ms mf mb mr o n) : rm_ok ma ms mf mb mr o n := by
  obtain ⟨hm, ho, hr, si, ta, h1, h2, h3⟩ := h
  refine ⟨ho, hm.1, hr, fun i hi => ?_⟩
  obtain ⟨t1, t2⟩ := h2 i hi
  have h4 := rg_sm_ok (h3 (ta i) t1) (hm.2.2.2.2.1 (ta i) t1)
  rw [t2] at h4
  exact h4
theorem mm_uniq {u : cd_Mem} {n : Nat} (h : mm_ok u n) {i j : Nat} (hi : i < n) (hj : j < n) {k : Int} (h1 : rg_in (mm_rg u i) k) (h2 : rg_in (mm_rg u j) k) : i = j := by
  have hs := h.2.2.2.2.2.1
  have a1 := h1.1
  have a2 := h1.2
  have b1 := h2.1
  have b2 := h2.2
  rcases Nat.lt_trichotomy i j with c | c | c
  · have := hs i j c hj
    omega
  · exact c
  · have := hs j i c hi
    omega
/-- an address looked up on both sides -/
theorem mr_look {u : cd_Mem} {v : cd_Mo} {ma ms mf mb mr : Nat → Int32} {o n : Nat} (h : mr_rel u ma ms mf mb mr o n) (k : Int32) (a : Int64) (hz : a.toInt = k.toInt) : (o_Mem_indexOf u k ∧ o_Mo_within v ma ms mr (nI o) a) ∧ ((f_Mem_indexOf u k = -1 ∧ f_Mo_within v ma ms mr (nI o) a = -1 ∧ ∀ i, i < n → ¬ rg_in (mm_rg u i) k.toInt) ∨ ∃ i j, i < n ∧ j < n ∧ f_Mem_indexOf u k = nI i ∧ f_Mo_within v ma ms mr (nI o) a = nI (6 * o + j) ∧ rg_in (mm_rg u i) k.toInt ∧ rg_sm (mm_rg u i) (rr_rg ma ms mf mb (6 * o + j))) := by
  obtain ⟨a1, a2⟩ := pu_index h.1 k
  obtain ⟨b1, b2⟩ := pu_within (u := v) (mr_rm h) a
  refine ⟨⟨a1, b1⟩, ?_⟩
  obtain ⟨hm, ho, hr, si, ta, h1, h2, h3⟩ := h
  rw [hz] at b2
  rcases a2 with ⟨e1, n1⟩ | ⟨i, hi, e1, n1⟩
  · rcases b2 with ⟨e2, n2⟩ | ⟨j, hj, e2, n2⟩
    · exact Or.inl ⟨e1, e2, n1⟩
    · exfalso
      obtain ⟨t1, t2⟩ := h2 j hj
      have h4 := h3 (ta j) t1
      rw [t2] at h4
      exact n1 (ta j) t1 ((rg_sm_in h4 _).mpr n2)
  · rcases b2 with ⟨e2, n2⟩ | ⟨j, hj, e2, n2⟩
    · exfalso
      exact n2 (si i) (h1 i hi).1 ((rg_sm_in (h3 i hi) _).mp n1)
    · refine Or.inr ⟨i, j, hi, hj, e1, e2, n1, ?_⟩
      obtain ⟨t1, t2⟩ := h2 j hj
      have h4 := h3 (ta j) t1
      rw [t2] at h4
      have h5 : i = ta j := mm_uniq hm hi t1 n1 ((rg_sm_in h4 _).mpr n2)
      rw [h5]
      exact h4
theorem pu_m1 {n : Nat} (h : n < 2147483648) : ¬ nI n = -1 := by
  rw [pu_eq, nI_toInt (by omega)]
  have : (-1 : Int32).toInt = -1 := by decide
  omega
/-- a region's byte, where the address lies in it -/
theorem pu_off {r : cd_Reg} (ho : rg_ok r) {k : Int32} (h : rg_in r k.toInt) : ∃ d : Nat, d < 1024 ∧ k - r.1 = nI d ∧ k.toInt = r.1.toInt + d := by
  obtain ⟨h1, h2, h3, h4, h5, h6, h7, h8⟩ := ho
  obtain ⟨a1, a2⟩ := h
  have e : (k - r.1).toInt = k.toInt - r.1.toInt := pu_sub (by omega) (by omega)
  refine ⟨(k.toInt - r.1.toInt).toNat, by omega, pu_n (by omega) (by omega), by omega⟩
theorem pu_read {r : cd_Reg} {d : Nat} (hd : d < 1024) : f_Reg_read r (nI d) = (r.2.2.2 d &&& 255) ∧ o_Reg_read r (nI d) := by
  unfold f_Reg_read o_Reg_read
  have c1 : ¬ nI d < 0 := nI_pos (by omega)
  have c2 : nI d < (1024 : Int32) := (nI_ltI (a := d) (b := 1024) (by omega) (by omega)).mpr hd
  rw [if_neg c1, if_pos c2, nI_clamp (by omega)]
  exact ⟨rfl, fun _ _ => vp_in_nI hd (by omega)⟩
/-- a byte read on both sides -/
theorem mr_byte {u : cd_Mem} {v : cd_Mo} {ma ms mf mb mr : Nat → Int32} {o n : Nat} (h : mr_rel u ma ms mf mb mr o n) (k : Int32) (a : Int64) (hz : a.toInt = k.toInt) : o_Mem_readByte u k ∧ o_Mo_byteOf v ma ms mb mr (nI o) a ∧ f_Mem_readByte u k = f_Mo_byteOf v ma ms mb mr (nI o) a := by
  obtain ⟨⟨o1, o2⟩, hl⟩ := mr_look (v := v) h k a hz
  unfold o_Mem_readByte o_Mo_byteOf f_Mem_readByte f_Mo_byteOf
  rcases hl with ⟨e1, e2, -⟩ | ⟨i, j, hi, hj, e1, e2, hin, hsm⟩
  · rw [e1, e2, if_pos rfl, if_pos rfl]
    exact ⟨⟨o1, fun z => absurd rfl z, fun z => absurd rfl z, fun z => absurd rfl z⟩, ⟨o2, fun z => absurd rfl z, fun z => absurd rfl z⟩, rfl⟩
  · have hn := h.1.1
    have ho := h.2.1
    have hok := h.1.2.2.2.2.1 i hi
    obtain ⟨d, hd, ed, ez⟩ := pu_off hok hin
    have hrd := pu_read (r := mm_rg u i) hd
    have ci : (nI i).toNatClampNeg = i := nI_clamp (by omega)
    have cj : (nI (6 * o + j)).toNatClampNeg = 6 * o + j := nI_clamp (by omega)
    rw [e1, e2, if_neg (pu_m1 (by omega)), if_neg (pu_m1 (by omega)), ci, cj]
    have ek : k - (u.2.2 (u.2.1 i)).1 = nI d := ed
    have eaddr : (ma (6 * o + j)).toInt = (mm_rg u i).1.toInt := by rw [hsm.1]
    have es : (a - (ma (6 * o + j)).toInt64).toInt = (d : Int) := by
      have hr := pu_rng k
      have hr2 := pu_rng (ma (6 * o + j))
      rw [pl_sub (by rw [pl_i]; omega) (by rw [pl_i]; omega), pl_i, hz, ez, eaddr]
      omega
    have e32 : (a - (ma (6 * o + j)).toInt64).toInt32 = nI d := pu_n (by rw [pl_n (by omega) (by omega)]; exact es) (by omega)
    have eix : (1024 : Int32) * nI (6 * o + j) + nI d = nI (1024 * (6 * o + j) + d) := by rw [show (1024 : Int32) = nI 1024 from rfl, pk_mul, nI_add]
    rw [ek, e32, eix, nI_clamp (by omega)]
    refine ⟨⟨o1, fun _ => vp_in_nI (by omega) (by omega), fun _ => vp_in_nI (by omega) (by omega), fun _ => hrd.2⟩, ⟨o2, fun _ => vp_in_nI (by omega) (by omega), fun _ => vp_in_nI (by omega) (by omega)⟩, ?_⟩
    rw [hrd.1, hsm.2.2.2 d hd]
theorem mr_flag {u : cd_Mem} {v : cd_Mo} {ma ms mf mb mr : Nat → Int32} {n : Nat} (h : mr_rel u ma ms mf mb mr 1 n) (k : Int32) : o_Mem_flagsAt u k ∧ o_Mo_flags v ma ms mf mr k ∧ f_Mem_flagsAt u k = (f_Mo_flags v ma ms mf mr k).1 := by
  obtain ⟨⟨o1, o2⟩, hl⟩ := mr_look (v := ((0 : Int32), v.2.1, v.2.2.1, v.2.2.2.1, v.2.2.2.2.1, v.2.2.2.2.2)) h k k.toInt64 pl_i
  rw [show nI 1 = (1 : Int32) from rfl] at o2 hl
  unfold o_Mem_flagsAt o_Mo_flags f_Mem_flagsAt f_Mo_flags
  rcases hl with ⟨e1, e2, -⟩ | ⟨i, j, hi, hj, e1, e2, hin, hsm⟩
  · rw [e1, e2, if_pos rfl, if_pos rfl]
    exact ⟨⟨o1, fun z => absurd rfl z⟩, ⟨o2, fun z => absurd rfl z⟩, rfl⟩
  · have hn := h.1.1
    have ci : (nI i).toNatClampNeg = i := nI_clamp (by omega)
    have cj : (nI (6 * 1 + j)).toNatClampNeg = 6 * 1 + j := nI_clamp (by omega)
    rw [e1, e2, if_neg (pu_m1 (by omega)), if_neg (pu_m1 (by omega)), ci, cj]
    exact ⟨⟨o1, fun _ => vp_in_nI (by omega) (by omega)⟩, ⟨o2, fun _ => vp_in_nI (by omega) (by omega)⟩, hsm.2.2.1⟩
