theorem mr_keep {u : cd_Mem} {ma ms mf mb mr ma' ms' mf' mb' mr' : Nat → Int32} {o n : Nat} (h : mr_rel u ma ms mf mb mr o n) (hk : ∀ k, 6 * o ≤ k → k < 6 * o + 6 → ma' k = ma k ∧ ms' k = ms k ∧ mf' k = mf k) (hb : ∀ x, 6144 * o ≤ x → x < 6144 * o + 6144 → mb' x = mb x) (hr : mr' o = mr o) : mr_rel u ma' ms' mf' mb' mr' o n := by
  obtain ⟨hm, ho, hr0, si, ta, h1, h2, h3⟩ := h
  refine ⟨hm, ho, hr.trans hr0, si, ta, h1, h2, fun i hi => ?_⟩
  obtain ⟨a1, a2, a3, a4⟩ := h3 i hi
  have hn := hm.1
  have hs := (h1 i hi).1
  obtain ⟨b1, b2, b3⟩ := hk (6 * o + si i) (by omega) (by omega)
  refine ⟨a1.trans b1.symm, a2.trans b2.symm, a3.trans b3.symm, fun j hj => (a4 j hj).trans ?_⟩
  exact (hb (1024 * (6 * o + si i) + j) (by omega) (by omega)).symm
theorem mr_si {u : cd_Mem} {ma ms mf mb : Nat → Int32} {o n : Nat} (hm : mm_ok u n) {si ta : Nat → Nat} (h2 : ∀ k, k < n → ta k < n ∧ si (ta k) = k) (h3 : ∀ i, i < n → rg_sm (mm_rg u i) (rr_rg ma ms mf mb (6 * o + si i))) {i j : Nat} (hi : i < n) (hj : j < n) (hsm : rg_sm (mm_rg u i) (rr_rg ma ms mf mb (6 * o + j))) : si i = j := by
  obtain ⟨t1, t2⟩ := h2 j hj
  have h4 := h3 (ta j) t1
  rw [t2] at h4
  have hok := hm.2.2.2.2.1 i hi
  have hok2 := hm.2.2.2.2.1 (ta j) t1
  have e : (mm_rg u (ta j)).1 = (mm_rg u i).1 := h4.1.trans hsm.1.symm
  have h5 : i = ta j := mm_uniq hm hi t1 (k := (mm_rg u i).1.toInt) ⟨Int.le_refl _, by have := hok.2.2.1; omega⟩ ⟨by rw [e]; exact Int.le_refl _, by rw [e]; have := hok2.2.2.1; omega⟩
  rw [h5]
  exact t2
theorem pu_upd {f : Nat → Int32} {k j : Nat} {x : Int32} : upd f k x j = if j = k then x else f j := rfl
/-- a byte written on both sides -/
theorem mr_put {u : cd_Mem} {ma ms mf mb mr : Nat → Int32} {o n : Nat} (h : mr_rel u ma ms mf mb mr o n) {i j : Nat} (hi : i < n) (hj : j < n) (hsm : rg_sm (mm_rg u i) (rr_rg ma ms mf mb (6 * o + j))) {d : Nat} (hd : d < 1024) {b : Int32} (hb : fits .byte (.int b) = true) : mr_rel (u.1, u.2.1, va_up u.2.2 (u.2.1 i) ((mm_rg u i).1, (mm_rg u i).2.1, (mm_rg u i).2.2.1, upd (mm_rg u i).2.2.2 d b)) ma ms mf (upd mb (1024 * (6 * o + j) + d) b) mr o n := by
  obtain ⟨hm, ho, hr0, si, ta, h1, h2, h3⟩ := h
  have hsi := mr_si hm h2 h3 hi hj hsm
  obtain ⟨m1, m2, m3, m4, m5, m6, m7⟩ := hm
  have key : ∀ i', i' < n → mm_rg (u.1, u.2.1, va_up u.2.2 (u.2.1 i) ((mm_rg u i).1, (mm_rg u i).2.1, (mm_rg u i).2.2.1, upd (mm_rg u i).2.2.2 d b)) i' = if i' = i then ((mm_rg u i).1, (mm_rg u i).2.1, (mm_rg u i).2.2.1, upd (mm_rg u i).2.2.2 d b) else mm_rg u i' := by
    intro i' hi'
    by_cases e : i' = i
    · rw [if_pos e, e]
      exact cd_up_s
    · rw [if_neg e]
      exact cd_up_n _ (fun z => e (m4 i' i (by omega) (by omega) z))
  have key1 : ∀ i', i' < n → (mm_rg (u.1, u.2.1, va_up u.2.2 (u.2.1 i) ((mm_rg u i).1, (mm_rg u i).2.1, (mm_rg u i).2.2.1, upd (mm_rg u i).2.2.2 d b)) i').1 = (mm_rg u i').1 ∧ (mm_rg (u.1, u.2.1, va_up u.2.2 (u.2.1 i) ((mm_rg u i).1, (mm_rg u i).2.1, (mm_rg u i).2.2.1, upd (mm_rg u i).2.2.2 d b)) i').2.1 = (mm_rg u i').2.1 ∧ (mm_rg (u.1, u.2.1, va_up u.2.2 (u.2.1 i) ((mm_rg u i).1, (mm_rg u i).2.1, (mm_rg u i).2.2.1, upd (mm_rg u i).2.2.2 d b)) i').2.2.1 = (mm_rg u i').2.2.1 := by
    intro i' hi'
    rw [key i' hi']
    by_cases e : i' = i
    · rw [if_pos e, e]
      exact ⟨rfl, rfl, rfl⟩
    · rw [if_neg e]
      exact ⟨rfl, rfl, rfl⟩
  refine ⟨⟨m1, m2, m3, m4, fun i' hi' => ?_, fun i1 i2 c1 c2 => ?_, fun r hr => ?_⟩, ho, hr0, si, ta, h1, h2, fun i' hi' => ?_⟩
  · obtain ⟨k1, k2, k3⟩ := key1 i' hi'
    unfold rg_ok
    rw [k1, k2, k3]
    exact m5 i' hi'
  · rw [(key1 i1 (by omega)).1, (key1 i1 (by omega)).2.1, (key1 i2 c2).1]
    exact m6 i1 i2 c1 c2
  · by_cases e : r = u.2.1 i
    · show sb_Fit (va_up u.2.2 (u.2.1 i) _ r).2.2.2
      rw [e, cd_up_s]
      exact sb_fitU (m7 _ (m3 i (by omega))) hb
    · show sb_Fit (va_up u.2.2 (u.2.1 i) _ r).2.2.2
      rw [cd_up_n r e]
      exact m7 r hr
  · rw [key i' hi']
    obtain ⟨a1, a2, a3, a4⟩ := h3 i' hi'
    have hs := (h1 i' hi').1
    by_cases e : i' = i
    · rw [if_pos e]
      subst e
      refine ⟨a1, a2, a3, fun x hx => ?_⟩
      show upd (mm_rg u i').2.2.2 d b x = upd mb (1024 * (6 * o + j) + d) b (1024 * (6 * o + si i') + x)
      rw [pu_upd, pu_upd, hsi]
      by_cases c : x = d
      · rw [if_pos c, if_pos (by omega)]
      · rw [if_neg c, if_neg (by omega), ← hsi]
        exact a4 x hx
    · rw [if_neg e]
      refine ⟨a1, a2, a3, fun x hx => ?_⟩
      show (mm_rg u i').2.2.2 x = upd mb (1024 * (6 * o + j) + d) b (1024 * (6 * o + si i') + x)
      have hne : si i' ≠ j := fun z => e (by
        have t1 := (h1 i' hi').2
        have t2 := (h1 i hi).2
        rw [z] at t1
        rw [hsi] at t2
        omega)
      rw [pu_upd, if_neg (by omega)]
      exact a4 x hx
theorem pu_wr {r : cd_Reg} {d : Nat} (hd : d < 1024) (v : Int32) : f_Reg_write r (nI d) v = (r.1, r.2.1, r.2.2.1, upd r.2.2.2 d (vp_nar .byte v.toInt8.toInt32)) ∧ o_Reg_write r (nI d) v := by
  unfold f_Reg_write o_Reg_write
  have c1 : ¬ nI d < 0 := nI_pos (by omega)
  have c2 : ¬ (1024 : Int32) ≤ nI d := nI_ge (a := d) (b := 1024) hd (by omega)
  rw [if_neg c1, if_neg c2, nI_clamp (by omega)]
  exact ⟨rfl, fun _ _ => vp_in_nI hd (by omega)⟩
theorem pu_fb (v : Int32) : fits .byte (.int (vp_nar .byte v.toInt8.toInt32)) = true := by
  rw [vp_nar_byte]
  exact pk_fb _
theorem pu_addsub (x k a : Int32) : x + k - a = x + (k - a) := by
  rw [pu_eq]
  simp only [Int32.toInt_sub, Int32.toInt_add]
  simp [Int.sub_eq_add_neg, Int.add_assoc]
abbrev mo_z (u : cd_Mo) : cd_Mo := ((0 : Int32), u.2.1, u.2.2.1, u.2.2.2.1, u.2.2.2.2.1, u.2.2.2.2.2)
/-- poke on both sides -/
theorem e_poke (u : cd_Has) {um : cd_Mem} {S : cd_Mo × cd_By} {ma ms mf mr : Nat → Int32} {n : Nat} (h : mr_rel um ma ms mf S.2 mr 0 n) (k v : Int32) : o_Desk_poke u um k v ∧ o_Mo_poke S ma ms mr k v ∧ (f_Desk_poke u um k v).1 = (f_Mo_poke S ma ms mr k v).1 ∧ mr_rel (f_Desk_poke u um k v).2 ma ms mf (f_Mo_poke S ma ms mr k v).2.2 mr 0 n ∧ (∀ x, 6144 ≤ x → (f_Mo_poke S ma ms mr k v).2.2 x = S.2 x) ∧ (f_Mo_poke S ma ms mr k v).2.1 = mo_z S.1 := by
  obtain ⟨⟨o1, o2⟩, hl⟩ := mr_look (v := mo_z S.1) h k k.toInt64 pl_i
  rw [show nI 0 = (0 : Int32) from rfl] at o2 hl
  have hn := h.1.1
  unfold o_Desk_poke o_Mo_poke f_Desk_poke f_Mo_poke o_Mem_writeByte f_Mem_writeByte
  rcases hl with ⟨e1, e2, -⟩ | ⟨i, j, hi, hj, e1, e2, hin, hsm⟩
  · rw [e1]
    dsimp only [mo_z] at e2 o2
    rw [e2, if_pos rfl, if_pos rfl]
    exact ⟨⟨o1, fun z => absurd rfl z, fun z => absurd rfl z, fun z => absurd rfl z⟩, ⟨o2, fun z => absurd rfl z, fun z => absurd rfl z⟩, rfl, h, fun _ _ => rfl, rfl⟩
  · have hok := h.1.2.2.2.2.1 i hi
    obtain ⟨d, hd, ed, ez⟩ := pu_off hok hin
    have hw := pu_wr (r := mm_rg um i) hd v
    have ci : (nI i).toNatClampNeg = i := nI_clamp (by omega)
    have cj : (nI (6 * 0 + j)).toNatClampNeg = 6 * 0 + j := nI_clamp (by omega)
    dsimp only [mo_z] at e2 o2
    rw [e1, e2, if_neg (pu_m1 (by omega)), if_neg (pu_m1 (by omega)), ci, cj]
    have ek : k - (um.2.2 (um.2.1 i)).1 = nI d := ed
    have eaddr : ma (6 * 0 + j) = (mm_rg um i).1 := hsm.1.symm
    have eix : (1024 : Int32) * nI (6 * 0 + j) + k - ma (6 * 0 + j) = nI (1024 * (6 * 0 + j) + d) := by
      rw [pu_addsub, eaddr, ed, show (1024 : Int32) = nI 1024 from rfl, pk_mul, nI_add]
    rw [ek, eix, nI_clamp (by omega)]
    have hp := mr_put h hi hj hsm hd (pu_fb v)
    refine ⟨⟨o1, fun _ => vp_in_nI (by omega) (by omega), fun _ => vp_in_nI (by omega) (by omega), fun _ => hw.2⟩, ⟨o2, fun _ => vp_in_nI (by omega) (by omega), fun _ => vp_in_nI (by omega) (by omega)⟩, rfl, ?_, fun x hx => ?_, rfl⟩
    · show mr_rel (um.1, um.2.1, va_up um.2.2 (um.2.1 i) (f_Reg_write (mm_rg um i) (nI d) v)) ma ms mf _ mr 0 n
      rw [hw.1]
      exact hp
    · show upd S.2 (1024 * (6 * 0 + j) + d) _ x = S.2 x
      rw [pu_upd, if_neg (by omega)]
