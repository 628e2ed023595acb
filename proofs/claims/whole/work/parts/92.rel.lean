/-- the class's state and the reference's tell the same -/
def lw_R (has : cd_Has) (um : cd_Mem) (ut : cd_Tt) (uf up : cd_Row) (uc : cd_Tc) (vm : cd_Mem) (vt : cd_Tt) (v : cd_Mo) (ma ms mf mb mr mt mi mg ml mp : Nat → Int32) : Prop := ∃ n t n' t' L, mr_rel um ma ms mf mb mr 0 n ∧ tt_rel ut mt mi mg 0 t ∧ tt_z ut t ∧ fl_rel uf v.2.1 ml ∧ rw_rel up 8192 v.2.2.1 mp L ∧ uc.1 = v.2.2.2.2.1 ∧ uc.2 = v.2.2.2.2.2 ∧ mr_rel vm ma ms mf mb mr 1 n' ∧ tt_rel vt mt mi mg 1 t' ∧ has = v.2.2.2.1
theorem e_peek (u : cd_Has) {vm : cd_Mem} {v : cd_Mo} {ma ms mf mb mr : Nat → Int32} {n : Nat} (h : mr_rel vm ma ms mf mb mr 1 n) (k : Int32) : o_Desk_peek u vm k ∧ o_Mo_peek v ma ms mb mr k ∧ f_Desk_peek u vm k = (f_Mo_peek v ma ms mb mr k).1 ∧ (f_Mo_peek v ma ms mb mr k).2 = mo_z v := by
  obtain ⟨a1, a2, a3⟩ := mr_byte (v := mo_z v) h k k.toInt64 pl_i
  exact ⟨a1, a2, a3, rfl⟩
theorem e_flags (u : cd_Has) {vm : cd_Mem} {v : cd_Mo} {ma ms mf mb mr : Nat → Int32} {n : Nat} (h : mr_rel vm ma ms mf mb mr 1 n) (k : Int32) : o_Desk_flags u vm k ∧ o_Mo_flags v ma ms mf mr k ∧ f_Desk_flags u vm k = (f_Mo_flags v ma ms mf mr k).1 ∧ (f_Mo_flags v ma ms mf mr k).2 = mo_z v := by
  obtain ⟨a1, a2, a3⟩ := mr_flag (v := v) h k
  refine ⟨a1, a2, a3, ?_⟩
  unfold f_Mo_flags
  split <;> rfl
/-- register on both sides: both answer the same, or neither answers -/
theorem e_register {vt : cd_Tt} {v : cd_Mo} {mt mi mg : Nat → Int32} {n : Nat} (h : tt_rel vt mt mi mg 1 n) (k x : Int32) : o_Mo_register v mt mi mg k x ∧ ((f_Tt_has vt k = 1 ∧ (x = 8 ∨ (¬ x < 0 ∧ ¬ (8 : Int32) ≤ x)) ∧ o_Tt_id vt k ∧ (¬ x = 8 → o_Tt_read vt k x) ∧ f_Mo_register v mt mi mg k x = ((if x = 8 then f_Tt_id vt k else f_Tt_read vt k x), mo_z v)) ∨ ((f_Tt_has vt k = 0 ∨ (¬ x = 8 ∧ (x < 0 ∨ (8 : Int32) ≤ x))) ∧ f_Mo_register v mt mi mg k x = (0, (1, v.2.1, v.2.2.1, v.2.2.2.1, v.2.2.2.2.1, v.2.2.2.2.2)))) := by
  obtain ⟨hn, -, hc, hm, h1, h2⟩ := h
  have c1 : (1 : Int32).toNatClampNeg = 1 := rfl
  unfold o_Mo_register f_Mo_register
  rw [c1, hm]
  rcases pu_case k with hk | ⟨i, hi, rfl⟩
  · rw [if_pos hk]
    refine ⟨⟨fun q => absurd hk q, fun q => absurd hk q, fun q => absurd hk q⟩, Or.inr ⟨Or.inl ?_, rfl⟩⟩
    unfold f_Tt_has
    rw [if_pos hk]
  · have k0 : ¬ nI i < 0 := nI_pos (by omega)
    rw [if_neg k0]
    by_cases c : n ≤ i
    · have d : nI n ≤ nI i := (nI_leI (by omega) (by omega)).mpr c
      rw [if_pos d]
      refine ⟨⟨fun _ => pu_v1, fun _ q => absurd d q, fun _ q => absurd d q⟩, Or.inr ⟨Or.inl ?_, rfl⟩⟩
      unfold f_Tt_has
      rw [if_neg k0, hc, if_pos d]
    · have d : ¬ nI n ≤ nI i := fun z => c ((nI_leI (by omega) (by omega)).mp z)
      have hhas : f_Tt_has vt (nI i) = 1 := by
        unfold f_Tt_has
        rw [if_neg k0, hc, if_neg d]
      have e3 : (3 : Int32) + nI i = nI (3 + i) := by rw [show (3 : Int32) = nI 3 from rfl, nI_add]
      have hid : o_Tt_id vt (nI i) ∧ f_Tt_id vt (nI i) = mi (3 + i) := by
        unfold o_Tt_id f_Tt_id
        rw [hhas, if_neg (by decide), nI_clamp (by omega)]
        exact ⟨fun _ => vp_in_nI (by omega) (by omega), h1 i (by omega)⟩
      rw [if_neg d, e3, nI_clamp (n := 3 + i) (by omega)]
      rcases pu_case x with hx | ⟨r, hr, rfl⟩
      · have x8 : ¬ x = 8 := fun q => by rw [q] at hx; exact absurd hx (by decide)
        rw [if_pos hx]
        exact ⟨⟨fun _ => pu_v1, fun _ _ q => absurd hx q, fun _ _ q => absurd hx q⟩, Or.inr ⟨Or.inr ⟨x8, Or.inl hx⟩, rfl⟩⟩
      · have x0 : ¬ nI r < 0 := nI_pos (by omega)
        rw [if_neg x0]
        by_cases c2 : r ≤ 8
        · have d2 : nI r ≤ (8 : Int32) := (nI_leI (b := 8) (by omega) (by omega)).mpr c2
          rw [if_pos d2]
          by_cases c3 : r = 8
          · have d3 : nI r = (8 : Int32) := by rw [c3]; rfl
            rw [if_pos d3, if_pos d3]
            exact ⟨⟨fun _ => pu_v1, fun _ _ _ _ q => absurd d3 q, fun _ _ _ _ _ => vp_in_nI (by omega) (by omega)⟩, Or.inl ⟨hhas, Or.inl d3, hid.1, fun q => absurd d3 q, by rw [hid.2]⟩⟩
          · have d3 : ¬ nI r = (8 : Int32) := fun q => c3 ((nI_eq (b := 8) (by omega) (by omega)).mp q)
            have d4 : ¬ (8 : Int32) ≤ nI r := fun q => by have := (nI_leI (a := 8) (by omega) (by omega)).mp q; omega
            have e8 : (8 : Int32) * nI (3 + i) + nI r = nI (8 * (3 + i) + r) := by rw [show (8 : Int32) = nI 8 from rfl, pk_mul, nI_add]
            have e9 : nI i * (8 : Int32) + nI r = nI (8 * i + r) := by rw [show (8 : Int32) = nI 8 from rfl, pk_mul, nI_add, Nat.mul_comm]
            have hv : f_Tt_hasValue vt (nI i) (nI r) = 1 := by
              unfold f_Tt_hasValue
              rw [hhas, if_neg (by decide), if_neg x0, if_neg d4]
            have hrd : o_Tt_read vt (nI i) (nI r) ∧ f_Tt_read vt (nI i) (nI r) = mg (8 * (3 + i) + r) := by
              unfold o_Tt_read f_Tt_read
              rw [hv, if_neg (by decide), e9, nI_clamp (by omega)]
              exact ⟨fun _ => vp_in_nI (by omega) (by omega), h2 i (by omega) r (by omega)⟩
            rw [if_neg d3, if_neg d3, e8, nI_clamp (by omega)]
            exact ⟨⟨fun _ => pu_v1, fun _ _ _ _ _ => vp_in_nI (by omega) (by omega), fun _ _ _ _ q => absurd q d3⟩, Or.inl ⟨hhas, Or.inr ⟨x0, d4⟩, hid.1, fun _ => hrd.1, by rw [hrd.2]⟩⟩
        · have d2 : ¬ nI r ≤ (8 : Int32) := fun q => c2 ((nI_leI (b := 8) (by omega) (by omega)).mp q)
          have d3 : ¬ nI r = (8 : Int32) := fun q => by have := (nI_eq (b := 8) (by omega) (by omega)).mp q; omega
          rw [if_neg d2]
          exact ⟨⟨fun _ => pu_v1, fun _ _ _ q => absurd q d2, fun _ _ _ q => absurd q d2⟩, Or.inr ⟨Or.inr ⟨d3, Or.inr ((nI_leI (a := 8) (by omega) (by omega)).mpr (by omega))⟩, rfl⟩⟩
section
variable {has : cd_Has} {um : cd_Mem} {ut : cd_Tt} {uf up : cd_Row} {uc : cd_Tc} {vm : cd_Mem} {vt : cd_Tt} {v : cd_Mo} {ma ms mf mb mr mt mi mg ml mp : Nat → Int32}
theorem lr_map (h : lw_R has um ut uf up uc vm vt v ma ms mf mb mr mt mi mg ml mp) (k x y : Int32) : o_Desk_map has um k x y ∧ o_Mo_map (v, ma, ms, mf, mb, mr) k x y ∧ (f_Desk_map has um k x y).1 = (f_Mo_map (v, ma, ms, mf, mb, mr) k x y).1 ∧ lw_R has (f_Desk_map has um k x y).2 ut uf up uc vm vt (f_Mo_map (v, ma, ms, mf, mb, mr) k x y).2.1 (f_Mo_map (v, ma, ms, mf, mb, mr) k x y).2.2.1 (f_Mo_map (v, ma, ms, mf, mb, mr) k x y).2.2.2.1 (f_Mo_map (v, ma, ms, mf, mb, mr) k x y).2.2.2.2.1 (f_Mo_map (v, ma, ms, mf, mb, mr) k x y).2.2.2.2.2.1 (f_Mo_map (v, ma, ms, mf, mb, mr) k x y).2.2.2.2.2.2 mt mi mg ml mp := by
  obtain ⟨n, t, n', t', L, r1, r2, r3, r4, r5, r6, r7, r8, r9, r10⟩ := h
  obtain ⟨a1, a2, a3, w, ma', ms', mf', mb', mr', k', a4, a5, a6, a7, a8, a9⟩ := e_map has (um := um) (S := (v, ma, ms, mf, mb, mr)) r1 k x y
  refine ⟨a1, a2, a3, ?_⟩
  rw [a4, ← a5]
  exact ⟨k', t, n', t', L, a6, r2, r3, r4, r5, r6, r7, mr_keep r8 (fun i h1 _ => a7 i (by omega)) (fun i h1 _ => a8 i (by omega)) (a9 1 (by omega)), r9, r10⟩
theorem lr_unmap (h : lw_R has um ut uf up uc vm vt v ma ms mf mb mr mt mi mg ml mp) (k : Int32) : o_Desk_unmap has um k ∧ o_Mo_unmap (v, ma, ms, mf, mb, mr) k ∧ (f_Desk_unmap has um k).1 = (f_Mo_unmap (v, ma, ms, mf, mb, mr) k).1 ∧ lw_R has (f_Desk_unmap has um k).2 ut uf up uc vm vt (f_Mo_unmap (v, ma, ms, mf, mb, mr) k).2.1 (f_Mo_unmap (v, ma, ms, mf, mb, mr) k).2.2.1 (f_Mo_unmap (v, ma, ms, mf, mb, mr) k).2.2.2.1 (f_Mo_unmap (v, ma, ms, mf, mb, mr) k).2.2.2.2.1 (f_Mo_unmap (v, ma, ms, mf, mb, mr) k).2.2.2.2.2.1 (f_Mo_unmap (v, ma, ms, mf, mb, mr) k).2.2.2.2.2.2 mt mi mg ml mp := by
  obtain ⟨n, t, n', t', L, r1, r2, r3, r4, r5, r6, r7, r8, r9, r10⟩ := h
  obtain ⟨a1, a2, a3, w, ma', ms', mf', mb', mr', k', a4, a5, a6, a7, a8, a9⟩ := e_unmap has (um := um) (S := (v, ma, ms, mf, mb, mr)) r1 k
  refine ⟨a1, a2, a3, ?_⟩
  rw [a4, ← a5]
  exact ⟨k', t, n', t', L, a6, r2, r3, r4, r5, r6, r7, mr_keep r8 (fun i h1 _ => a7 i (by omega)) (fun i h1 _ => a8 i (by omega)) (a9 1 (by omega)), r9, r10⟩
theorem lr_poke (h : lw_R has um ut uf up uc vm vt v ma ms mf mb mr mt mi mg ml mp) (k x : Int32) : o_Desk_poke has um k x ∧ o_Mo_poke (v, mb) ma ms mr k x ∧ (f_Desk_poke has um k x).1 = (f_Mo_poke (v, mb) ma ms mr k x).1 ∧ lw_R has (f_Desk_poke has um k x).2 ut uf up uc vm vt (f_Mo_poke (v, mb) ma ms mr k x).2.1 ma ms mf (f_Mo_poke (v, mb) ma ms mr k x).2.2 mr mt mi mg ml mp := by
  obtain ⟨n, t, n', t', L, r1, r2, r3, r4, r5, r6, r7, r8, r9, r10⟩ := h
  obtain ⟨a1, a2, a3, a4, a5, a6⟩ := e_poke has (um := um) (S := (v, mb)) r1 k x
  refine ⟨a1, a2, a3, ?_⟩
  rw [a6]
  exact ⟨n, t, n', t', L, a4, r2, r3, r4, r5, r6, r7, mr_keep r8 (fun i _ _ => ⟨rfl, rfl, rfl⟩) (fun i h1 _ => a5 i (by omega)) rfl, r9, r10⟩
theorem lr_pokeFour (h : lw_R has um ut uf up uc vm vt v ma ms mf mb mr mt mi mg ml mp) (k x : Int32) : o_Desk_pokeFour has um k x ∧ o_Mo_pokeFour (v, mb) ma ms mr k x ∧ (f_Desk_pokeFour has um k x).1 = (f_Mo_pokeFour (v, mb) ma ms mr k x).1 ∧ lw_R has (f_Desk_pokeFour has um k x).2 ut uf up uc vm vt (f_Mo_pokeFour (v, mb) ma ms mr k x).2.1 ma ms mf (f_Mo_pokeFour (v, mb) ma ms mr k x).2.2 mr mt mi mg ml mp := by
  obtain ⟨n, t, n', t', L, r1, r2, r3, r4, r5, r6, r7, r8, r9, r10⟩ := h
  obtain ⟨a1, a2, a3, a4, a5, a6⟩ := e_pokeFour has (um := um) (S := (v, mb)) r1 k x
  refine ⟨a1, a2, a3, ?_⟩
  rw [a6]
  exact ⟨n, t, n', t', L, a4, r2, r3, r4, r5, r6, r7, mr_keep r8 (fun i _ _ => ⟨rfl, rfl, rfl⟩) (fun i h1 _ => a5 i (by omega)) rfl, r9, r10⟩
theorem lr_thread (h : lw_R has um ut uf up uc vm vt v ma ms mf mb mr mt mi mg ml mp) (k : Int32) : o_Desk_thread has ut k ∧ o_Mo_thread (v, mt, mi, mg) k ∧ (f_Desk_thread has ut k).1 = (f_Mo_thread (v, mt, mi, mg) k).1 ∧ lw_R has um (f_Desk_thread has ut k).2 uf up uc vm vt (f_Mo_thread (v, mt, mi, mg) k).2.1 ma ms mf mb mr (f_Mo_thread (v, mt, mi, mg) k).2.2.1 (f_Mo_thread (v, mt, mi, mg) k).2.2.2.1 (f_Mo_thread (v, mt, mi, mg) k).2.2.2.2 ml mp := by
  obtain ⟨n, t, n', t', L, r1, r2, r3, r4, r5, r6, r7, r8, r9, r10⟩ := h
  obtain ⟨a1, a2, a3, ⟨k', a4, a5⟩, a6, a7, a8, a9⟩ := e_thread has (ut := ut) (S := (v, mt, mi, mg)) r2 r3 k
  refine ⟨a1, a2, a3, ?_⟩
  rw [a9]
  exact ⟨n, k', n', t', L, r1, a4, a5, r4, r5, r6, r7, r8, tt_keep r9 (a6 1 (by omega)) (fun x h1 _ => a7 x (by omega)) (fun x h1 _ => a8 x (by omega)), r10⟩
theorem lr_set (h : lw_R has um ut uf up uc vm vt v ma ms mf mb mr mt mi mg ml mp) (k x y : Int32) : o_Desk_set has ut k x y ∧ o_Mo_set (v, mg) mt k x y ∧ (f_Desk_set has ut k x y).1 = (f_Mo_set (v, mg) mt k x y).1 ∧ lw_R has um (f_Desk_set has ut k x y).2 uf up uc vm vt (f_Mo_set (v, mg) mt k x y).2.1 ma ms mf mb mr mt mi (f_Mo_set (v, mg) mt k x y).2.2 ml mp := by
  obtain ⟨n, t, n', t', L, r1, r2, r3, r4, r5, r6, r7, r8, r9, r10⟩ := h
  obtain ⟨a1, a2, a3, a4, a5, a6, a7⟩ := e_set has (ut := ut) (S := (v, mg)) (mt := mt) (mi := mi) r2 r3 k x y
  refine ⟨a1, a2, a3, ?_⟩
  rw [a7]
  exact ⟨n, t, n', t', L, r1, a4, a5, r4, r5, r6, r7, r8, tt_keep r9 rfl (fun x _ _ => rfl) (fun x h1 _ => a6 x (by omega)), r10⟩
theorem lr_dump (h : lw_R has um ut uf up uc vm vt v ma ms mf mb mr mt mi mg ml mp) : o_Desk_dump has um ut uf ∧ o_Mo_dump (v, ml) ma ms mf mb mr mt mi mg ∧ (f_Desk_dump has um ut uf).1 = (f_Mo_dump (v, ml) ma ms mf mb mr mt mi mg).1 ∧ lw_R has um ut (f_Desk_dump has um ut uf).2 up uc vm vt (f_Mo_dump (v, ml) ma ms mf mb mr mt mi mg).2.1 ma ms mf mb mr mt mi mg (f_Mo_dump (v, ml) ma ms mf mb mr mt mi mg).2.2 mp := by
  obtain ⟨n, t, n', t', L, r1, r2, r3, r4, r5, r6, r7, r8, r9, r10⟩ := h
  obtain ⟨a1, a2, a3, sz, a4, a5⟩ := e_dump has (um := um) (ut := ut) (uf := uf) (S := (v, ml)) r1 r2 r4
  refine ⟨a1, a2, a3, ?_⟩
  rw [a4]
  exact ⟨n, t, n', t', L, r1, r2, r3, a5, r5, r6, r7, r8, r9, r10⟩
theorem lr_byteAt (h : lw_R has um ut uf up uc vm vt v ma ms mf mb mr mt mi mg ml mp) (k : Int32) : o_Desk_byteAt has uf k ∧ o_Mo_byteAt v ml k ∧ f_Desk_byteAt has uf k = (f_Mo_byteAt v ml k).1 ∧ lw_R has um ut uf up uc vm vt (f_Mo_byteAt v ml k).2 ma ms mf mb mr mt mi mg ml mp := by
  obtain ⟨n, t, n', t', L, r1, r2, r3, r4, r5, r6, r7, r8, r9, r10⟩ := h
  obtain ⟨a1, a2, a3, a4⟩ := e_byteAt has r4 k
  refine ⟨a1, a2, a3, ?_⟩
  rw [a4]
  exact ⟨n, t, n', t', L, r1, r2, r3, r4, r5, r6, r7, r8, r9, r10⟩
theorem lr_copy (h : lw_R has um ut uf up uc vm vt v ma ms mf mb mr mt mi mg ml mp) : o_Desk_copy has uf up ∧ o_Mo_copy (v, mp) ml ∧ (f_Desk_copy has uf up).1 = (f_Mo_copy (v, mp) ml).1 ∧ lw_R has um ut uf (f_Desk_copy has uf up).2 uc vm vt (f_Mo_copy (v, mp) ml).2.1 ma ms mf mb mr mt mi mg ml (f_Mo_copy (v, mp) ml).2.2 := by
  obtain ⟨n, t, n', t', L, r1, r2, r3, r4, r5, r6, r7, r8, r9, r10⟩ := h
  obtain ⟨a1, a2, a3, L', a4, a5⟩ := e_copy has (uf := uf) (up := up) (S := (v, mp)) r4 r5.2.2.2.2
  refine ⟨a1, a2, a3, ?_⟩
  rw [a5]
  exact ⟨n, t, n', t', L', r1, r2, r3, r4, a4, r6, r7, r8, r9, r10⟩
theorem lr_put (h : lw_R has um ut uf up uc vm vt v ma ms mf mb mr mt mi mg ml mp) (k x : Int32) : o_Desk_put has up k x ∧ o_Mo_put (v, mp) k x ∧ (f_Desk_put has up k x).1 = (f_Mo_put (v, mp) k x).1 ∧ lw_R has um ut uf (f_Desk_put has up k x).2 uc vm vt (f_Mo_put (v, mp) k x).2.1 ma ms mf mb mr mt mi mg ml (f_Mo_put (v, mp) k x).2.2 := by
  obtain ⟨n, t, n', t', L, r1, r2, r3, r4, r5, r6, r7, r8, r9, r10⟩ := h
  obtain ⟨a1, a2, a3, L', a4, a5⟩ := e_put has (up := up) (S := (v, mp)) r5 k x
  refine ⟨a1, a2, a3, ?_⟩
  rw [a5]
  exact ⟨n, t, n', t', L', r1, r2, r3, r4, a4, r6, r7, r8, r9, r10⟩
theorem lr_cut (h : lw_R has um ut uf up uc vm vt v ma ms mf mb mr mt mi mg ml mp) (k : Int32) : (f_Desk_cut has up k).1 = (f_Mo_cut v k).1 ∧ lw_R has um ut uf (f_Desk_cut has up k).2 uc vm vt (f_Mo_cut v k).2 ma ms mf mb mr mt mi mg ml mp := by
  obtain ⟨n, t, n', t', L, r1, r2, r3, r4, r5, r6, r7, r8, r9, r10⟩ := h
  obtain ⟨a3, L', a4, a5⟩ := e_cut has r5 k
  refine ⟨a3, ?_⟩
  rw [a5]
  exact ⟨n, t, n', t', L', r1, r2, r3, r4, a4, r6, r7, r8, r9, r10⟩
theorem lr_error (h : lw_R has um ut uf up uc vm vt v ma ms mf mb mr mt mi mg ml mp) (k : Int32) : f_Desk_error has uc k = (f_Mo_error v k).1 ∧ lw_R has um ut uf up uc vm vt (f_Mo_error v k).2 ma ms mf mb mr mt mi mg ml mp := by
  obtain ⟨n, t, n', t', L, r1, r2, r3, r4, r5, r6, r7, r8, r9, r10⟩ := h
  obtain ⟨a3, a5⟩ := e_error has r6 r7 k
  refine ⟨a3, ?_⟩
  rw [a5]
  exact ⟨n, t, n', t', L, r1, r2, r3, r4, r5, r6, r7, r8, r9, r10⟩
theorem lr_core (h : lw_R has um ut uf up uc vm vt v ma ms mf mb mr mt mi mg ml mp) (k : Int32) : o_Mo_core v mr mt k ∧ f_Desk_core has vm vt k = (f_Mo_core v mr mt k).1 ∧ lw_R has um ut uf up uc vm vt (f_Mo_core v mr mt k).2 ma ms mf mb mr mt mi mg ml mp := by
  obtain ⟨n, t, n', t', L, r1, r2, r3, r4, r5, r6, r7, r8, r9, r10⟩ := h
  obtain ⟨a1, a3, a5⟩ := e_core (u := has) r10 r8 r9 k
  refine ⟨a1, a3, ?_⟩
  rw [a5]
  exact ⟨n, t, n', t', L, r1, r2, r3, r4, r5, r6, r7, r8, r9, r10⟩
theorem lr_peek (h : lw_R has um ut uf up uc vm vt v ma ms mf mb mr mt mi mg ml mp) (k : Int32) : o_Desk_peek has vm k ∧ o_Mo_peek v ma ms mb mr k ∧ f_Desk_peek has vm k = (f_Mo_peek v ma ms mb mr k).1 ∧ lw_R has um ut uf up uc vm vt (f_Mo_peek v ma ms mb mr k).2 ma ms mf mb mr mt mi mg ml mp := by
  obtain ⟨n, t, n', t', L, r1, r2, r3, r4, r5, r6, r7, r8, r9, r10⟩ := h
  obtain ⟨a1, a2, a3, a5⟩ := e_peek has (v := v) r8 k
  refine ⟨a1, a2, a3, ?_⟩
  rw [a5]
  exact ⟨n, t, n', t', L, r1, r2, r3, r4, r5, r6, r7, r8, r9, r10⟩
theorem lr_flags (h : lw_R has um ut uf up uc vm vt v ma ms mf mb mr mt mi mg ml mp) (k : Int32) : o_Desk_flags has vm k ∧ o_Mo_flags v ma ms mf mr k ∧ f_Desk_flags has vm k = (f_Mo_flags v ma ms mf mr k).1 ∧ lw_R has um ut uf up uc vm vt (f_Mo_flags v ma ms mf mr k).2 ma ms mf mb mr mt mi mg ml mp := by
  obtain ⟨n, t, n', t', L, r1, r2, r3, r4, r5, r6, r7, r8, r9, r10⟩ := h
  obtain ⟨a1, a2, a3, a5⟩ := e_flags has (v := v) r8 k
  refine ⟨a1, a2, a3, ?_⟩
  rw [a5]
  exact ⟨n, t, n', t', L, r1, r2, r3, r4, r5, r6, r7, r8, r9, r10⟩
theorem lr_find (h : lw_R has um ut uf up uc vm vt v ma ms mf mb mr mt mi mg ml mp) (k x : Int32) : o_Desk_find has vm k x ∧ o_Mo_find v ma ms mb mr k x ∧ f_Desk_find has vm k x = (f_Mo_find v ma ms mb mr k x).1 ∧ lw_R has um ut uf up uc vm vt (f_Mo_find v ma ms mb mr k x).2 ma ms mf mb mr mt mi mg ml mp := by
  obtain ⟨n, t, n', t', L, r1, r2, r3, r4, r5, r6, r7, r8, r9, r10⟩ := h
  obtain ⟨a1, a2, a3, a5⟩ := e_find has (v := v) r8 k x
  refine ⟨a1, a2, a3, ?_⟩
  rw [a5]
  exact ⟨n, t, n', t', L, r1, r2, r3, r4, r5, r6, r7, r8, r9, r10⟩
theorem lr_caller (h : lw_R has um ut uf up uc vm vt v ma ms mf mb mr mt mi mg ml mp) (k x : Int32) : o_Desk_caller has vm vt k x ∧ o_Mo_caller v ma ms mb mr mt mg k x ∧ f_Desk_caller has vm vt k x = (f_Mo_caller v ma ms mb mr mt mg k x).1 ∧ lw_R has um ut uf up uc vm vt (f_Mo_caller v ma ms mb mr mt mg k x).2 ma ms mf mb mr mt mi mg ml mp := by
  obtain ⟨n, t, n', t', L, r1, r2, r3, r4, r5, r6, r7, r8, r9, r10⟩ := h
  obtain ⟨a1, a2, a3, a5⟩ := e_caller has (v := v) r8 r9 k x
  refine ⟨a1, a2, a3, ?_⟩
  rw [a5]
  exact ⟨n, t, n', t', L, r1, r2, r3, r4, r5, r6, r7, r8, r9, r10⟩
/-- load: both refuse, or both take -/
theorem lr_load (h : lw_R has um ut uf up uc vm vt v ma ms mf mb mr mt mi mg ml mp) (uh : cd_Tt) : o_Tc_passes (uc, uh) 8192 up ∧ o_Mo_load (v, ma, ms, mf, mb, mr, mt, mi, mg) mp ∧ ((∃ uc' uh', f_Tc_passes (uc, uh) 8192 up = (0, uc', uh') ∧ (f_Mo_load (v, ma, ms, mf, mb, mr, mt, mi, mg) mp).2.1.1 = 1 ∧ lw_R has um ut uf up uc' vm vt (f_Mo_load (v, ma, ms, mf, mb, mr, mt, mi, mg) mp).2.1 (f_Mo_load (v, ma, ms, mf, mb, mr, mt, mi, mg) mp).2.2.1 (f_Mo_load (v, ma, ms, mf, mb, mr, mt, mi, mg) mp).2.2.2.1 (f_Mo_load (v, ma, ms, mf, mb, mr, mt, mi, mg) mp).2.2.2.2.1 (f_Mo_load (v, ma, ms, mf, mb, mr, mt, mi, mg) mp).2.2.2.2.2.1 (f_Mo_load (v, ma, ms, mf, mb, mr, mt, mi, mg) mp).2.2.2.2.2.2.1 (f_Mo_load (v, ma, ms, mf, mb, mr, mt, mi, mg) mp).2.2.2.2.2.2.2.1 (f_Mo_load (v, ma, ms, mf, mb, mr, mt, mi, mg) mp).2.2.2.2.2.2.2.2.1 (f_Mo_load (v, ma, ms, mf, mb, mr, mt, mi, mg) mp).2.2.2.2.2.2.2.2.2 ml mp) ∨ ∃ uc' uh' vm' vt', f_Tc_passes (uc, uh) 8192 up = (1, uc', uh') ∧ o_Desk_takeCore (has, vm, vt) up uc' uh' ∧ f_Desk_takeCore (has, vm, vt) up uc' uh' = (1, vm', vt') ∧ (f_Mo_load (v, ma, ms, mf, mb, mr, mt, mi, mg) mp).1 = f_Mem_count vm' ∧ (f_Mo_load (v, ma, ms, mf, mb, mr, mt, mi, mg) mp).2.1.1 = 0 ∧ lw_R 1 um ut uf up uc' vm' vt' (f_Mo_load (v, ma, ms, mf, mb, mr, mt, mi, mg) mp).2.1 (f_Mo_load (v, ma, ms, mf, mb, mr, mt, mi, mg) mp).2.2.1 (f_Mo_load (v, ma, ms, mf, mb, mr, mt, mi, mg) mp).2.2.2.1 (f_Mo_load (v, ma, ms, mf, mb, mr, mt, mi, mg) mp).2.2.2.2.1 (f_Mo_load (v, ma, ms, mf, mb, mr, mt, mi, mg) mp).2.2.2.2.2.1 (f_Mo_load (v, ma, ms, mf, mb, mr, mt, mi, mg) mp).2.2.2.2.2.2.1 (f_Mo_load (v, ma, ms, mf, mb, mr, mt, mi, mg) mp).2.2.2.2.2.2.2.1 (f_Mo_load (v, ma, ms, mf, mb, mr, mt, mi, mg) mp).2.2.2.2.2.2.2.2.1 (f_Mo_load (v, ma, ms, mf, mb, mr, mt, mi, mg) mp).2.2.2.2.2.2.2.2.2 ml mp) := by
  obtain ⟨n, t, n', t', L, r1, r2, r3, r4, r5, r6, r7, r8, r9, r10⟩ := h
  obtain ⟨a1, a2, a3⟩ := e_load r5 r8.1 has vt uc uh (v := v) r5.2.2.1 (ma := ma) (ms := ms) (mf := mf) (mb := mb) (mr := mr) (mt := mt) (mi := mi) (mg := mg)
  refine ⟨a1, a2, ?_⟩
  rcases a3 with ⟨k, x, uh', mr', mt', mi', mg', b1, b2, b3, b4, b5, b6⟩ | ⟨uh', vm', vt', k', m', ma', ms', mf', mb', mr', mt', mi', mg', b1, b2, b3, b4, b5, b6, b7, b8, b9, c1, c2, c3⟩
  · refine Or.inl ⟨(k, x), uh', b1, ?_⟩
    rw [b2]
    exact ⟨rfl, n, t, n', t', L, mr_keep r1 (fun _ _ _ => ⟨rfl, rfl, rfl⟩) (fun _ _ _ => rfl) (b3 0 (by omega)), tt_keep r2 (b4 0 (by omega)) (fun x _ h2 => b5 x (by omega)) (fun x _ h2 => b6 x (by omega)), r3, r4, r5, rfl, rfl, mr_keep r8 (fun _ _ _ => ⟨rfl, rfl, rfl⟩) (fun _ _ _ => rfl) (b3 1 (by omega)), tt_keep r9 (b4 1 (by omega)) (fun x _ h2 => b5 x (by omega)) (fun x _ h2 => b6 x (by omega)), r10⟩
  · refine Or.inr ⟨(0, 0), uh', vm', vt', b1, b2, b3, ?_⟩
    rw [b4]
    exact ⟨b5.1.2.1.symm, rfl, n, t, k', m', L, mr_keep r1 (fun k _ h2 => b7 k (by omega)) (fun x _ h2 => b8 x (by omega)) b9, tt_keep r2 c1 (fun x _ h2 => c2 x (by omega)) (fun x _ h2 => c3 x (by omega)), r3, r4, r5, rfl, rfl, b5, b6, rfl⟩
end
