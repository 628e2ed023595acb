theorem cd_out0_18 {x : Int32} (h0 : ¬ x = (0 : Int32)) (h1 : ¬ x = (1 : Int32)) (h2 : ¬ x = (2 : Int32)) (h3 : ¬ x = (3 : Int32)) (h4 : ¬ x = (4 : Int32)) (h5 : ¬ x = (5 : Int32)) (h6 : ¬ x = (6 : Int32)) (h7 : ¬ x = (7 : Int32)) (h8 : ¬ x = (8 : Int32)) (h9 : ¬ x = (9 : Int32)) (h10 : ¬ x = (10 : Int32)) (h11 : ¬ x = (11 : Int32)) (h12 : ¬ x = (12 : Int32)) (h13 : ¬ x = (13 : Int32)) (h14 : ¬ x = (14 : Int32)) (h15 : ¬ x = (15 : Int32)) (h16 : ¬ x = (16 : Int32)) (h17 : ¬ x = (17 : Int32)) (h18 : ¬ x = (18 : Int32)) : x.toInt < 0 ∨ 18 < x.toInt := by
  have a0 : x.toInt ≠ 0 := fun e => h0 (Int32.toInt_inj.mp (e.trans (by decide)))
  have a1 : x.toInt ≠ 1 := fun e => h1 (Int32.toInt_inj.mp (e.trans (by decide)))
  have a2 : x.toInt ≠ 2 := fun e => h2 (Int32.toInt_inj.mp (e.trans (by decide)))
  have a3 : x.toInt ≠ 3 := fun e => h3 (Int32.toInt_inj.mp (e.trans (by decide)))
  have a4 : x.toInt ≠ 4 := fun e => h4 (Int32.toInt_inj.mp (e.trans (by decide)))
  have a5 : x.toInt ≠ 5 := fun e => h5 (Int32.toInt_inj.mp (e.trans (by decide)))
  have a6 : x.toInt ≠ 6 := fun e => h6 (Int32.toInt_inj.mp (e.trans (by decide)))
  have a7 : x.toInt ≠ 7 := fun e => h7 (Int32.toInt_inj.mp (e.trans (by decide)))
  have a8 : x.toInt ≠ 8 := fun e => h8 (Int32.toInt_inj.mp (e.trans (by decide)))
  have a9 : x.toInt ≠ 9 := fun e => h9 (Int32.toInt_inj.mp (e.trans (by decide)))
  have a10 : x.toInt ≠ 10 := fun e => h10 (Int32.toInt_inj.mp (e.trans (by decide)))
  have a11 : x.toInt ≠ 11 := fun e => h11 (Int32.toInt_inj.mp (e.trans (by decide)))
  have a12 : x.toInt ≠ 12 := fun e => h12 (Int32.toInt_inj.mp (e.trans (by decide)))
  have a13 : x.toInt ≠ 13 := fun e => h13 (Int32.toInt_inj.mp (e.trans (by decide)))
  have a14 : x.toInt ≠ 14 := fun e => h14 (Int32.toInt_inj.mp (e.trans (by decide)))
  have a15 : x.toInt ≠ 15 := fun e => h15 (Int32.toInt_inj.mp (e.trans (by decide)))
  have a16 : x.toInt ≠ 16 := fun e => h16 (Int32.toInt_inj.mp (e.trans (by decide)))
  have a17 : x.toInt ≠ 17 := fun e => h17 (Int32.toInt_inj.mp (e.trans (by decide)))
  have a18 : x.toInt ≠ 18 := fun e => h18 (Int32.toInt_inj.mp (e.trans (by decide)))
  omega
/-- one round: from the script's number on, through the case, to the loop's foot -/
theorem lw_body {p : Program} {l : Launch} {e : Env} {s : State} {m : MethodId} {below : List Frame} {meth : Method} {c : Code} {b L : Nat} {xs : Nat → Int32} {D : va_G} {tt : Nat → ClassId} {ad : Nat → Nat} {A : Nat → Prop} {zs : Nat → Nat} {Q : State → Prop} (X : lw_X p l s m c b L xs D tt A zs) {H : Heap} {locs : List Loc} {cells slots : Nat} (hcs : cells + 1 ≤ room_1.cells) (hss : slots + 6 ≤ room_1.slots) {ls : Array Slot} {i : Nat} (hi : i + 4 ≤ L) (hl : lv_has ls 7 (lw_ls b ad i)) {w : Nat → va_E} (hI : lw_I 56 tt ad w) (hP : cd_P D ad 56 A w H) (hS : va_S A s.heap H locs) (kk : ∀ (H1 : Heap) (locs1 : List Loc) (w1 : Nat → va_E) (ls1 : Array Slot), lv_has ls1 7 (lw_ls b ad i) → lw_I 56 tt ad w1 → cd_P D ad 56 A w1 H1 → va_S A s.heap H1 locs1 → W p l e room_1 s m #[Value.ref b] below meth c H1 locs1 (cells + 1) (slots + 6) Q (F0 m 749 ls1 [])) : W p l e room_1 s m #[Value.ref b] below meth c H locs cells slots Q (F0 m 32 ls []) := by
  have X0 := X
  obtain ⟨hx, hb, hml, hown, hA, hK, hZ, hX, hbl, hbA, hL, -⟩ := X0
  have h0c : cells ≤ room_1.cells := Nat.le_of_succ_le hcs
  have h0s : slots ≤ room_1.slots := Nat.le_trans (Nat.le_add_right _ _) hss
  have k0 : ∀ (H1 : Heap) (locs1 : List Loc) (w1 : Nat → va_E), lw_I 56 tt ad w1 → cd_P D ad 56 A w1 H1 → va_S A s.heap H1 locs1 → W p l e room_1 s m #[Value.ref b] below meth c H1 locs1 cells slots Q (F0 m 749 ls []) := fun H1 locs1 w1 h1 h2 h3 => W.widen (k := cells + 1) (n := slots + 6) (by omega) (by omega) (kk H1 locs1 w1 ls hl h1 h2 h3)
  refine lv_aload_n hx hb d_Law_law_32 rfl (lv_at hl 0 rfl) ?_
  refine lv_iload hx hb d_Law_law_33 (lv_at hl 4 rfl) ?_
  refine va_sld hx hb hX hbl hbA hS (vp_in_nI (by omega) (by omega)) d_Law_law_35 ?_
  refine lv_bipush (v := (31 : Int32)) hx hb d_Law_law_36 (by decide) ?_
  refine lv_iand hx hb d_Law_law_38 ?_
  generalize xs (nI i).toNatClampNeg &&& 31 = x
  by_cases h0 : x = (0 : Int32)
  · rw [h0]
    exact lv_tableIn (tgt := 128) (off := 89) hx hb d_Law_law_39 (by decide) (by decide) (by decide) (by decide) (lc_map X h0c h0s hi hl hI hP hS k0)
  by_cases h1 : x = (1 : Int32)
  · rw [h1]
    exact lv_tableIn (tgt := 177) (off := 138) hx hb d_Law_law_39 (by decide) (by decide) (by decide) (by decide) (lc_unmap X h0c h0s hi hl hI hP hS k0)
  by_cases h2 : x = (2 : Int32)
  · rw [h2]
    exact lv_tableIn (tgt := 202) (off := 163) hx hb d_Law_law_39 (by decide) (by decide) (by decide) (by decide) (lc_poke X h0c h0s hi hl hI hP hS k0)
  by_cases h3 : x = (3 : Int32)
  · rw [h3]
    exact lv_tableIn (tgt := 239) (off := 200) hx hb d_Law_law_39 (by decide) (by decide) (by decide) (by decide) (lc_pokeFour X h0c h0s hi hl hI hP hS k0)
  by_cases h4 : x = (4 : Int32)
  · rw [h4]
    exact lv_tableIn (tgt := 276) (off := 237) hx hb d_Law_law_39 (by decide) (by decide) (by decide) (by decide) (lc_thread X h0c h0s hi hl hI hP hS k0)
  by_cases h5 : x = (5 : Int32)
  · rw [h5]
    exact lv_tableIn (tgt := 301) (off := 262) hx hb d_Law_law_39 (by decide) (by decide) (by decide) (by decide) (lc_set X h0c h0s hi hl hI hP hS k0)
  by_cases h6 : x = (6 : Int32)
  · rw [h6]
    exact lv_tableIn (tgt := 350) (off := 311) hx hb d_Law_law_39 (by decide) (by decide) (by decide) (by decide) (lc_dump X h0c h0s hi hl hI hP hS k0)
  by_cases h7 : x = (7 : Int32)
  · rw [h7]
    exact lv_tableIn (tgt := 363) (off := 324) hx hb d_Law_law_39 (by decide) (by decide) (by decide) (by decide) (lc_byteAt X h0c h0s hi hl hI hP hS k0)
  by_cases h8 : x = (8 : Int32)
  · rw [h8]
    exact lv_tableIn (tgt := 388) (off := 349) hx hb d_Law_law_39 (by decide) (by decide) (by decide) (by decide) (lc_copy X h0c h0s hi hl hI hP hS k0)
  by_cases h9 : x = (9 : Int32)
  · rw [h9]
    exact lv_tableIn (tgt := 401) (off := 362) hx hb d_Law_law_39 (by decide) (by decide) (by decide) (by decide) (lc_put X h0c h0s hi hl hI hP hS k0)
  by_cases h10 : x = (10 : Int32)
  · rw [h10]
    exact lv_tableIn (tgt := 438) (off := 399) hx hb d_Law_law_39 (by decide) (by decide) (by decide) (by decide) (lc_cut X h0c h0s hi hl hI hP hS k0)
  by_cases h11 : x = (11 : Int32)
  · rw [h11]
    exact lv_tableIn (tgt := 463) (off := 424) hx hb d_Law_law_39 (by decide) (by decide) (by decide) (by decide) (lc_load X hcs hss hi hl hI hP hS kk)
  by_cases h12 : x = (12 : Int32)
  · rw [h12]
    exact lv_tableIn (tgt := 507) (off := 468) hx hb d_Law_law_39 (by decide) (by decide) (by decide) (by decide) (lc_error X h0c h0s hi hl hI hP hS k0)
  by_cases h13 : x = (13 : Int32)
  · rw [h13]
    exact lv_tableIn (tgt := 532) (off := 493) hx hb d_Law_law_39 (by decide) (by decide) (by decide) (by decide) (lc_core X h0c h0s hi hl hI hP hS k0)
  by_cases h14 : x = (14 : Int32)
  · rw [h14]
    exact lv_tableIn (tgt := 557) (off := 518) hx hb d_Law_law_39 (by decide) (by decide) (by decide) (by decide) (lc_peek X h0c h0s hi hl hI hP hS k0)
  by_cases h15 : x = (15 : Int32)
  · rw [h15]
    exact lv_tableIn (tgt := 582) (off := 543) hx hb d_Law_law_39 (by decide) (by decide) (by decide) (by decide) (lc_flags X h0c h0s hi hl hI hP hS k0)
  by_cases h16 : x = (16 : Int32)
  · rw [h16]
    exact lv_tableIn (tgt := 607) (off := 568) hx hb d_Law_law_39 (by decide) (by decide) (by decide) (by decide) (lc_register X hcs hss hi hl hI hP hS kk)
  by_cases h17 : x = (17 : Int32)
  · rw [h17]
    exact lv_tableIn (tgt := 675) (off := 636) hx hb d_Law_law_39 (by decide) (by decide) (by decide) (by decide) (lc_find X h0c h0s hi hl hI hP hS k0)
  by_cases h18 : x = (18 : Int32)
  · rw [h18]
    exact lv_tableIn (tgt := 712) (off := 673) hx hb d_Law_law_39 (by decide) (by decide) (by decide) (by decide) (lc_caller X h0c h0s hi hl hI hP hS k0)
  exact lv_tableOut (tgt := 749) hx hb d_Law_law_39 (cd_out0_18 h0 h1 h2 h3 h4 h5 h6 h7 h8 h9 h10 h11 h12 h13 h14 h15 h16 h17 h18) (by decide) (k0 _ _ w hI hP hS)
theorem lw_gt {L i : Nat} (hL : L ≤ 2048) (hi : i ≤ 2048) : Int32.ofNat L - 4 < nI i ↔ L < i + 4 := by
  have e4 : (4 : Int32).toInt = 4 := by decide
  have eL : (Int32.ofNat L).toInt = (L : Int) := nI_toInt (n := L) (by omega)
  rw [pu_lt, pu_sub (by rw [eL, e4]; omega) (by rw [eL, e4]; omega), eL, e4, nI_toInt (by omega)]
  omega
/-- the whole loop -/
theorem lw_loop {p : Program} {l : Launch} {e : Env} {s : State} {m : MethodId} {below : List Frame} {meth : Method} {c : Code} {b L : Nat} {xs : Nat → Int32} {D : va_G} {tt : Nat → ClassId} {ad : Nat → Nat} {A : Nat → Prop} {zs : Nat → Nat} {Q : State → Prop} (X : lw_X p l s m c b L xs D tt A zs) (K : ∀ (H : Heap) (locs : List Loc) (cells slots : Nat) (ls : Array Slot), va_S A s.heap H locs → cells ≤ 601024 → slots ≤ 7293033 → W p l e room_1 s m #[Value.ref b] below meth c H locs cells slots Q (F0 m 755 ls [])) : ∀ (g i : Nat) (H : Heap) (locs : List Loc) (cells slots : Nat) (ls : Array Slot) (w : Nat → va_E), i ≤ 2048 → L < i + 4 * g + 4 → cells + g ≤ 601024 → slots + 6 * g ≤ 7293033 → lv_has ls 7 (lw_ls b ad i) → lw_I 56 tt ad w → cd_P D ad 56 A w H → va_S A s.heap H locs → W p l e room_1 s m #[Value.ref b] below meth c H locs cells slots Q (F0 m 23 ls []) := by
  have X0 := X
  obtain ⟨hx, hb, hml, hown, hA, hK, hZ, hX, hbl, hbA, hL, -⟩ := X0
  intro g
  induction g with
  | zero =>
    intro i H locs cells slots ls w hi2 hg hc hs hl hI hP hS
    refine lv_iload hx hb d_Law_law_23 (lv_at hl 4 rfl) ?_
    refine lv_aload_n hx hb d_Law_law_25 rfl (lv_at hl 0 rfl) ?_
    refine va_slen hx hb hX hbl hbA hS d_Law_law_26 ?_
    refine lv_iconst (v := (4 : Int32)) hx hb d_Law_law_27 (by decide) ?_
    refine lv_isub hx hb d_Law_law_28 ?_
    refine lv_icmp_gt (tgt := 755) hx hb d_Law_law_29 (by decide) (fun _ => K _ _ _ _ _ hS (by omega) (by omega)) (fun hcc => absurd ((lw_gt hL hi2).mpr (by omega)) hcc)
  | succ g ih =>
    intro i H locs cells slots ls w hi2 hg hc hs hl hI hP hS
    refine lv_iload hx hb d_Law_law_23 (lv_at hl 4 rfl) ?_
    refine lv_aload_n hx hb d_Law_law_25 rfl (lv_at hl 0 rfl) ?_
    refine va_slen hx hb hX hbl hbA hS d_Law_law_26 ?_
    refine lv_iconst (v := (4 : Int32)) hx hb d_Law_law_27 (by decide) ?_
    refine lv_isub hx hb d_Law_law_28 ?_
    refine lv_icmp_gt (tgt := 755) hx hb d_Law_law_29 (by decide) (fun _ => K _ _ _ _ _ hS (by omega) (by omega)) (fun hcc => ?_)
    have hi : i + 4 ≤ L := by
      have hq : ¬ L < i + 4 := fun q => hcc ((lw_gt hL hi2).mpr q)
      omega
    refine lw_body X (by show cells + 1 ≤ 601024; omega) (by show slots + 6 ≤ 7293033; omega) hi hl hI hP hS ?_
    intro H1 locs1 w1 ls1 hl1 hI1 hP1 hS1
    refine lv_iinc (lv' := [(4, .int (nI (i + 4))), (0, .ref b), (1, .ref (ad 0)), (2, .ref (ad 44)), (3, .ref (ad 55))]) (k := 4) (x := nI i) (v := nI (i + 4)) hx hb d_Law_law_749 hl1 rfl (nI_add i 4) (by decide) rfl (fun ls2 hl2 => ?_)
    refine lv_goto (tgt := 23) hx hb d_Law_law_752 (by decide) ?_
    exact ih (i + 4) H1 locs1 (cells + 1) (slots + 6) ls2 w1 (by omega) (by omega) (by omega) (by omega) (lv_sub hl2 [1, 2, 3, 4, 0] rfl) hI1 hP1 hS1
