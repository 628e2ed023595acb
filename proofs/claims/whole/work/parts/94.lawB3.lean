theorem lc_core {p : Program} {l : Launch} {e : Env} {s : State} {m : MethodId} {below : List Frame} {meth : Method} {c : Code} {b L : Nat} {xs : Nat → Int32} {D : va_G} {tt : Nat → ClassId} {ad : Nat → Nat} {A : Nat → Prop} {zs : Nat → Nat} {Q : State → Prop} (X : lw_X p l s m c b L xs D tt A zs) {H : Heap} {locs : List Loc} {cells slots : Nat} (hcs : cells ≤ room_1.cells) (hss : slots ≤ room_1.slots) {ls : Array Slot} {i : Nat} (hi : i + 4 ≤ L) (hl : lv_has ls 7 (lw_ls b ad i)) {w : Nat → va_E} (hI : lw_I 56 tt ad w) (hP : cd_P D ad 56 A w H) (hS : va_S A s.heap H locs) (kk : ∀ (H1 : Heap) (locs1 : List Loc) (w1 : Nat → va_E), lw_I 56 tt ad w1 → cd_P D ad 56 A w1 H1 → va_S A s.heap H1 locs1 → W p l e room_1 s m #[Value.ref b] below meth c H1 locs1 cells slots Q (F0 m 749 ls [])) : W p l e room_1 s m #[Value.ref b] below meth c H locs cells slots Q (F0 m 532 ls []) := by
  obtain ⟨hx, hb, hml, hown, hA, hK, hZ, hX, hbl, hbA, hL, -⟩ := X
  obtain ⟨has, um, ut, uf, up, uc, uh, vm, vt, v, ma, ms, mf, mb, mr, mt, mi, mg, ml, mp, f, ⟨b0, b1, b2, b3, b4, b5, b6, b7, b8, b9, b10, b11, b12, b13, b14, b15, b16, b17, b18, b19, b20, b21⟩, hR⟩ := hI
  obtain ⟨o2, heq, hR⟩ := lr_core hR (xs (i + 1))
  refine lv_aload_n hx hb d_Law_law_532 rfl (lv_at hl 1 rfl) ?_
  refine lw_arg hx hb hX hbl hbA hS hl hi (k := 1) ⟨by omega, hL⟩ d_Law_law_533 d_Law_law_534 d_Law_law_536 rfl d_Law_law_537 d_Law_law_538 ?_
  refine va_calli (va_runV (As := [.int (xs (i + 1))]) (rest := []) ⟨hx, hb, hml, hown, hA⟩ (c_Desk_core l D tt ad 56 A zs w 0 has vm vt (xs (i + 1)) b0 b8 b9) (cwV 1 hA (cd_gV aw_331 aw_332 aw_333 aw_1 aw_334) rfl rfl rfl ⟨rfl, by decide, by decide, by decide +kernel⟩ ⟨Nat.le_of_ble_eq_true rfl, Nat.le_of_ble_eq_true rfl⟩) ⟨cd_blind, cd_recv hK hP (k := 0) (by omega) b0.2 rfl, fun U hU hW => ⟨rfl, cd_pre hK hP hZ hS U hU hW⟩⟩ rfl rfl hl.1 rfl (lv_room (Nat.le_of_ble_eq_true rfl)) d_Law_law_539 ⟨hcs, hss⟩) hS (fun _ _ h => h) (fun _ h => h) (fun r1 w1 tE H locs ht hvm hr hP hz1 hk1 hS => ?_)
  have hP := cd_Pf ht hP
  obtain ⟨hr1, rfl⟩ := hr
  refine lv_aload_n hx hb d_Law_law_542 rfl (lv_at hl 2 rfl) ?_
  refine lw_arg hx hb hX hbl hbA hS hl hi (k := 1) ⟨by omega, hL⟩ d_Law_law_543 d_Law_law_544 d_Law_law_546 rfl d_Law_law_547 d_Law_law_548 ?_
  refine va_calli (va_runV (As := [.int (xs (i + 1))]) (rest := [.int r1]) ⟨hx, hb, hml, hown, hA⟩ (c_Mo_core l D tt ad 56 A zs _ 44 v mr mt (xs (i + 1)) b10 b15 b16 o2) (cwV 1 hA (cd_gV aw_724 aw_725 aw_726 aw_8 aw_727) rfl rfl rfl ⟨rfl, by decide, by decide, by decide +kernel⟩ ⟨Nat.le_of_ble_eq_true rfl, Nat.le_of_ble_eq_true rfl⟩) ⟨cd_blind, cd_recv hK hP (k := 44) (by omega) b10.2 rfl, fun U hU hW => ⟨rfl, cd_pre hK hP hZ hS U hU hW⟩⟩ rfl rfl hl.1 rfl (lv_room (Nat.le_of_ble_eq_true rfl)) d_Law_law_549 ⟨hcs, hss⟩) hS (fun _ _ h => h) (fun _ h => h) (fun r2 w2 tE H locs ht hvm hr hP hz1 hk1 hS => ?_)
  have hP := cd_Pf ht hP
  obtain ⟨hr2, d10, e2⟩ := hr
  have d0 := cd_DeskAt_keep b0 (fun k h1 h2 => e2 k (by omega))
  have d1 := cd_MemAt_keep b1 (fun k h1 h2 => e2 k (by omega))
  have d2 := cd_TtAt_keep b2 (fun k h1 h2 => e2 k (by omega))
  have d3 := cd_RowAt_keep b3 (fun k h1 h2 => e2 k (by omega))
  have d4 := cd_FwAt_keep b4 (fun k h1 h2 => e2 k (by omega))
  have d5 := cd_RowAt_keep b5 (fun k h1 h2 => e2 k (by omega))
  have d6 := cd_TcAt_keep b6 (fun k h1 h2 => e2 k (by omega))
  have d7 := cd_TtAt_keep b7 (fun k h1 h2 => e2 k (by omega))
  have d8 := cd_MemAt_keep b8 (fun k h1 h2 => e2 k (by omega))
  have d9 := cd_TtAt_keep b9 (fun k h1 h2 => e2 k (by omega))
  have d11 := cd_IaAt_keep b11 (fun k h1 h2 => e2 k (by omega))
  have d12 := cd_IaAt_keep b12 (fun k h1 h2 => e2 k (by omega))
  have d13 := cd_IaAt_keep b13 (fun k h1 h2 => e2 k (by omega))
  have d14 := cd_ByAt_keep b14 (fun k h1 h2 => e2 k (by omega))
  have d15 := cd_IaAt_keep b15 (fun k h1 h2 => e2 k (by omega))
  have d16 := cd_IaAt_keep b16 (fun k h1 h2 => e2 k (by omega))
  have d17 := cd_IaAt_keep b17 (fun k h1 h2 => e2 k (by omega))
  have d18 := cd_IaAt_keep b18 (fun k h1 h2 => e2 k (by omega))
  have d19 := cd_ByAt_keep b19 (fun k h1 h2 => e2 k (by omega))
  have d20 := cd_ByAt_keep b20 (fun k h1 h2 => e2 k (by omega))
  have d21 := (e2 55 (by omega)).trans b21
  exact lv_icmp_eq (tgt := 749) hx hb d_Law_law_552 (by decide) (fun _ => kk _ _ w2 ⟨_, _, _, _, _, _, _, _, _, _, _, _, _, _, _, _, _, _, _, _, _, ⟨d0, d1, d2, d3, d4, d5, d6, d7, d8, d9, d10, d11, d12, d13, d14, d15, d16, d17, d18, d19, d20, d21⟩, hR⟩ hP hS) (fun hc => absurd (hr1.symm.trans (heq.trans hr2)) hc)
theorem lc_peek {p : Program} {l : Launch} {e : Env} {s : State} {m : MethodId} {below : List Frame} {meth : Method} {c : Code} {b L : Nat} {xs : Nat → Int32} {D : va_G} {tt : Nat → ClassId} {ad : Nat → Nat} {A : Nat → Prop} {zs : Nat → Nat} {Q : State → Prop} (X : lw_X p l s m c b L xs D tt A zs) {H : Heap} {locs : List Loc} {cells slots : Nat} (hcs : cells ≤ room_1.cells) (hss : slots ≤ room_1.slots) {ls : Array Slot} {i : Nat} (hi : i + 4 ≤ L) (hl : lv_has ls 7 (lw_ls b ad i)) {w : Nat → va_E} (hI : lw_I 56 tt ad w) (hP : cd_P D ad 56 A w H) (hS : va_S A s.heap H locs) (kk : ∀ (H1 : Heap) (locs1 : List Loc) (w1 : Nat → va_E), lw_I 56 tt ad w1 → cd_P D ad 56 A w1 H1 → va_S A s.heap H1 locs1 → W p l e room_1 s m #[Value.ref b] below meth c H1 locs1 cells slots Q (F0 m 749 ls [])) : W p l e room_1 s m #[Value.ref b] below meth c H locs cells slots Q (F0 m 557 ls []) := by
  obtain ⟨hx, hb, hml, hown, hA, hK, hZ, hX, hbl, hbA, hL, -⟩ := X
  obtain ⟨has, um, ut, uf, up, uc, uh, vm, vt, v, ma, ms, mf, mb, mr, mt, mi, mg, ml, mp, f, ⟨b0, b1, b2, b3, b4, b5, b6, b7, b8, b9, b10, b11, b12, b13, b14, b15, b16, b17, b18, b19, b20, b21⟩, hR⟩ := hI
  obtain ⟨o1, o2, heq, hR⟩ := lr_peek hR (xs (i + 1))
  refine lv_aload_n hx hb d_Law_law_557 rfl (lv_at hl 1 rfl) ?_
  refine lw_arg hx hb hX hbl hbA hS hl hi (k := 1) ⟨by omega, hL⟩ d_Law_law_558 d_Law_law_559 d_Law_law_561 rfl d_Law_law_562 d_Law_law_563 ?_
  refine va_calli (va_runV (As := [.int (xs (i + 1))]) (rest := []) ⟨hx, hb, hml, hown, hA⟩ (c_Desk_peek l D tt ad 56 A zs w 0 has vm (xs (i + 1)) b0 b8 o1) (cwV 1 hA (cd_gV aw_337 aw_338 aw_339 aw_1 aw_340) rfl rfl rfl ⟨rfl, by decide, by decide, by decide +kernel⟩ ⟨Nat.le_of_ble_eq_true rfl, Nat.le_of_ble_eq_true rfl⟩) ⟨cd_blind, cd_recv hK hP (k := 0) (by omega) b0.2 rfl, fun U hU hW => ⟨rfl, cd_pre hK hP hZ hS U hU hW⟩⟩ rfl rfl hl.1 rfl (lv_room (Nat.le_of_ble_eq_true rfl)) d_Law_law_564 ⟨hcs, hss⟩) hS (fun _ _ h => h) (fun _ h => h) (fun r1 w1 tE H locs ht hvm hr hP hz1 hk1 hS => ?_)
  have hP := cd_Pf ht hP
  obtain ⟨hr1, rfl⟩ := hr
  refine lv_aload_n hx hb d_Law_law_567 rfl (lv_at hl 2 rfl) ?_
  refine lw_arg hx hb hX hbl hbA hS hl hi (k := 1) ⟨by omega, hL⟩ d_Law_law_568 d_Law_law_569 d_Law_law_571 rfl d_Law_law_572 d_Law_law_573 ?_
  refine va_calli (va_runV (As := [.int (xs (i + 1))]) (rest := [.int r1]) ⟨hx, hb, hml, hown, hA⟩ (c_Mo_peek l D tt ad 56 A zs _ 44 v ma ms mb mr (xs (i + 1)) b10 b11 b12 b14 b15 o2) (cwV 1 hA (cd_gV aw_728 aw_729 aw_730 aw_8 aw_731) rfl rfl rfl ⟨rfl, by decide, by decide, by decide +kernel⟩ ⟨Nat.le_of_ble_eq_true rfl, Nat.le_of_ble_eq_true rfl⟩) ⟨cd_blind, cd_recv hK hP (k := 44) (by omega) b10.2 rfl, fun U hU hW => ⟨rfl, cd_pre hK hP hZ hS U hU hW⟩⟩ rfl rfl hl.1 rfl (lv_room (Nat.le_of_ble_eq_true rfl)) d_Law_law_574 ⟨hcs, hss⟩) hS (fun _ _ h => h) (fun _ h => h) (fun r2 w2 tE H locs ht hvm hr hP hz1 hk1 hS => ?_)
  have hP := cd_Pf ht hP
  obtain ⟨hr2, d10, e2⟩ := hr
  have d0 := cd_DeskAt_keep b0 (fun k h1 h2 => e2 k (by omega))
  have d1 := cd_MemAt_keep b1 (fun k h1 h2 => e2 k (by omega))
  have d2 := cd_TtAt_keep b2 (fun k h1 h2 => e2 k (by omega))
  have d3 := cd_RowAt_keep b3 (fun k h1 h2 => e2 k (by omega))
  have d4 := cd_FwAt_keep b4 (fun k h1 h2 => e2 k (by omega))
  have d5 := cd_RowAt_keep b5 (fun k h1 h2 => e2 k (by omega))
  have d6 := cd_TcAt_keep b6 (fun k h1 h2 => e2 k (by omega))
  have d7 := cd_TtAt_keep b7 (fun k h1 h2 => e2 k (by omega))
  have d8 := cd_MemAt_keep b8 (fun k h1 h2 => e2 k (by omega))
  have d9 := cd_TtAt_keep b9 (fun k h1 h2 => e2 k (by omega))
  have d11 := cd_IaAt_keep b11 (fun k h1 h2 => e2 k (by omega))
  have d12 := cd_IaAt_keep b12 (fun k h1 h2 => e2 k (by omega))
  have d13 := cd_IaAt_keep b13 (fun k h1 h2 => e2 k (by omega))
  have d14 := cd_ByAt_keep b14 (fun k h1 h2 => e2 k (by omega))
  have d15 := cd_IaAt_keep b15 (fun k h1 h2 => e2 k (by omega))
  have d16 := cd_IaAt_keep b16 (fun k h1 h2 => e2 k (by omega))
  have d17 := cd_IaAt_keep b17 (fun k h1 h2 => e2 k (by omega))
  have d18 := cd_IaAt_keep b18 (fun k h1 h2 => e2 k (by omega))
  have d19 := cd_ByAt_keep b19 (fun k h1 h2 => e2 k (by omega))
  have d20 := cd_ByAt_keep b20 (fun k h1 h2 => e2 k (by omega))
  have d21 := (e2 55 (by omega)).trans b21
  exact lv_icmp_eq (tgt := 749) hx hb d_Law_law_577 (by decide) (fun _ => kk _ _ w2 ⟨_, _, _, _, _, _, _, _, _, _, _, _, _, _, _, _, _, _, _, _, _, ⟨d0, d1, d2, d3, d4, d5, d6, d7, d8, d9, d10, d11, d12, d13, d14, d15, d16, d17, d18, d19, d20, d21⟩, hR⟩ hP hS) (fun hc => absurd (hr1.symm.trans (heq.trans hr2)) hc)
theorem lc_flags {p : Program} {l : Launch} {e : Env} {s : State} {m : MethodId} {below : List Frame} {meth : Method} {c : Code} {b L : Nat} {xs : Nat → Int32} {D : va_G} {tt : Nat → ClassId} {ad : Nat → Nat} {A : Nat → Prop} {zs : Nat → Nat} {Q : State → Prop} (X : lw_X p l s m c b L xs D tt A zs) {H : Heap} {locs : List Loc} {cells slots : Nat} (hcs : cells ≤ room_1.cells) (hss : slots ≤ room_1.slots) {ls : Array Slot} {i : Nat} (hi : i + 4 ≤ L) (hl : lv_has ls 7 (lw_ls b ad i)) {w : Nat → va_E} (hI : lw_I 56 tt ad w) (hP : cd_P D ad 56 A w H) (hS : va_S A s.heap H locs) (kk : ∀ (H1 : Heap) (locs1 : List Loc) (w1 : Nat → va_E), lw_I 56 tt ad w1 → cd_P D ad 56 A w1 H1 → va_S A s.heap H1 locs1 → W p l e room_1 s m #[Value.ref b] below meth c H1 locs1 cells slots Q (F0 m 749 ls [])) : W p l e room_1 s m #[Value.ref b] below meth c H locs cells slots Q (F0 m 582 ls []) := by
  obtain ⟨hx, hb, hml, hown, hA, hK, hZ, hX, hbl, hbA, hL, -⟩ := X
  obtain ⟨has, um, ut, uf, up, uc, uh, vm, vt, v, ma, ms, mf, mb, mr, mt, mi, mg, ml, mp, f, ⟨b0, b1, b2, b3, b4, b5, b6, b7, b8, b9, b10, b11, b12, b13, b14, b15, b16, b17, b18, b19, b20, b21⟩, hR⟩ := hI
  obtain ⟨o1, o2, heq, hR⟩ := lr_flags hR (xs (i + 1))
  refine lv_aload_n hx hb d_Law_law_582 rfl (lv_at hl 1 rfl) ?_
  refine lw_arg hx hb hX hbl hbA hS hl hi (k := 1) ⟨by omega, hL⟩ d_Law_law_583 d_Law_law_584 d_Law_law_586 rfl d_Law_law_587 d_Law_law_588 ?_
  refine va_calli (va_runV (As := [.int (xs (i + 1))]) (rest := []) ⟨hx, hb, hml, hown, hA⟩ (c_Desk_flags l D tt ad 56 A zs w 0 has vm (xs (i + 1)) b0 b8 o1) (cwV 1 hA (cd_gV aw_346 aw_347 aw_348 aw_1 aw_349) rfl rfl rfl ⟨rfl, by decide, by decide, by decide +kernel⟩ ⟨Nat.le_of_ble_eq_true rfl, Nat.le_of_ble_eq_true rfl⟩) ⟨cd_blind, cd_recv hK hP (k := 0) (by omega) b0.2 rfl, fun U hU hW => ⟨rfl, cd_pre hK hP hZ hS U hU hW⟩⟩ rfl rfl hl.1 rfl (lv_room (Nat.le_of_ble_eq_true rfl)) d_Law_law_589 ⟨hcs, hss⟩) hS (fun _ _ h => h) (fun _ h => h) (fun r1 w1 tE H locs ht hvm hr hP hz1 hk1 hS => ?_)
  have hP := cd_Pf ht hP
  obtain ⟨hr1, rfl⟩ := hr
  refine lv_aload_n hx hb d_Law_law_592 rfl (lv_at hl 2 rfl) ?_
  refine lw_arg hx hb hX hbl hbA hS hl hi (k := 1) ⟨by omega, hL⟩ d_Law_law_593 d_Law_law_594 d_Law_law_596 rfl d_Law_law_597 d_Law_law_598 ?_
  refine va_calli (va_runV (As := [.int (xs (i + 1))]) (rest := [.int r1]) ⟨hx, hb, hml, hown, hA⟩ (c_Mo_flags l D tt ad 56 A zs _ 44 v ma ms mf mr (xs (i + 1)) b10 b11 b12 b13 b15 o2) (cwV 1 hA (cd_gV aw_735 aw_736 aw_737 aw_8 aw_738) rfl rfl rfl ⟨rfl, by decide, by decide, by decide +kernel⟩ ⟨Nat.le_of_ble_eq_true rfl, Nat.le_of_ble_eq_true rfl⟩) ⟨cd_blind, cd_recv hK hP (k := 44) (by omega) b10.2 rfl, fun U hU hW => ⟨rfl, cd_pre hK hP hZ hS U hU hW⟩⟩ rfl rfl hl.1 rfl (lv_room (Nat.le_of_ble_eq_true rfl)) d_Law_law_599 ⟨hcs, hss⟩) hS (fun _ _ h => h) (fun _ h => h) (fun r2 w2 tE H locs ht hvm hr hP hz1 hk1 hS => ?_)
  have hP := cd_Pf ht hP
  obtain ⟨hr2, d10, e2⟩ := hr
  have d0 := cd_DeskAt_keep b0 (fun k h1 h2 => e2 k (by omega))
  have d1 := cd_MemAt_keep b1 (fun k h1 h2 => e2 k (by omega))
  have d2 := cd_TtAt_keep b2 (fun k h1 h2 => e2 k (by omega))
  have d3 := cd_RowAt_keep b3 (fun k h1 h2 => e2 k (by omega))
  have d4 := cd_FwAt_keep b4 (fun k h1 h2 => e2 k (by omega))
  have d5 := cd_RowAt_keep b5 (fun k h1 h2 => e2 k (by omega))
  have d6 := cd_TcAt_keep b6 (fun k h1 h2 => e2 k (by omega))
  have d7 := cd_TtAt_keep b7 (fun k h1 h2 => e2 k (by omega))
  have d8 := cd_MemAt_keep b8 (fun k h1 h2 => e2 k (by omega))
  have d9 := cd_TtAt_keep b9 (fun k h1 h2 => e2 k (by omega))
  have d11 := cd_IaAt_keep b11 (fun k h1 h2 => e2 k (by omega))
  have d12 := cd_IaAt_keep b12 (fun k h1 h2 => e2 k (by omega))
  have d13 := cd_IaAt_keep b13 (fun k h1 h2 => e2 k (by omega))
  have d14 := cd_ByAt_keep b14 (fun k h1 h2 => e2 k (by omega))
  have d15 := cd_IaAt_keep b15 (fun k h1 h2 => e2 k (by omega))
  have d16 := cd_IaAt_keep b16 (fun k h1 h2 => e2 k (by omega))
  have d17 := cd_IaAt_keep b17 (fun k h1 h2 => e2 k (by omega))
  have d18 := cd_IaAt_keep b18 (fun k h1 h2 => e2 k (by omega))
  have d19 := cd_ByAt_keep b19 (fun k h1 h2 => e2 k (by omega))
  have d20 := cd_ByAt_keep b20 (fun k h1 h2 => e2 k (by omega))
  have d21 := (e2 55 (by omega)).trans b21
  exact lv_icmp_eq (tgt := 749) hx hb d_Law_law_602 (by decide) (fun _ => kk _ _ w2 ⟨_, _, _, _, _, _, _, _, _, _, _, _, _, _, _, _, _, _, _, _, _, ⟨d0, d1, d2, d3, d4, d5, d6, d7, d8, d9, d10, d11, d12, d13, d14, d15, d16, d17, d18, d19, d20, d21⟩, hR⟩ hP hS) (fun hc => absurd (hr1.symm.trans (heq.trans hr2)) hc)
theorem lc_find {p : Program} {l : Launch} {e : Env} {s : State} {m : MethodId} {below : List Frame} {meth : Method} {c : Code} {b L : Nat} {xs : Nat → Int32} {D : va_G} {tt : Nat → ClassId} {ad : Nat → Nat} {A : Nat → Prop} {zs : Nat → Nat} {Q : State → Prop} (X : lw_X p l s m c b L xs D tt A zs) {H : Heap} {locs : List Loc} {cells slots : Nat} (hcs : cells ≤ room_1.cells) (hss : slots ≤ room_1.slots) {ls : Array Slot} {i : Nat} (hi : i + 4 ≤ L) (hl : lv_has ls 7 (lw_ls b ad i)) {w : Nat → va_E} (hI : lw_I 56 tt ad w) (hP : cd_P D ad 56 A w H) (hS : va_S A s.heap H locs) (kk : ∀ (H1 : Heap) (locs1 : List Loc) (w1 : Nat → va_E), lw_I 56 tt ad w1 → cd_P D ad 56 A w1 H1 → va_S A s.heap H1 locs1 → W p l e room_1 s m #[Value.ref b] below meth c H1 locs1 cells slots Q (F0 m 749 ls [])) : W p l e room_1 s m #[Value.ref b] below meth c H locs cells slots Q (F0 m 675 ls []) := by
  obtain ⟨hx, hb, hml, hown, hA, hK, hZ, hX, hbl, hbA, hL, -⟩ := X
  obtain ⟨has, um, ut, uf, up, uc, uh, vm, vt, v, ma, ms, mf, mb, mr, mt, mi, mg, ml, mp, f, ⟨b0, b1, b2, b3, b4, b5, b6, b7, b8, b9, b10, b11, b12, b13, b14, b15, b16, b17, b18, b19, b20, b21⟩, hR⟩ := hI
  obtain ⟨o1, o2, heq, hR⟩ := lr_find hR (xs (i + 1)) (xs (i + 2))
  refine lv_aload_n hx hb d_Law_law_675 rfl (lv_at hl 1 rfl) ?_
  refine lw_arg hx hb hX hbl hbA hS hl hi (k := 1) ⟨by omega, hL⟩ d_Law_law_676 d_Law_law_677 d_Law_law_679 rfl d_Law_law_680 d_Law_law_681 ?_
  refine lw_arg hx hb hX hbl hbA hS hl hi (k := 2) ⟨by omega, hL⟩ d_Law_law_682 d_Law_law_683 d_Law_law_685 rfl d_Law_law_686 d_Law_law_687 ?_
  refine va_calli (va_runV (As := [.int (xs (i + 1)), .int (xs (i + 2))]) (rest := []) ⟨hx, hb, hml, hown, hA⟩ (c_Desk_find l D tt ad 56 A zs w 0 has vm (xs (i + 1)) (xs (i + 2)) b0 b8 o1) (cwV 2 hA (cd_gV aw_354 aw_355 aw_356 aw_1 aw_357) rfl rfl rfl ⟨rfl, by decide, by decide, by decide +kernel⟩ ⟨Nat.le_of_ble_eq_true rfl, Nat.le_of_ble_eq_true rfl⟩) ⟨cd_blind, cd_recv hK hP (k := 0) (by omega) b0.2 rfl, fun U hU hW => ⟨rfl, cd_pre hK hP hZ hS U hU hW⟩⟩ rfl rfl hl.1 rfl (lv_room (Nat.le_of_ble_eq_true rfl)) d_Law_law_688 ⟨hcs, hss⟩) hS (fun _ _ h => h) (fun _ h => h) (fun r1 w1 tE H locs ht hvm hr hP hz1 hk1 hS => ?_)
  have hP := cd_Pf ht hP
  obtain ⟨hr1, rfl⟩ := hr
  refine lv_aload_n hx hb d_Law_law_691 rfl (lv_at hl 2 rfl) ?_
  refine lw_arg hx hb hX hbl hbA hS hl hi (k := 1) ⟨by omega, hL⟩ d_Law_law_692 d_Law_law_693 d_Law_law_695 rfl d_Law_law_696 d_Law_law_697 ?_
  refine lw_arg hx hb hX hbl hbA hS hl hi (k := 2) ⟨by omega, hL⟩ d_Law_law_698 d_Law_law_699 d_Law_law_701 rfl d_Law_law_702 d_Law_law_703 ?_
  refine va_calli (va_runV (As := [.int (xs (i + 1)), .int (xs (i + 2))]) (rest := [.int r1]) ⟨hx, hb, hml, hown, hA⟩ (c_Mo_find l D tt ad 56 A zs _ 44 v ma ms mb mr (xs (i + 1)) (xs (i + 2)) b10 b11 b12 b14 b15 o2) (cwV 2 hA (cd_gV aw_743 aw_744 aw_745 aw_8 aw_746) rfl rfl rfl ⟨rfl, by decide, by decide, by decide +kernel⟩ ⟨Nat.le_of_ble_eq_true rfl, Nat.le_of_ble_eq_true rfl⟩) ⟨cd_blind, cd_recv hK hP (k := 44) (by omega) b10.2 rfl, fun U hU hW => ⟨rfl, cd_pre hK hP hZ hS U hU hW⟩⟩ rfl rfl hl.1 rfl (lv_room (Nat.le_of_ble_eq_true rfl)) d_Law_law_704 ⟨hcs, hss⟩) hS (fun _ _ h => h) (fun _ h => h) (fun r2 w2 tE H locs ht hvm hr hP hz1 hk1 hS => ?_)
  have hP := cd_Pf ht hP
  obtain ⟨hr2, d10, e2⟩ := hr
  have d0 := cd_DeskAt_keep b0 (fun k h1 h2 => e2 k (by omega))
  have d1 := cd_MemAt_keep b1 (fun k h1 h2 => e2 k (by omega))
  have d2 := cd_TtAt_keep b2 (fun k h1 h2 => e2 k (by omega))
  have d3 := cd_RowAt_keep b3 (fun k h1 h2 => e2 k (by omega))
  have d4 := cd_FwAt_keep b4 (fun k h1 h2 => e2 k (by omega))
  have d5 := cd_RowAt_keep b5 (fun k h1 h2 => e2 k (by omega))
  have d6 := cd_TcAt_keep b6 (fun k h1 h2 => e2 k (by omega))
  have d7 := cd_TtAt_keep b7 (fun k h1 h2 => e2 k (by omega))
  have d8 := cd_MemAt_keep b8 (fun k h1 h2 => e2 k (by omega))
  have d9 := cd_TtAt_keep b9 (fun k h1 h2 => e2 k (by omega))
  have d11 := cd_IaAt_keep b11 (fun k h1 h2 => e2 k (by omega))
  have d12 := cd_IaAt_keep b12 (fun k h1 h2 => e2 k (by omega))
  have d13 := cd_IaAt_keep b13 (fun k h1 h2 => e2 k (by omega))
  have d14 := cd_ByAt_keep b14 (fun k h1 h2 => e2 k (by omega))
  have d15 := cd_IaAt_keep b15 (fun k h1 h2 => e2 k (by omega))
  have d16 := cd_IaAt_keep b16 (fun k h1 h2 => e2 k (by omega))
  have d17 := cd_IaAt_keep b17 (fun k h1 h2 => e2 k (by omega))
  have d18 := cd_IaAt_keep b18 (fun k h1 h2 => e2 k (by omega))
  have d19 := cd_ByAt_keep b19 (fun k h1 h2 => e2 k (by omega))
  have d20 := cd_ByAt_keep b20 (fun k h1 h2 => e2 k (by omega))
  have d21 := (e2 55 (by omega)).trans b21
  exact lv_icmp_eq (tgt := 749) hx hb d_Law_law_707 (by decide) (fun _ => kk _ _ w2 ⟨_, _, _, _, _, _, _, _, _, _, _, _, _, _, _, _, _, _, _, _, _, ⟨d0, d1, d2, d3, d4, d5, d6, d7, d8, d9, d10, d11, d12, d13, d14, d15, d16, d17, d18, d19, d20, d21⟩, hR⟩ hP hS) (fun hc => absurd (hr1.symm.trans (heq.trans hr2)) hc)
theorem lc_caller {p : Program} {l : Launch} {e : Env} {s : State} {m : MethodId} {below : List Frame} {meth : Method} {c : Code} {b L : Nat} {xs : Nat → Int32} {D : va_G} {tt : Nat → ClassId} {ad : Nat → Nat} {A : Nat → Prop} {zs : Nat → Nat} {Q : State → Prop} (X : lw_X p l s m c b L xs D tt A zs) {H : Heap} {locs : List Loc} {cells slots : Nat} (hcs : cells ≤ room_1.cells) (hss : slots ≤ room_1.slots) {ls : Array Slot} {i : Nat} (hi : i + 4 ≤ L) (hl : lv_has ls 7 (lw_ls b ad i)) {w : Nat → va_E} (hI : lw_I 56 tt ad w) (hP : cd_P D ad 56 A w H) (hS : va_S A s.heap H locs) (kk : ∀ (H1 : Heap) (locs1 : List Loc) (w1 : Nat → va_E), lw_I 56 tt ad w1 → cd_P D ad 56 A w1 H1 → va_S A s.heap H1 locs1 → W p l e room_1 s m #[Value.ref b] below meth c H1 locs1 cells slots Q (F0 m 749 ls [])) : W p l e room_1 s m #[Value.ref b] below meth c H locs cells slots Q (F0 m 712 ls []) := by
  obtain ⟨hx, hb, hml, hown, hA, hK, hZ, hX, hbl, hbA, hL, -⟩ := X
  obtain ⟨has, um, ut, uf, up, uc, uh, vm, vt, v, ma, ms, mf, mb, mr, mt, mi, mg, ml, mp, f, ⟨b0, b1, b2, b3, b4, b5, b6, b7, b8, b9, b10, b11, b12, b13, b14, b15, b16, b17, b18, b19, b20, b21⟩, hR⟩ := hI
  obtain ⟨o1, o2, heq, hR⟩ := lr_caller hR (xs (i + 1)) (xs (i + 2))
  refine lv_aload_n hx hb d_Law_law_712 rfl (lv_at hl 1 rfl) ?_
  refine lw_arg hx hb hX hbl hbA hS hl hi (k := 1) ⟨by omega, hL⟩ d_Law_law_713 d_Law_law_714 d_Law_law_716 rfl d_Law_law_717 d_Law_law_718 ?_
  refine lw_arg hx hb hX hbl hbA hS hl hi (k := 2) ⟨by omega, hL⟩ d_Law_law_719 d_Law_law_720 d_Law_law_722 rfl d_Law_law_723 d_Law_law_724 ?_
  refine va_calli (va_runV (As := [.int (xs (i + 1)), .int (xs (i + 2))]) (rest := []) ⟨hx, hb, hml, hown, hA⟩ (c_Desk_caller l D tt ad 56 A zs w 0 has vm vt (xs (i + 1)) (xs (i + 2)) b0 b8 b9 o1) (cwV 2 hA (cd_gV aw_369 aw_370 aw_371 aw_1 aw_372) rfl rfl rfl ⟨rfl, by decide, by decide, by decide +kernel⟩ ⟨Nat.le_of_ble_eq_true rfl, Nat.le_of_ble_eq_true rfl⟩) ⟨cd_blind, cd_recv hK hP (k := 0) (by omega) b0.2 rfl, fun U hU hW => ⟨rfl, cd_pre hK hP hZ hS U hU hW⟩⟩ rfl rfl hl.1 rfl (lv_room (Nat.le_of_ble_eq_true rfl)) d_Law_law_725 ⟨hcs, hss⟩) hS (fun _ _ h => h) (fun _ h => h) (fun r1 w1 tE H locs ht hvm hr hP hz1 hk1 hS => ?_)
  have hP := cd_Pf ht hP
  obtain ⟨hr1, rfl⟩ := hr
  refine lv_aload_n hx hb d_Law_law_728 rfl (lv_at hl 2 rfl) ?_
  refine lw_arg hx hb hX hbl hbA hS hl hi (k := 1) ⟨by omega, hL⟩ d_Law_law_729 d_Law_law_730 d_Law_law_732 rfl d_Law_law_733 d_Law_law_734 ?_
  refine lw_arg hx hb hX hbl hbA hS hl hi (k := 2) ⟨by omega, hL⟩ d_Law_law_735 d_Law_law_736 d_Law_law_738 rfl d_Law_law_739 d_Law_law_740 ?_
  refine va_calli (va_runV (As := [.int (xs (i + 1)), .int (xs (i + 2))]) (rest := [.int r1]) ⟨hx, hb, hml, hown, hA⟩ (c_Mo_caller l D tt ad 56 A zs _ 44 v ma ms mb mr mt mg (xs (i + 1)) (xs (i + 2)) b10 b11 b12 b14 b15 b16 b18 o2) (cwV 2 hA (cd_gV aw_751 aw_752 aw_753 aw_8 aw_754) rfl rfl rfl ⟨rfl, by decide, by decide, by decide +kernel⟩ ⟨Nat.le_of_ble_eq_true rfl, Nat.le_of_ble_eq_true rfl⟩) ⟨cd_blind, cd_recv hK hP (k := 44) (by omega) b10.2 rfl, fun U hU hW => ⟨rfl, cd_pre hK hP hZ hS U hU hW⟩⟩ rfl rfl hl.1 rfl (lv_room (Nat.le_of_ble_eq_true rfl)) d_Law_law_741 ⟨hcs, hss⟩) hS (fun _ _ h => h) (fun _ h => h) (fun r2 w2 tE H locs ht hvm hr hP hz1 hk1 hS => ?_)
  have hP := cd_Pf ht hP
  obtain ⟨hr2, d10, e2⟩ := hr
  have d0 := cd_DeskAt_keep b0 (fun k h1 h2 => e2 k (by omega))
  have d1 := cd_MemAt_keep b1 (fun k h1 h2 => e2 k (by omega))
  have d2 := cd_TtAt_keep b2 (fun k h1 h2 => e2 k (by omega))
  have d3 := cd_RowAt_keep b3 (fun k h1 h2 => e2 k (by omega))
  have d4 := cd_FwAt_keep b4 (fun k h1 h2 => e2 k (by omega))
  have d5 := cd_RowAt_keep b5 (fun k h1 h2 => e2 k (by omega))
  have d6 := cd_TcAt_keep b6 (fun k h1 h2 => e2 k (by omega))
  have d7 := cd_TtAt_keep b7 (fun k h1 h2 => e2 k (by omega))
  have d8 := cd_MemAt_keep b8 (fun k h1 h2 => e2 k (by omega))
  have d9 := cd_TtAt_keep b9 (fun k h1 h2 => e2 k (by omega))
  have d11 := cd_IaAt_keep b11 (fun k h1 h2 => e2 k (by omega))
  have d12 := cd_IaAt_keep b12 (fun k h1 h2 => e2 k (by omega))
  have d13 := cd_IaAt_keep b13 (fun k h1 h2 => e2 k (by omega))
  have d14 := cd_ByAt_keep b14 (fun k h1 h2 => e2 k (by omega))
  have d15 := cd_IaAt_keep b15 (fun k h1 h2 => e2 k (by omega))
  have d16 := cd_IaAt_keep b16 (fun k h1 h2 => e2 k (by omega))
  have d17 := cd_IaAt_keep b17 (fun k h1 h2 => e2 k (by omega))
  have d18 := cd_IaAt_keep b18 (fun k h1 h2 => e2 k (by omega))
  have d19 := cd_ByAt_keep b19 (fun k h1 h2 => e2 k (by omega))
  have d20 := cd_ByAt_keep b20 (fun k h1 h2 => e2 k (by omega))
  have d21 := (e2 55 (by omega)).trans b21
  exact lv_icmp_eq (tgt := 749) hx hb d_Law_law_744 (by decide) (fun _ => kk _ _ w2 ⟨_, _, _, _, _, _, _, _, _, _, _, _, _, _, _, _, _, _, _, _, _, ⟨d0, d1, d2, d3, d4, d5, d6, d7, d8, d9, d10, d11, d12, d13, d14, d15, d16, d17, d18, d19, d20, d21⟩, hR⟩ hP hS) (fun hc => absurd (hr1.symm.trans (heq.trans hr2)) hc)
