theorem lc_dump {p : Program} {l : Launch} {e : Env} {s : State} {m : MethodId} {below : List Frame} {meth : Method} {c : Code} {b L : Nat} {xs : Nat → Int32} {D : va_G} {tt : Nat → ClassId} {ad : Nat → Nat} {A : Nat → Prop} {zs : Nat → Nat} {Q : State → Prop} (X : lw_X p l s m c b L xs D tt A zs) {H : Heap} {locs : List Loc} {cells slots : Nat} (hcs : cells ≤ room_1.cells) (hss : slots ≤ room_1.slots) {ls : Array Slot} {i : Nat} (hi : i + 4 ≤ L) (hl : lv_has ls 7 (lw_ls b ad i)) {w : Nat → va_E} (hI : lw_I 56 tt ad w) (hP : cd_P D ad 56 A w H) (hS : va_S A s.heap H locs) (kk : ∀ (H1 : Heap) (locs1 : List Loc) (w1 : Nat → va_E), lw_I 56 tt ad w1 → cd_P D ad 56 A w1 H1 → va_S A s.heap H1 locs1 → W p l e room_1 s m #[Value.ref b] below meth c H1 locs1 cells slots Q (F0 m 749 ls [])) : W p l e room_1 s m #[Value.ref b] below meth c H locs cells slots Q (F0 m 350 ls []) := by
  obtain ⟨hx, hb, hml, hown, hA, hK, hZ, hX, hbl, hbA, hL, -⟩ := X
  obtain ⟨has, um, ut, uf, up, uc, uh, vm, vt, v, ma, ms, mf, mb, mr, mt, mi, mg, ml, mp, f, ⟨b0, b1, b2, b3, b4, b5, b6, b7, b8, b9, b10, b11, b12, b13, b14, b15, b16, b17, b18, b19, b20, b21⟩, hR⟩ := hI
  obtain ⟨o1, o2, heq, hR⟩ := lr_dump hR
  refine lv_aload_n hx hb d_Law_law_350 rfl (lv_at hl 1 rfl) ?_
  refine va_calli (va_runV (As := []) (rest := []) ⟨hx, hb, hml, hown, hA⟩ (c_Desk_dump l D tt ad 56 A zs w 0 has um ut uf b0 b1 b2 b3 b4 o1) (cwV 0 hA (cd_gV aw_207 aw_208 aw_209 aw_1 aw_210) rfl rfl rfl ⟨rfl, by decide, by decide, by decide +kernel⟩ ⟨Nat.le_of_ble_eq_true rfl, Nat.le_of_ble_eq_true rfl⟩) ⟨cd_blind, cd_recv hK hP (k := 0) (by omega) b0.2 rfl, fun U hU hW => ⟨rfl, cd_pre hK hP hZ hS U hU hW⟩⟩ rfl rfl hl.1 rfl (lv_room (Nat.le_of_ble_eq_true rfl)) d_Law_law_351 ⟨hcs, hss⟩) hS (fun _ _ h => h) (fun _ h => h) (fun r1 w1 tE H locs ht hvm hr hP hz1 hk1 hS => ?_)
  have hP := cd_Pf ht hP
  obtain ⟨hr1, c3, e1⟩ := hr
  have c0 := cd_DeskAt_keep b0 (fun k h1 h2 => e1 k (by omega))
  have c1 := cd_MemAt_keep b1 (fun k h1 h2 => e1 k (by omega))
  have c2 := cd_TtAt_keep b2 (fun k h1 h2 => e1 k (by omega))
  have c4 := cd_FwAt_keep b4 (fun k h1 h2 => e1 k (by omega))
  have c5 := cd_RowAt_keep b5 (fun k h1 h2 => e1 k (by omega))
  have c6 := cd_TcAt_keep b6 (fun k h1 h2 => e1 k (by omega))
  have c7 := cd_TtAt_keep b7 (fun k h1 h2 => e1 k (by omega))
  have c8 := cd_MemAt_keep b8 (fun k h1 h2 => e1 k (by omega))
  have c9 := cd_TtAt_keep b9 (fun k h1 h2 => e1 k (by omega))
  have c10 := cd_MoAt_keep b10 (fun k h1 h2 => e1 k (by omega))
  have c11 := cd_IaAt_keep b11 (fun k h1 h2 => e1 k (by omega))
  have c12 := cd_IaAt_keep b12 (fun k h1 h2 => e1 k (by omega))
  have c13 := cd_IaAt_keep b13 (fun k h1 h2 => e1 k (by omega))
  have c14 := cd_ByAt_keep b14 (fun k h1 h2 => e1 k (by omega))
  have c15 := cd_IaAt_keep b15 (fun k h1 h2 => e1 k (by omega))
  have c16 := cd_IaAt_keep b16 (fun k h1 h2 => e1 k (by omega))
  have c17 := cd_IaAt_keep b17 (fun k h1 h2 => e1 k (by omega))
  have c18 := cd_IaAt_keep b18 (fun k h1 h2 => e1 k (by omega))
  have c19 := cd_ByAt_keep b19 (fun k h1 h2 => e1 k (by omega))
  have c20 := cd_ByAt_keep b20 (fun k h1 h2 => e1 k (by omega))
  have c21 := (e1 55 (by omega)).trans b21
  refine lv_aload_n hx hb d_Law_law_354 rfl (lv_at hl 2 rfl) ?_
  refine va_calli (va_runV (As := []) (rest := [.int r1]) ⟨hx, hb, hml, hown, hA⟩ (c_Mo_dump l D tt ad 56 A zs _ 44 (v, ml) ma ms mf mb mr mt mi mg c10 c11 c12 c13 c14 c15 c16 c17 c18 c19 o2) (cwV 0 hA (cd_gV aw_630 aw_631 aw_632 aw_8 aw_633) rfl rfl rfl ⟨rfl, by decide, by decide, by decide +kernel⟩ ⟨Nat.le_of_ble_eq_true rfl, Nat.le_of_ble_eq_true rfl⟩) ⟨cd_blind, cd_recv hK hP (k := 44) (by omega) c10.2 rfl, fun U hU hW => ⟨rfl, cd_pre hK hP hZ hS U hU hW⟩⟩ rfl rfl hl.1 rfl (lv_room (Nat.le_of_ble_eq_true rfl)) d_Law_law_355 ⟨hcs, hss⟩) hS (fun _ _ h => h) (fun _ h => h) (fun r2 w2 tE H locs ht hvm hr hP hz1 hk1 hS => ?_)
  have hP := cd_Pf ht hP
  obtain ⟨hr2, d10, d19, e2⟩ := hr
  have d0 := cd_DeskAt_keep c0 (fun k h1 h2 => e2 k (by omega))
  have d1 := cd_MemAt_keep c1 (fun k h1 h2 => e2 k (by omega))
  have d2 := cd_TtAt_keep c2 (fun k h1 h2 => e2 k (by omega))
  have d3 := cd_RowAt_keep c3 (fun k h1 h2 => e2 k (by omega))
  have d4 := cd_FwAt_keep c4 (fun k h1 h2 => e2 k (by omega))
  have d5 := cd_RowAt_keep c5 (fun k h1 h2 => e2 k (by omega))
  have d6 := cd_TcAt_keep c6 (fun k h1 h2 => e2 k (by omega))
  have d7 := cd_TtAt_keep c7 (fun k h1 h2 => e2 k (by omega))
  have d8 := cd_MemAt_keep c8 (fun k h1 h2 => e2 k (by omega))
  have d9 := cd_TtAt_keep c9 (fun k h1 h2 => e2 k (by omega))
  have d11 := cd_IaAt_keep c11 (fun k h1 h2 => e2 k (by omega))
  have d12 := cd_IaAt_keep c12 (fun k h1 h2 => e2 k (by omega))
  have d13 := cd_IaAt_keep c13 (fun k h1 h2 => e2 k (by omega))
  have d14 := cd_ByAt_keep c14 (fun k h1 h2 => e2 k (by omega))
  have d15 := cd_IaAt_keep c15 (fun k h1 h2 => e2 k (by omega))
  have d16 := cd_IaAt_keep c16 (fun k h1 h2 => e2 k (by omega))
  have d17 := cd_IaAt_keep c17 (fun k h1 h2 => e2 k (by omega))
  have d18 := cd_IaAt_keep c18 (fun k h1 h2 => e2 k (by omega))
  have d20 := cd_ByAt_keep c20 (fun k h1 h2 => e2 k (by omega))
  have d21 := (e2 55 (by omega)).trans c21
  exact lv_icmp_eq (tgt := 749) hx hb d_Law_law_358 (by decide) (fun _ => kk _ _ w2 ⟨_, _, _, _, _, _, _, _, _, _, _, _, _, _, _, _, _, _, _, _, _, ⟨d0, d1, d2, d3, d4, d5, d6, d7, d8, d9, d10, d11, d12, d13, d14, d15, d16, d17, d18, d19, d20, d21⟩, hR⟩ hP hS) (fun hc => absurd (hr1.symm.trans (heq.trans hr2)) hc)
theorem lc_byteAt {p : Program} {l : Launch} {e : Env} {s : State} {m : MethodId} {below : List Frame} {meth : Method} {c : Code} {b L : Nat} {xs : Nat → Int32} {D : va_G} {tt : Nat → ClassId} {ad : Nat → Nat} {A : Nat → Prop} {zs : Nat → Nat} {Q : State → Prop} (X : lw_X p l s m c b L xs D tt A zs) {H : Heap} {locs : List Loc} {cells slots : Nat} (hcs : cells ≤ room_1.cells) (hss : slots ≤ room_1.slots) {ls : Array Slot} {i : Nat} (hi : i + 4 ≤ L) (hl : lv_has ls 7 (lw_ls b ad i)) {w : Nat → va_E} (hI : lw_I 56 tt ad w) (hP : cd_P D ad 56 A w H) (hS : va_S A s.heap H locs) (kk : ∀ (H1 : Heap) (locs1 : List Loc) (w1 : Nat → va_E), lw_I 56 tt ad w1 → cd_P D ad 56 A w1 H1 → va_S A s.heap H1 locs1 → W p l e room_1 s m #[Value.ref b] below meth c H1 locs1 cells slots Q (F0 m 749 ls [])) : W p l e room_1 s m #[Value.ref b] below meth c H locs cells slots Q (F0 m 363 ls []) := by
  obtain ⟨hx, hb, hml, hown, hA, hK, hZ, hX, hbl, hbA, hL, -⟩ := X
  obtain ⟨has, um, ut, uf, up, uc, uh, vm, vt, v, ma, ms, mf, mb, mr, mt, mi, mg, ml, mp, f, ⟨b0, b1, b2, b3, b4, b5, b6, b7, b8, b9, b10, b11, b12, b13, b14, b15, b16, b17, b18, b19, b20, b21⟩, hR⟩ := hI
  obtain ⟨o1, o2, heq, hR⟩ := lr_byteAt hR (xs (i + 1))
  refine lv_aload_n hx hb d_Law_law_363 rfl (lv_at hl 1 rfl) ?_
  refine lw_arg hx hb hX hbl hbA hS hl hi (k := 1) ⟨by omega, hL⟩ d_Law_law_364 d_Law_law_365 d_Law_law_367 rfl d_Law_law_368 d_Law_law_369 ?_
  refine va_calli (va_runV (As := [.int (xs (i + 1))]) (rest := []) ⟨hx, hb, hml, hown, hA⟩ (c_Desk_byteAt l D tt ad 56 A zs w 0 has uf (xs (i + 1)) b0 b3 o1) (cwV 1 hA (cd_gV aw_288 aw_289 aw_290 aw_1 aw_291) rfl rfl rfl ⟨rfl, by decide, by decide, by decide +kernel⟩ ⟨Nat.le_of_ble_eq_true rfl, Nat.le_of_ble_eq_true rfl⟩) ⟨cd_blind, cd_recv hK hP (k := 0) (by omega) b0.2 rfl, fun U hU hW => ⟨rfl, cd_pre hK hP hZ hS U hU hW⟩⟩ rfl rfl hl.1 rfl (lv_room (Nat.le_of_ble_eq_true rfl)) d_Law_law_370 ⟨hcs, hss⟩) hS (fun _ _ h => h) (fun _ h => h) (fun r1 w1 tE H locs ht hvm hr hP hz1 hk1 hS => ?_)
  have hP := cd_Pf ht hP
  obtain ⟨hr1, rfl⟩ := hr
  refine lv_aload_n hx hb d_Law_law_373 rfl (lv_at hl 2 rfl) ?_
  refine lw_arg hx hb hX hbl hbA hS hl hi (k := 1) ⟨by omega, hL⟩ d_Law_law_374 d_Law_law_375 d_Law_law_377 rfl d_Law_law_378 d_Law_law_379 ?_
  refine va_calli (va_runV (As := [.int (xs (i + 1))]) (rest := [.int r1]) ⟨hx, hb, hml, hown, hA⟩ (c_Mo_byteAt l D tt ad 56 A zs _ 44 v ml (xs (i + 1)) b10 b19 o2) (cwV 1 hA (cd_gV aw_655 aw_656 aw_657 aw_8 aw_658) rfl rfl rfl ⟨rfl, by decide, by decide, by decide +kernel⟩ ⟨Nat.le_of_ble_eq_true rfl, Nat.le_of_ble_eq_true rfl⟩) ⟨cd_blind, cd_recv hK hP (k := 44) (by omega) b10.2 rfl, fun U hU hW => ⟨rfl, cd_pre hK hP hZ hS U hU hW⟩⟩ rfl rfl hl.1 rfl (lv_room (Nat.le_of_ble_eq_true rfl)) d_Law_law_380 ⟨hcs, hss⟩) hS (fun _ _ h => h) (fun _ h => h) (fun r2 w2 tE H locs ht hvm hr hP hz1 hk1 hS => ?_)
  have hP := cd_Pf ht hP
  obtain ⟨hr2, d10, e2⟩ := hr
  have d0 := cd_DeskAt_keep b0 (fun k h1 h2 => e2 k (by omega))
  have d1 := cd_MemAt_keep b1 (fun k h1 h2 => e2 k (by omega))
  have d2 := cd_TtAt_keep b2 (fun k h1 h2 => e2 k (by omega))
  have d3 := cd_RowAt_keep b3 (fun k h1 h2 => e2 k (by omega))
  have d4 := cd_FwAt_keep b4 (fun k h1 h2 => e2 k (by omega))
  have d5 := cd_RowAt_keep b5 (fun k h1 h2 => e2 k (by omega))
  have d6 := cd_TcAt_keep b6 (fun k h1 h2 => e2 k (by omega))
  have d7 := cd_TtAt_keep b7 (fun k h1 h2 => e2 k (by omega))
  have d8 := cd_MemAt_keep b8 (fun k h1 h2 => e2 k (by omega))
  have d9 := cd_TtAt_keep b9 (fun k h1 h2 => e2 k (by omega))
  have d11 := cd_IaAt_keep b11 (fun k h1 h2 => e2 k (by omega))
  have d12 := cd_IaAt_keep b12 (fun k h1 h2 => e2 k (by omega))
  have d13 := cd_IaAt_keep b13 (fun k h1 h2 => e2 k (by omega))
  have d14 := cd_ByAt_keep b14 (fun k h1 h2 => e2 k (by omega))
  have d15 := cd_IaAt_keep b15 (fun k h1 h2 => e2 k (by omega))
  have d16 := cd_IaAt_keep b16 (fun k h1 h2 => e2 k (by omega))
  have d17 := cd_IaAt_keep b17 (fun k h1 h2 => e2 k (by omega))
  have d18 := cd_IaAt_keep b18 (fun k h1 h2 => e2 k (by omega))
  have d19 := cd_ByAt_keep b19 (fun k h1 h2 => e2 k (by omega))
  have d20 := cd_ByAt_keep b20 (fun k h1 h2 => e2 k (by omega))
  have d21 := (e2 55 (by omega)).trans b21
  exact lv_icmp_eq (tgt := 749) hx hb d_Law_law_383 (by decide) (fun _ => kk _ _ w2 ⟨_, _, _, _, _, _, _, _, _, _, _, _, _, _, _, _, _, _, _, _, _, ⟨d0, d1, d2, d3, d4, d5, d6, d7, d8, d9, d10, d11, d12, d13, d14, d15, d16, d17, d18, d19, d20, d21⟩, hR⟩ hP hS) (fun hc => absurd (hr1.symm.trans (heq.trans hr2)) hc)
theorem lc_copy {p : Program} {l : Launch} {e : Env} {s : State} {m : MethodId} {below : List Frame} {meth : Method} {c : Code} {b L : Nat} {xs : Nat → Int32} {D : va_G} {tt : Nat → ClassId} {ad : Nat → Nat} {A : Nat → Prop} {zs : Nat → Nat} {Q : State → Prop} (X : lw_X p l s m c b L xs D tt A zs) {H : Heap} {locs : List Loc} {cells slots : Nat} (hcs : cells ≤ room_1.cells) (hss : slots ≤ room_1.slots) {ls : Array Slot} {i : Nat} (hi : i + 4 ≤ L) (hl : lv_has ls 7 (lw_ls b ad i)) {w : Nat → va_E} (hI : lw_I 56 tt ad w) (hP : cd_P D ad 56 A w H) (hS : va_S A s.heap H locs) (kk : ∀ (H1 : Heap) (locs1 : List Loc) (w1 : Nat → va_E), lw_I 56 tt ad w1 → cd_P D ad 56 A w1 H1 → va_S A s.heap H1 locs1 → W p l e room_1 s m #[Value.ref b] below meth c H1 locs1 cells slots Q (F0 m 749 ls [])) : W p l e room_1 s m #[Value.ref b] below meth c H locs cells slots Q (F0 m 388 ls []) := by
  obtain ⟨hx, hb, hml, hown, hA, hK, hZ, hX, hbl, hbA, hL, -⟩ := X
  obtain ⟨has, um, ut, uf, up, uc, uh, vm, vt, v, ma, ms, mf, mb, mr, mt, mi, mg, ml, mp, f, ⟨b0, b1, b2, b3, b4, b5, b6, b7, b8, b9, b10, b11, b12, b13, b14, b15, b16, b17, b18, b19, b20, b21⟩, hR⟩ := hI
  obtain ⟨o1, o2, heq, hR⟩ := lr_copy hR
  refine lv_aload_n hx hb d_Law_law_388 rfl (lv_at hl 1 rfl) ?_
  refine va_calli (va_runV (As := []) (rest := []) ⟨hx, hb, hml, hown, hA⟩ (c_Desk_copy l D tt ad 56 A zs w 0 has uf up b0 b3 b5 o1) (cwV 0 hA (cd_gV aw_296 aw_297 aw_298 aw_1 aw_299) rfl rfl rfl ⟨rfl, by decide, by decide, by decide +kernel⟩ ⟨Nat.le_of_ble_eq_true rfl, Nat.le_of_ble_eq_true rfl⟩) ⟨cd_blind, cd_recv hK hP (k := 0) (by omega) b0.2 rfl, fun U hU hW => ⟨rfl, cd_pre hK hP hZ hS U hU hW⟩⟩ rfl rfl hl.1 rfl (lv_room (Nat.le_of_ble_eq_true rfl)) d_Law_law_389 ⟨hcs, hss⟩) hS (fun _ _ h => h) (fun _ h => h) (fun r1 w1 tE H locs ht hvm hr hP hz1 hk1 hS => ?_)
  have hP := cd_Pf ht hP
  obtain ⟨hr1, c5, e1⟩ := hr
  have c0 := cd_DeskAt_keep b0 (fun k h1 h2 => e1 k (by omega))
  have c1 := cd_MemAt_keep b1 (fun k h1 h2 => e1 k (by omega))
  have c2 := cd_TtAt_keep b2 (fun k h1 h2 => e1 k (by omega))
  have c3 := cd_RowAt_keep b3 (fun k h1 h2 => e1 k (by omega))
  have c4 := cd_FwAt_keep b4 (fun k h1 h2 => e1 k (by omega))
  have c6 := cd_TcAt_keep b6 (fun k h1 h2 => e1 k (by omega))
  have c7 := cd_TtAt_keep b7 (fun k h1 h2 => e1 k (by omega))
  have c8 := cd_MemAt_keep b8 (fun k h1 h2 => e1 k (by omega))
  have c9 := cd_TtAt_keep b9 (fun k h1 h2 => e1 k (by omega))
  have c10 := cd_MoAt_keep b10 (fun k h1 h2 => e1 k (by omega))
  have c11 := cd_IaAt_keep b11 (fun k h1 h2 => e1 k (by omega))
  have c12 := cd_IaAt_keep b12 (fun k h1 h2 => e1 k (by omega))
  have c13 := cd_IaAt_keep b13 (fun k h1 h2 => e1 k (by omega))
  have c14 := cd_ByAt_keep b14 (fun k h1 h2 => e1 k (by omega))
  have c15 := cd_IaAt_keep b15 (fun k h1 h2 => e1 k (by omega))
  have c16 := cd_IaAt_keep b16 (fun k h1 h2 => e1 k (by omega))
  have c17 := cd_IaAt_keep b17 (fun k h1 h2 => e1 k (by omega))
  have c18 := cd_IaAt_keep b18 (fun k h1 h2 => e1 k (by omega))
  have c19 := cd_ByAt_keep b19 (fun k h1 h2 => e1 k (by omega))
  have c20 := cd_ByAt_keep b20 (fun k h1 h2 => e1 k (by omega))
  have c21 := (e1 55 (by omega)).trans b21
  refine lv_aload_n hx hb d_Law_law_392 rfl (lv_at hl 2 rfl) ?_
  refine va_calli (va_runV (As := []) (rest := [.int r1]) ⟨hx, hb, hml, hown, hA⟩ (c_Mo_copy l D tt ad 56 A zs _ 44 (v, mp) ml c10 c19 c20 o2) (cwV 0 hA (cd_gV aw_659 aw_660 aw_661 aw_8 aw_662) rfl rfl rfl ⟨rfl, by decide, by decide, by decide +kernel⟩ ⟨Nat.le_of_ble_eq_true rfl, Nat.le_of_ble_eq_true rfl⟩) ⟨cd_blind, cd_recv hK hP (k := 44) (by omega) c10.2 rfl, fun U hU hW => ⟨rfl, cd_pre hK hP hZ hS U hU hW⟩⟩ rfl rfl hl.1 rfl (lv_room (Nat.le_of_ble_eq_true rfl)) d_Law_law_393 ⟨hcs, hss⟩) hS (fun _ _ h => h) (fun _ h => h) (fun r2 w2 tE H locs ht hvm hr hP hz1 hk1 hS => ?_)
  have hP := cd_Pf ht hP
  obtain ⟨hr2, d10, d20, e2⟩ := hr
  have d0 := cd_DeskAt_keep c0 (fun k h1 h2 => e2 k (by omega))
  have d1 := cd_MemAt_keep c1 (fun k h1 h2 => e2 k (by omega))
  have d2 := cd_TtAt_keep c2 (fun k h1 h2 => e2 k (by omega))
  have d3 := cd_RowAt_keep c3 (fun k h1 h2 => e2 k (by omega))
  have d4 := cd_FwAt_keep c4 (fun k h1 h2 => e2 k (by omega))
  have d5 := cd_RowAt_keep c5 (fun k h1 h2 => e2 k (by omega))
  have d6 := cd_TcAt_keep c6 (fun k h1 h2 => e2 k (by omega))
  have d7 := cd_TtAt_keep c7 (fun k h1 h2 => e2 k (by omega))
  have d8 := cd_MemAt_keep c8 (fun k h1 h2 => e2 k (by omega))
  have d9 := cd_TtAt_keep c9 (fun k h1 h2 => e2 k (by omega))
  have d11 := cd_IaAt_keep c11 (fun k h1 h2 => e2 k (by omega))
  have d12 := cd_IaAt_keep c12 (fun k h1 h2 => e2 k (by omega))
  have d13 := cd_IaAt_keep c13 (fun k h1 h2 => e2 k (by omega))
  have d14 := cd_ByAt_keep c14 (fun k h1 h2 => e2 k (by omega))
  have d15 := cd_IaAt_keep c15 (fun k h1 h2 => e2 k (by omega))
  have d16 := cd_IaAt_keep c16 (fun k h1 h2 => e2 k (by omega))
  have d17 := cd_IaAt_keep c17 (fun k h1 h2 => e2 k (by omega))
  have d18 := cd_IaAt_keep c18 (fun k h1 h2 => e2 k (by omega))
  have d19 := cd_ByAt_keep c19 (fun k h1 h2 => e2 k (by omega))
  have d21 := (e2 55 (by omega)).trans c21
  exact lv_icmp_eq (tgt := 749) hx hb d_Law_law_396 (by decide) (fun _ => kk _ _ w2 ⟨_, _, _, _, _, _, _, _, _, _, _, _, _, _, _, _, _, _, _, _, _, ⟨d0, d1, d2, d3, d4, d5, d6, d7, d8, d9, d10, d11, d12, d13, d14, d15, d16, d17, d18, d19, d20, d21⟩, hR⟩ hP hS) (fun hc => absurd (hr1.symm.trans (heq.trans hr2)) hc)
theorem lc_put {p : Program} {l : Launch} {e : Env} {s : State} {m : MethodId} {below : List Frame} {meth : Method} {c : Code} {b L : Nat} {xs : Nat → Int32} {D : va_G} {tt : Nat → ClassId} {ad : Nat → Nat} {A : Nat → Prop} {zs : Nat → Nat} {Q : State → Prop} (X : lw_X p l s m c b L xs D tt A zs) {H : Heap} {locs : List Loc} {cells slots : Nat} (hcs : cells ≤ room_1.cells) (hss : slots ≤ room_1.slots) {ls : Array Slot} {i : Nat} (hi : i + 4 ≤ L) (hl : lv_has ls 7 (lw_ls b ad i)) {w : Nat → va_E} (hI : lw_I 56 tt ad w) (hP : cd_P D ad 56 A w H) (hS : va_S A s.heap H locs) (kk : ∀ (H1 : Heap) (locs1 : List Loc) (w1 : Nat → va_E), lw_I 56 tt ad w1 → cd_P D ad 56 A w1 H1 → va_S A s.heap H1 locs1 → W p l e room_1 s m #[Value.ref b] below meth c H1 locs1 cells slots Q (F0 m 749 ls [])) : W p l e room_1 s m #[Value.ref b] below meth c H locs cells slots Q (F0 m 401 ls []) := by
  obtain ⟨hx, hb, hml, hown, hA, hK, hZ, hX, hbl, hbA, hL, -⟩ := X
  obtain ⟨has, um, ut, uf, up, uc, uh, vm, vt, v, ma, ms, mf, mb, mr, mt, mi, mg, ml, mp, f, ⟨b0, b1, b2, b3, b4, b5, b6, b7, b8, b9, b10, b11, b12, b13, b14, b15, b16, b17, b18, b19, b20, b21⟩, hR⟩ := hI
  obtain ⟨o1, o2, heq, hR⟩ := lr_put hR (xs (i + 1)) (xs (i + 2))
  refine lv_aload_n hx hb d_Law_law_401 rfl (lv_at hl 1 rfl) ?_
  refine lw_arg hx hb hX hbl hbA hS hl hi (k := 1) ⟨by omega, hL⟩ d_Law_law_402 d_Law_law_403 d_Law_law_405 rfl d_Law_law_406 d_Law_law_407 ?_
  refine lw_arg hx hb hX hbl hbA hS hl hi (k := 2) ⟨by omega, hL⟩ d_Law_law_408 d_Law_law_409 d_Law_law_411 rfl d_Law_law_412 d_Law_law_413 ?_
  refine va_calli (va_runV (As := [.int (xs (i + 1)), .int (xs (i + 2))]) (rest := []) ⟨hx, hb, hml, hown, hA⟩ (c_Desk_put l D tt ad 56 A zs w 0 has up (xs (i + 1)) (xs (i + 2)) b0 b5 o1) (cwV 2 hA (cd_gV aw_305 aw_306 aw_307 aw_1 aw_308) rfl rfl rfl ⟨rfl, by decide, by decide, by decide +kernel⟩ ⟨Nat.le_of_ble_eq_true rfl, Nat.le_of_ble_eq_true rfl⟩) ⟨cd_blind, cd_recv hK hP (k := 0) (by omega) b0.2 rfl, fun U hU hW => ⟨rfl, cd_pre hK hP hZ hS U hU hW⟩⟩ rfl rfl hl.1 rfl (lv_room (Nat.le_of_ble_eq_true rfl)) d_Law_law_414 ⟨hcs, hss⟩) hS (fun _ _ h => h) (fun _ h => h) (fun r1 w1 tE H locs ht hvm hr hP hz1 hk1 hS => ?_)
  have hP := cd_Pf ht hP
  obtain ⟨hr1, -, c5, e1⟩ := hr
  have c0 := cd_DeskAt_keep b0 (fun k h1 h2 => e1 k (by omega))
  have c1 := cd_MemAt_keep b1 (fun k h1 h2 => e1 k (by omega))
  have c2 := cd_TtAt_keep b2 (fun k h1 h2 => e1 k (by omega))
  have c3 := cd_RowAt_keep b3 (fun k h1 h2 => e1 k (by omega))
  have c4 := cd_FwAt_keep b4 (fun k h1 h2 => e1 k (by omega))
  have c6 := cd_TcAt_keep b6 (fun k h1 h2 => e1 k (by omega))
  have c7 := cd_TtAt_keep b7 (fun k h1 h2 => e1 k (by omega))
  have c8 := cd_MemAt_keep b8 (fun k h1 h2 => e1 k (by omega))
  have c9 := cd_TtAt_keep b9 (fun k h1 h2 => e1 k (by omega))
  have c10 := cd_MoAt_keep b10 (fun k h1 h2 => e1 k (by omega))
  have c11 := cd_IaAt_keep b11 (fun k h1 h2 => e1 k (by omega))
  have c12 := cd_IaAt_keep b12 (fun k h1 h2 => e1 k (by omega))
  have c13 := cd_IaAt_keep b13 (fun k h1 h2 => e1 k (by omega))
  have c14 := cd_ByAt_keep b14 (fun k h1 h2 => e1 k (by omega))
  have c15 := cd_IaAt_keep b15 (fun k h1 h2 => e1 k (by omega))
  have c16 := cd_IaAt_keep b16 (fun k h1 h2 => e1 k (by omega))
  have c17 := cd_IaAt_keep b17 (fun k h1 h2 => e1 k (by omega))
  have c18 := cd_IaAt_keep b18 (fun k h1 h2 => e1 k (by omega))
  have c19 := cd_ByAt_keep b19 (fun k h1 h2 => e1 k (by omega))
  have c20 := cd_ByAt_keep b20 (fun k h1 h2 => e1 k (by omega))
  have c21 := (e1 55 (by omega)).trans b21
  refine lv_aload_n hx hb d_Law_law_417 rfl (lv_at hl 2 rfl) ?_
  refine lw_arg hx hb hX hbl hbA hS hl hi (k := 1) ⟨by omega, hL⟩ d_Law_law_418 d_Law_law_419 d_Law_law_421 rfl d_Law_law_422 d_Law_law_423 ?_
  refine lw_arg hx hb hX hbl hbA hS hl hi (k := 2) ⟨by omega, hL⟩ d_Law_law_424 d_Law_law_425 d_Law_law_427 rfl d_Law_law_428 d_Law_law_429 ?_
  refine va_calli (va_runV (As := [.int (xs (i + 1)), .int (xs (i + 2))]) (rest := [.int r1]) ⟨hx, hb, hml, hown, hA⟩ (c_Mo_put l D tt ad 56 A zs _ 44 (v, mp)  (xs (i + 1)) (xs (i + 2)) c10 c20 o2) (cwV 2 hA (cd_gV aw_663 aw_664 aw_665 aw_8 aw_666) rfl rfl rfl ⟨rfl, by decide, by decide, by decide +kernel⟩ ⟨Nat.le_of_ble_eq_true rfl, Nat.le_of_ble_eq_true rfl⟩) ⟨cd_blind, cd_recv hK hP (k := 44) (by omega) c10.2 rfl, fun U hU hW => ⟨rfl, cd_pre hK hP hZ hS U hU hW⟩⟩ rfl rfl hl.1 rfl (lv_room (Nat.le_of_ble_eq_true rfl)) d_Law_law_430 ⟨hcs, hss⟩) hS (fun _ _ h => h) (fun _ h => h) (fun r2 w2 tE H locs ht hvm hr hP hz1 hk1 hS => ?_)
  have hP := cd_Pf ht hP
  obtain ⟨hr2, -, d10, d20, e2⟩ := hr
  have d0 := cd_DeskAt_keep c0 (fun k h1 h2 => e2 k (by omega))
  have d1 := cd_MemAt_keep c1 (fun k h1 h2 => e2 k (by omega))
  have d2 := cd_TtAt_keep c2 (fun k h1 h2 => e2 k (by omega))
  have d3 := cd_RowAt_keep c3 (fun k h1 h2 => e2 k (by omega))
  have d4 := cd_FwAt_keep c4 (fun k h1 h2 => e2 k (by omega))
  have d5 := cd_RowAt_keep c5 (fun k h1 h2 => e2 k (by omega))
  have d6 := cd_TcAt_keep c6 (fun k h1 h2 => e2 k (by omega))
  have d7 := cd_TtAt_keep c7 (fun k h1 h2 => e2 k (by omega))
  have d8 := cd_MemAt_keep c8 (fun k h1 h2 => e2 k (by omega))
  have d9 := cd_TtAt_keep c9 (fun k h1 h2 => e2 k (by omega))
  have d11 := cd_IaAt_keep c11 (fun k h1 h2 => e2 k (by omega))
  have d12 := cd_IaAt_keep c12 (fun k h1 h2 => e2 k (by omega))
  have d13 := cd_IaAt_keep c13 (fun k h1 h2 => e2 k (by omega))
  have d14 := cd_ByAt_keep c14 (fun k h1 h2 => e2 k (by omega))
  have d15 := cd_IaAt_keep c15 (fun k h1 h2 => e2 k (by omega))
  have d16 := cd_IaAt_keep c16 (fun k h1 h2 => e2 k (by omega))
  have d17 := cd_IaAt_keep c17 (fun k h1 h2 => e2 k (by omega))
  have d18 := cd_IaAt_keep c18 (fun k h1 h2 => e2 k (by omega))
  have d19 := cd_ByAt_keep c19 (fun k h1 h2 => e2 k (by omega))
  have d21 := (e2 55 (by omega)).trans c21
  exact lv_icmp_eq (tgt := 749) hx hb d_Law_law_433 (by decide) (fun _ => kk _ _ w2 ⟨_, _, _, _, _, _, _, _, _, _, _, _, _, _, _, _, _, _, _, _, _, ⟨d0, d1, d2, d3, d4, d5, d6, d7, d8, d9, d10, d11, d12, d13, d14, d15, d16, d17, d18, d19, d20, d21⟩, hR⟩ hP hS) (fun hc => absurd (hr1.symm.trans (heq.trans hr2)) hc)
theorem lc_cut {p : Program} {l : Launch} {e : Env} {s : State} {m : MethodId} {below : List Frame} {meth : Method} {c : Code} {b L : Nat} {xs : Nat → Int32} {D : va_G} {tt : Nat → ClassId} {ad : Nat → Nat} {A : Nat → Prop} {zs : Nat → Nat} {Q : State → Prop} (X : lw_X p l s m c b L xs D tt A zs) {H : Heap} {locs : List Loc} {cells slots : Nat} (hcs : cells ≤ room_1.cells) (hss : slots ≤ room_1.slots) {ls : Array Slot} {i : Nat} (hi : i + 4 ≤ L) (hl : lv_has ls 7 (lw_ls b ad i)) {w : Nat → va_E} (hI : lw_I 56 tt ad w) (hP : cd_P D ad 56 A w H) (hS : va_S A s.heap H locs) (kk : ∀ (H1 : Heap) (locs1 : List Loc) (w1 : Nat → va_E), lw_I 56 tt ad w1 → cd_P D ad 56 A w1 H1 → va_S A s.heap H1 locs1 → W p l e room_1 s m #[Value.ref b] below meth c H1 locs1 cells slots Q (F0 m 749 ls [])) : W p l e room_1 s m #[Value.ref b] below meth c H locs cells slots Q (F0 m 438 ls []) := by
  obtain ⟨hx, hb, hml, hown, hA, hK, hZ, hX, hbl, hbA, hL, -⟩ := X
  obtain ⟨has, um, ut, uf, up, uc, uh, vm, vt, v, ma, ms, mf, mb, mr, mt, mi, mg, ml, mp, f, ⟨b0, b1, b2, b3, b4, b5, b6, b7, b8, b9, b10, b11, b12, b13, b14, b15, b16, b17, b18, b19, b20, b21⟩, hR⟩ := hI
  obtain ⟨heq, hR⟩ := lr_cut hR (xs (i + 1))
  refine lv_aload_n hx hb d_Law_law_438 rfl (lv_at hl 1 rfl) ?_
  refine lw_arg hx hb hX hbl hbA hS hl hi (k := 1) ⟨by omega, hL⟩ d_Law_law_439 d_Law_law_440 d_Law_law_442 rfl d_Law_law_443 d_Law_law_444 ?_
  refine va_calli (va_runV (As := [.int (xs (i + 1))]) (rest := []) ⟨hx, hb, hml, hown, hA⟩ (c_Desk_cut l D tt ad 56 A zs w 0 has up (xs (i + 1)) b0 b5) (cwV 1 hA (cd_gV aw_314 aw_315 aw_316 aw_1 aw_317) rfl rfl rfl ⟨rfl, by decide, by decide, by decide +kernel⟩ ⟨Nat.le_of_ble_eq_true rfl, Nat.le_of_ble_eq_true rfl⟩) ⟨cd_blind, cd_recv hK hP (k := 0) (by omega) b0.2 rfl, fun U hU hW => ⟨rfl, cd_pre hK hP hZ hS U hU hW⟩⟩ rfl rfl hl.1 rfl (lv_room (Nat.le_of_ble_eq_true rfl)) d_Law_law_445 ⟨hcs, hss⟩) hS (fun _ _ h => h) (fun _ h => h) (fun r1 w1 tE H locs ht hvm hr hP hz1 hk1 hS => ?_)
  have hP := cd_Pf ht hP
  obtain ⟨hr1, -, c5, e1⟩ := hr
  have c0 := cd_DeskAt_keep b0 (fun k h1 h2 => e1 k (by omega))
  have c1 := cd_MemAt_keep b1 (fun k h1 h2 => e1 k (by omega))
  have c2 := cd_TtAt_keep b2 (fun k h1 h2 => e1 k (by omega))
  have c3 := cd_RowAt_keep b3 (fun k h1 h2 => e1 k (by omega))
  have c4 := cd_FwAt_keep b4 (fun k h1 h2 => e1 k (by omega))
  have c6 := cd_TcAt_keep b6 (fun k h1 h2 => e1 k (by omega))
  have c7 := cd_TtAt_keep b7 (fun k h1 h2 => e1 k (by omega))
  have c8 := cd_MemAt_keep b8 (fun k h1 h2 => e1 k (by omega))
  have c9 := cd_TtAt_keep b9 (fun k h1 h2 => e1 k (by omega))
  have c10 := cd_MoAt_keep b10 (fun k h1 h2 => e1 k (by omega))
  have c11 := cd_IaAt_keep b11 (fun k h1 h2 => e1 k (by omega))
  have c12 := cd_IaAt_keep b12 (fun k h1 h2 => e1 k (by omega))
  have c13 := cd_IaAt_keep b13 (fun k h1 h2 => e1 k (by omega))
  have c14 := cd_ByAt_keep b14 (fun k h1 h2 => e1 k (by omega))
  have c15 := cd_IaAt_keep b15 (fun k h1 h2 => e1 k (by omega))
  have c16 := cd_IaAt_keep b16 (fun k h1 h2 => e1 k (by omega))
  have c17 := cd_IaAt_keep b17 (fun k h1 h2 => e1 k (by omega))
  have c18 := cd_IaAt_keep b18 (fun k h1 h2 => e1 k (by omega))
  have c19 := cd_ByAt_keep b19 (fun k h1 h2 => e1 k (by omega))
  have c20 := cd_ByAt_keep b20 (fun k h1 h2 => e1 k (by omega))
  have c21 := (e1 55 (by omega)).trans b21
  refine lv_aload_n hx hb d_Law_law_448 rfl (lv_at hl 2 rfl) ?_
  refine lw_arg hx hb hX hbl hbA hS hl hi (k := 1) ⟨by omega, hL⟩ d_Law_law_449 d_Law_law_450 d_Law_law_452 rfl d_Law_law_453 d_Law_law_454 ?_
  refine va_calli (va_runV (As := [.int (xs (i + 1))]) (rest := [.int r1]) ⟨hx, hb, hml, hown, hA⟩ (c_Mo_cut l D tt ad 56 A zs _ 44 v (xs (i + 1)) c10) (cwV 1 hA (cd_gV aw_667 aw_668 aw_669 aw_8 aw_670) rfl rfl rfl ⟨rfl, by decide, by decide, by decide +kernel⟩ ⟨Nat.le_of_ble_eq_true rfl, Nat.le_of_ble_eq_true rfl⟩) ⟨cd_blind, cd_recv hK hP (k := 44) (by omega) c10.2 rfl, fun U hU hW => ⟨rfl, cd_pre hK hP hZ hS U hU hW⟩⟩ rfl rfl hl.1 rfl (lv_room (Nat.le_of_ble_eq_true rfl)) d_Law_law_455 ⟨hcs, hss⟩) hS (fun _ _ h => h) (fun _ h => h) (fun r2 w2 tE H locs ht hvm hr hP hz1 hk1 hS => ?_)
  have hP := cd_Pf ht hP
  obtain ⟨hr2, -, d10, e2⟩ := hr
  have d0 := cd_DeskAt_keep c0 (fun k h1 h2 => e2 k (by omega))
  have d1 := cd_MemAt_keep c1 (fun k h1 h2 => e2 k (by omega))
  have d2 := cd_TtAt_keep c2 (fun k h1 h2 => e2 k (by omega))
  have d3 := cd_RowAt_keep c3 (fun k h1 h2 => e2 k (by omega))
  have d4 := cd_FwAt_keep c4 (fun k h1 h2 => e2 k (by omega))
  have d5 := cd_RowAt_keep c5 (fun k h1 h2 => e2 k (by omega))
  have d6 := cd_TcAt_keep c6 (fun k h1 h2 => e2 k (by omega))
  have d7 := cd_TtAt_keep c7 (fun k h1 h2 => e2 k (by omega))
  have d8 := cd_MemAt_keep c8 (fun k h1 h2 => e2 k (by omega))
  have d9 := cd_TtAt_keep c9 (fun k h1 h2 => e2 k (by omega))
  have d11 := cd_IaAt_keep c11 (fun k h1 h2 => e2 k (by omega))
  have d12 := cd_IaAt_keep c12 (fun k h1 h2 => e2 k (by omega))
  have d13 := cd_IaAt_keep c13 (fun k h1 h2 => e2 k (by omega))
  have d14 := cd_ByAt_keep c14 (fun k h1 h2 => e2 k (by omega))
  have d15 := cd_IaAt_keep c15 (fun k h1 h2 => e2 k (by omega))
  have d16 := cd_IaAt_keep c16 (fun k h1 h2 => e2 k (by omega))
  have d17 := cd_IaAt_keep c17 (fun k h1 h2 => e2 k (by omega))
  have d18 := cd_IaAt_keep c18 (fun k h1 h2 => e2 k (by omega))
  have d19 := cd_ByAt_keep c19 (fun k h1 h2 => e2 k (by omega))
  have d20 := cd_ByAt_keep c20 (fun k h1 h2 => e2 k (by omega))
  have d21 := (e2 55 (by omega)).trans c21
  exact lv_icmp_eq (tgt := 749) hx hb d_Law_law_458 (by decide) (fun _ => kk _ _ w2 ⟨_, _, _, _, _, _, _, _, _, _, _, _, _, _, _, _, _, _, _, _, _, ⟨d0, d1, d2, d3, d4, d5, d6, d7, d8, d9, d10, d11, d12, d13, d14, d15, d16, d17, d18, d19, d20, d21⟩, hR⟩ hP hS) (fun hc => absurd (hr1.symm.trans (heq.trans hr2)) hc)
theorem lc_error {p : Program} {l : Launch} {e : Env} {s : State} {m : MethodId} {below : List Frame} {meth : Method} {c : Code} {b L : Nat} {xs : Nat → Int32} {D : va_G} {tt : Nat → ClassId} {ad : Nat → Nat} {A : Nat → Prop} {zs : Nat → Nat} {Q : State → Prop} (X : lw_X p l s m c b L xs D tt A zs) {H : Heap} {locs : List Loc} {cells slots : Nat} (hcs : cells ≤ room_1.cells) (hss : slots ≤ room_1.slots) {ls : Array Slot} {i : Nat} (hi : i + 4 ≤ L) (hl : lv_has ls 7 (lw_ls b ad i)) {w : Nat → va_E} (hI : lw_I 56 tt ad w) (hP : cd_P D ad 56 A w H) (hS : va_S A s.heap H locs) (kk : ∀ (H1 : Heap) (locs1 : List Loc) (w1 : Nat → va_E), lw_I 56 tt ad w1 → cd_P D ad 56 A w1 H1 → va_S A s.heap H1 locs1 → W p l e room_1 s m #[Value.ref b] below meth c H1 locs1 cells slots Q (F0 m 749 ls [])) : W p l e room_1 s m #[Value.ref b] below meth c H locs cells slots Q (F0 m 507 ls []) := by
  obtain ⟨hx, hb, hml, hown, hA, hK, hZ, hX, hbl, hbA, hL, -⟩ := X
  obtain ⟨has, um, ut, uf, up, uc, uh, vm, vt, v, ma, ms, mf, mb, mr, mt, mi, mg, ml, mp, f, ⟨b0, b1, b2, b3, b4, b5, b6, b7, b8, b9, b10, b11, b12, b13, b14, b15, b16, b17, b18, b19, b20, b21⟩, hR⟩ := hI
  obtain ⟨heq, hR⟩ := lr_error hR (xs (i + 1))
  refine lv_aload_n hx hb d_Law_law_507 rfl (lv_at hl 1 rfl) ?_
  refine lw_arg hx hb hX hbl hbA hS hl hi (k := 1) ⟨by omega, hL⟩ d_Law_law_508 d_Law_law_509 d_Law_law_511 rfl d_Law_law_512 d_Law_law_513 ?_
  refine va_calli (va_runV (As := [.int (xs (i + 1))]) (rest := []) ⟨hx, hb, hml, hown, hA⟩ (c_Desk_error l D tt ad 56 A zs w 0 has uc (xs (i + 1)) b0 b6) (cwV 1 hA (cd_gV aw_319 aw_320 aw_321 aw_1 aw_322) rfl rfl rfl ⟨rfl, by decide, by decide, by decide +kernel⟩ ⟨Nat.le_of_ble_eq_true rfl, Nat.le_of_ble_eq_true rfl⟩) ⟨cd_blind, cd_recv hK hP (k := 0) (by omega) b0.2 rfl, fun U hU hW => ⟨rfl, cd_pre hK hP hZ hS U hU hW⟩⟩ rfl rfl hl.1 rfl (lv_room (Nat.le_of_ble_eq_true rfl)) d_Law_law_514 ⟨hcs, hss⟩) hS (fun _ _ h => h) (fun _ h => h) (fun r1 w1 tE H locs ht hvm hr hP hz1 hk1 hS => ?_)
  have hP := cd_Pf ht hP
  obtain ⟨hr1, rfl⟩ := hr
  refine lv_aload_n hx hb d_Law_law_517 rfl (lv_at hl 2 rfl) ?_
  refine lw_arg hx hb hX hbl hbA hS hl hi (k := 1) ⟨by omega, hL⟩ d_Law_law_518 d_Law_law_519 d_Law_law_521 rfl d_Law_law_522 d_Law_law_523 ?_
  refine va_calli (va_runV (As := [.int (xs (i + 1))]) (rest := [.int r1]) ⟨hx, hb, hml, hown, hA⟩ (c_Mo_error l D tt ad 56 A zs _ 44 v (xs (i + 1)) b10) (cwV 1 hA (cd_gV aw_720 aw_721 aw_722 aw_8 aw_723) rfl rfl rfl ⟨rfl, by decide, by decide, by decide +kernel⟩ ⟨Nat.le_of_ble_eq_true rfl, Nat.le_of_ble_eq_true rfl⟩) ⟨cd_blind, cd_recv hK hP (k := 44) (by omega) b10.2 rfl, fun U hU hW => ⟨rfl, cd_pre hK hP hZ hS U hU hW⟩⟩ rfl rfl hl.1 rfl (lv_room (Nat.le_of_ble_eq_true rfl)) d_Law_law_524 ⟨hcs, hss⟩) hS (fun _ _ h => h) (fun _ h => h) (fun r2 w2 tE H locs ht hvm hr hP hz1 hk1 hS => ?_)
  have hP := cd_Pf ht hP
  obtain ⟨hr2, d10, e2⟩ := hr
  have d0 := cd_DeskAt_keep b0 (fun k h1 h2 => e2 k (by omega))
  have d1 := cd_MemAt_keep b1 (fun k h1 h2 => e2 k (by omega))
  have d2 := cd_TtAt_keep b2 (fun k h1 h2 => e2 k (by omega))
  have d3 := cd_RowAt_keep b3 (fun k h1 h2 => e2 k (by omega))
  have d4 := cd_FwAt_keep b4 (fun k h1 h2 => e2 k (by omega))
  have d5 := cd_RowAt_keep b5 (fun k h1 h2 => e2 k (by omega))
  have d6 := cd_TcAt_keep b6 (fun k h1 h2 => e2 k (by omega))
  have d7 := cd_TtAt_keep b7 (fun k h1 h2 => e2 k (by omega))
  have d8 := cd_MemAt_keep b8 (fun k h1 h2 => e2 k (by omega))
  have d9 := cd_TtAt_keep b9 (fun k h1 h2 => e2 k (by omega))
  have d11 := cd_IaAt_keep b11 (fun k h1 h2 => e2 k (by omega))
  have d12 := cd_IaAt_keep b12 (fun k h1 h2 => e2 k (by omega))
  have d13 := cd_IaAt_keep b13 (fun k h1 h2 => e2 k (by omega))
  have d14 := cd_ByAt_keep b14 (fun k h1 h2 => e2 k (by omega))
  have d15 := cd_IaAt_keep b15 (fun k h1 h2 => e2 k (by omega))
  have d16 := cd_IaAt_keep b16 (fun k h1 h2 => e2 k (by omega))
  have d17 := cd_IaAt_keep b17 (fun k h1 h2 => e2 k (by omega))
  have d18 := cd_IaAt_keep b18 (fun k h1 h2 => e2 k (by omega))
  have d19 := cd_ByAt_keep b19 (fun k h1 h2 => e2 k (by omega))
  have d20 := cd_ByAt_keep b20 (fun k h1 h2 => e2 k (by omega))
  have d21 := (e2 55 (by omega)).trans b21
  exact lv_icmp_eq (tgt := 749) hx hb d_Law_law_527 (by decide) (fun _ => kk _ _ w2 ⟨_, _, _, _, _, _, _, _, _, _, _, _, _, _, _, _, _, _, _, _, _, ⟨d0, d1, d2, d3, d4, d5, d6, d7, d8, d9, d10, d11, d12, d13, d14, d15, d16, d17, d18, d19, d20, d21⟩, hR⟩ hP hS) (fun hc => absurd (hr1.symm.trans (heq.trans hr2)) hc)
