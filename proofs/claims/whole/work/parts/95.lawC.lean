theorem lw_ws {s : State} {args : Array Value} {y : MethodName} {bb : ByteArray} {n : Nat} {rt : Option FieldType} {hh : List (Nat × Nat × Nat × Nat)} (hA : ∀ w ∈ cd_AW, w.before args s = true) (hc : (Cond.codeWith y bb n rt hh).before args s = true) : ∀ w ∈ (Cond.codeWith y bb n rt hh :: cd_AW), ∀ (a' : Array Value) (U : State), s.WarmedH U.vm → w.before a' U = true := by
  intro w hw a' U hW
  rcases List.mem_cons.mp hw with rfl | h
  · exact word_at hW (Or.inl rfl) hc
  · exact word_at hW (cd_AW_ok w h) (hA w h)
theorem lw_cmp0 (x : Int64) : lg_cmp x x = 0 := by
  have h1 := (cd_cmp_le x x).mpr (by simp [Int64.le_iff_toInt_le])
  have h2 := (cd_cmp_ge x x).mpr (by simp [Int64.le_iff_toInt_le])
  exact Int32.le_antisymm h1 h2
theorem lc_load {p : Program} {l : Launch} {e : Env} {s : State} {m : MethodId} {below : List Frame} {meth : Method} {c : Code} {b L : Nat} {xs : Nat → Int32} {D : va_G} {tt : Nat → ClassId} {ad : Nat → Nat} {A : Nat → Prop} {zs : Nat → Nat} {Q : State → Prop} (X : lw_X p l s m c b L xs D tt A zs) {H : Heap} {locs : List Loc} {cells slots : Nat} (hcs : cells + 1 ≤ room_1.cells) (hss : slots + 6 ≤ room_1.slots) {ls : Array Slot} {i : Nat} (hi : i + 4 ≤ L) (hl : lv_has ls 7 (lw_ls b ad i)) {w : Nat → va_E} (hI : lw_I 56 tt ad w) (hP : cd_P D ad 56 A w H) (hS : va_S A s.heap H locs) (kk : ∀ (H1 : Heap) (locs1 : List Loc) (w1 : Nat → va_E) (ls1 : Array Slot), lv_has ls1 7 (lw_ls b ad i) → lw_I 56 tt ad w1 → cd_P D ad 56 A w1 H1 → va_S A s.heap H1 locs1 → W p l e room_1 s m #[Value.ref b] below meth c H1 locs1 (cells + 1) (slots + 6) Q (F0 m 749 ls1 [])) : W p l e room_1 s m #[Value.ref b] below meth c H locs cells slots Q (F0 m 463 ls []) := by
  obtain ⟨hx, hb, hml, hown, hA, hK, hZ, hX, hbl, hbA, hL, hY, hfl, hcw1, hcw2⟩ := X
  obtain ⟨has, um, ut, uf, up, uc, uh, vm, vt, v, ma, ms, mf, mb, mr, mt, mi, mg, ml, mp, f, ⟨b0, b1, b2, b3, b4, b5, b6, b7, b8, b9, b10, b11, b12, b13, b14, b15, b16, b17, b18, b19, b20, b21⟩, hR⟩ := hI
  have h0c : cells + 0 ≤ room_1.cells := Nat.le_of_succ_le hcs
  have h0s : slots + 0 ≤ room_1.slots := Nat.le_trans (Nat.le_add_right _ _) hss
  obtain ⟨o1, o2, hor⟩ := lr_load hR uh
  refine lv_aload_n hx hb d_Law_law_463 rfl (lv_at hl 1 rfl) ?_
  refine lv_aload_n hx hb d_Law_law_464 rfl (lv_at hl 3 rfl) ?_
  rcases hor with ⟨uc', uh', q1, hth, hRn⟩ | ⟨uc', uh', vm', vt', q1, q2, q3, hans, hth, hRn⟩
  · refine va_calli (tw_runS (n := 2) (As := [.ref (ad 0), .ref (ad 55)]) (rest := []) (hh := _) ⟨hx, hb, hml, hown, hA⟩ (h_load_no l hfl D tt ad 56 A zs w 0 55 has up uc uc' uh uh' b0 b5 b6 b7 o1 q1) rfl rfl (Nat.le_of_ble_eq_true rfl) (Nat.le_of_ble_eq_true rfl) (lw_ws hA hcw1) List.mem_cons_self hcw1 (hA _ aw_0) ⟨by decide, by decide⟩ (by decide +kernel) (hA _ aw_384) (hA _ aw_385) ⟨tw_blind, fun U hU hW => ⟨rfl, tw_pre hK hP hZ hY hS U hU hW⟩⟩ rfl rfl hl.1 rfl (lv_room (Nat.le_of_ble_eq_true rfl)) d_Law_law_465 ⟨hcs, hss⟩) hS (fun _ _ h => h) (fun _ h => h) (fun r1 w1 tE H locs ht hvm hr hP hz1 hk1 hS => ?_)
    have hP := cd_Pf ht hP
    obtain ⟨rfl, c6, c7, e1⟩ := hr
    have c0 := cd_DeskAt_keep b0 (fun k h1 h2 => e1 k (by omega))
    have c1 := cd_MemAt_keep b1 (fun k h1 h2 => e1 k (by omega))
    have c2 := cd_TtAt_keep b2 (fun k h1 h2 => e1 k (by omega))
    have c3 := cd_RowAt_keep b3 (fun k h1 h2 => e1 k (by omega))
    have c4 := cd_FwAt_keep b4 (fun k h1 h2 => e1 k (by omega))
    have c5 := cd_RowAt_keep b5 (fun k h1 h2 => e1 k (by omega))
    have c8 := cd_MemAt_keep b8 (fun k h1 h2 => e1 k (by omega))
    have c9 := cd_TtAt_keep b9 (fun k h1 h2 => e1 k (by omega))
    have c10 := cd_MoAt_keep b10 (fun k h1 h2 => e1 k (by omega))
    have c11 := cd_IaAt_keep b11 (fun k h1 h2 => e1 k (by omega))
    have c12 := cd_IaAt_keep b12 (fun k h1 h2 => e1 k (by omega))
    have c13 := cd_IaAt_keep b13 (fun k h1 h2 => e1 k (by omega))
    have c14 := cd_ByAt_keep b14 (fun k h1 h2 => e1 k (by omega))
    have c15 := cd_IaAt_keep b15 (fun k h1 h2 => e1 k (by omega))
    have c16 := cd_IaAt_keep b16 (fun k h1 h2 => e1 k (by omega))
    have c17 := cd_IaAt_keep b17 (fun k h1 h2 => e1 k (by omega))
    have c18 := cd_IaAt_keep b18 (fun k h1 h2 => e1 k (by omega))
    have c19 := cd_ByAt_keep b19 (fun k h1 h2 => e1 k (by omega))
    have c20 := cd_ByAt_keep b20 (fun k h1 h2 => e1 k (by omega))
    have c21 := (e1 55 (by omega)).trans b21
    refine lv_istore (lv' := [(5, .int (1 : Int32)), (0, .ref b), (1, .ref (ad 0)), (2, .ref (ad 44)), (3, .ref (ad 55)), (4, .int (nI i))]) hx hb d_Law_law_468 hl (by decide) rfl (fun ls hl => ?_)
    refine lv_aload_n hx hb d_Law_law_470 rfl (lv_at hl 3 rfl) ?_
    refine va_calli (va_runV (As := []) (rest := []) ⟨hx, hb, hml, hown, hA⟩ (c_Mo_load l D tt ad 56 A zs _ 44 (v, ma, ms, mf, mb, mr, mt, mi, mg) mp c10 c11 c12 c13 c14 c15 c16 c17 c18 c20 o2) (cwV 0 hA (cd_gV aw_671 aw_672 aw_673 aw_8 aw_674) rfl rfl rfl ⟨rfl, by decide, by decide, by decide +kernel⟩ ⟨Nat.le_of_ble_eq_true rfl, Nat.le_of_ble_eq_true rfl⟩) ⟨cd_blind, cd_recv hK hP (k := 44) (by omega) c10.2 rfl, fun U hU hW => ⟨rfl, cd_pre hK hP hZ hS U hU hW⟩⟩ rfl rfl hl.1 rfl (lv_room (Nat.le_of_ble_eq_true rfl)) d_Law_law_471 ⟨hcs, hss⟩) hS (fun _ _ h => h) (fun _ h => h) (fun r2 w2 tE H locs ht hvm hr hP hz1 hk1 hS => ?_)
    have hP := cd_Pf ht hP
    obtain ⟨hr2, d10, d11, d12, d13, d14, d15, d16, d17, d18, e2⟩ := hr
    have d0 := cd_DeskAt_keep c0 (fun k h1 h2 => e2 k (by omega))
    have d1 := cd_MemAt_keep c1 (fun k h1 h2 => e2 k (by omega))
    have d2 := cd_TtAt_keep c2 (fun k h1 h2 => e2 k (by omega))
    have d3 := cd_RowAt_keep c3 (fun k h1 h2 => e2 k (by omega))
    have d4 := cd_FwAt_keep c4 (fun k h1 h2 => e2 k (by omega))
    have d5 := cd_RowAt_keep c5 (fun k h1 h2 => e2 k (by omega))
    have d6 := cd_TcAt_keep c6 (fun k h1 h2 => e2 k (by omega))
    have d7 := cd_TtAt_keep c7 (fun k h1 h2 => e2 k (by omega))
    have d8 := cd_MemAt_keep c8 (fun k h1 h2 => e2 k (by omega))
    have d9 := cd_TtAt_keep c9 (fun k h1 h2 => e2 k (by omega))
    have d19 := cd_ByAt_keep c19 (fun k h1 h2 => e2 k (by omega))
    have d20 := cd_ByAt_keep c20 (fun k h1 h2 => e2 k (by omega))
    have d21 := (e2 55 (by omega)).trans c21
    refine lv_istore (lv' := [(6, .int r2), (5, .int (1 : Int32)), (0, .ref b), (1, .ref (ad 0)), (2, .ref (ad 44)), (3, .ref (ad 55)), (4, .int (nI i))]) hx hb d_Law_law_474 hl (by decide) rfl (fun ls hl => ?_)
    refine lv_aload_n hx hb d_Law_law_476 rfl (lv_at hl 4 rfl) ?_
    refine va_calli (va_runV (As := []) (rest := []) ⟨hx, hb, hml, hown, hA⟩ (c_Mo_thrown l D tt ad 56 A zs w2 44 _ d10) (cwV 0 hA (cd_gV aw_592 aw_593 aw_594 aw_8 aw_595) rfl rfl rfl ⟨rfl, by decide, by decide, by decide +kernel⟩ ⟨Nat.le_of_ble_eq_true rfl, Nat.le_of_ble_eq_true rfl⟩) ⟨cd_blind, cd_recv hK hP (k := 44) (by omega) d10.2 rfl, fun U hU hW => ⟨rfl, cd_pre hK hP hZ hS U hU hW⟩⟩ rfl rfl hl.1 rfl (lv_room (Nat.le_of_ble_eq_true rfl)) d_Law_law_477 ⟨hcs, hss⟩) hS (fun _ _ h => h) (fun _ h => h) (fun r3 w3 tE H locs ht hvm hr hP hz1 hk1 hS => ?_)
    have hP := cd_Pf ht hP
    obtain ⟨hr3, rfl⟩ := hr
    refine lv_iload hx hb d_Law_law_480 (lv_at hl 1 rfl) ?_
    refine lv_icmp_eq (tgt := 487) hx hb d_Law_law_482 (by decide) (fun _ => ?_) (fun hc => absurd (hr3.symm.trans hth) hc)
    refine lv_iload hx hb d_Law_law_487 (lv_at hl 1 rfl) ?_
    refine lv_if_ne (tgt := 504) hx hb d_Law_law_489 (by decide) (fun _ => ?_) (fun hc => absurd hc (by decide))
    refine lv_goto (tgt := 749) hx hb d_Law_law_504 (by decide) ?_
    exact kk _ _ w2 ls (lv_sub hl [2, 3, 4, 5, 6] rfl) ⟨_, _, _, _, _, _, _, _, _, _, _, _, _, _, _, _, _, _, _, _, _, ⟨d0, d1, d2, d3, d4, d5, d6, d7, d8, d9, d10, d11, d12, d13, d14, d15, d16, d17, d18, d19, d20, d21⟩, hRn⟩ hP hS
  · refine va_calli (tw_runS (n := 2) (As := [.ref (ad 0), .ref (ad 55)]) (rest := []) (hh := _) ⟨hx, hb, hml, hown, hA⟩ (h_load l D tt ad 56 A zs w 0 55 has up uc uc' uh uh' vm vm' vt vt' f b0 b5 b6 b7 b8 b9 (by omega) (by omega) b21 o1 q1 q2 q3) rfl rfl (Nat.le_of_ble_eq_true rfl) (Nat.le_of_ble_eq_true rfl) (lw_ws hA hcw1) List.mem_cons_self hcw1 (hA _ aw_0) ⟨by decide, by decide⟩ (by decide +kernel) (hA _ aw_384) (hA _ aw_385) ⟨cd_blind, fun U hU hW => ⟨rfl, cd_pre hK hP hZ hS U hU hW⟩⟩ rfl rfl hl.1 rfl (lv_room (Nat.le_of_ble_eq_true rfl)) d_Law_law_465 ⟨h0c, h0s⟩) hS (fun _ _ h => h) (fun _ h => h) (fun r1 w1 tE H locs ht hvm hr hP hz1 hk1 hS => ?_)
    have hP := cd_Pf ht hP
    obtain ⟨rfl, c0, c6, c7, c8, c9, ⟨f9, c21, hf9⟩, e1⟩ := hr
    have c1 := cd_MemAt_keep b1 (fun k h1 h2 => e1 k (by omega))
    have c2 := cd_TtAt_keep b2 (fun k h1 h2 => e1 k (by omega))
    have c3 := cd_RowAt_keep b3 (fun k h1 h2 => e1 k (by omega))
    have c4 := cd_FwAt_keep b4 (fun k h1 h2 => e1 k (by omega))
    have c5 := cd_RowAt_keep b5 (fun k h1 h2 => e1 k (by omega))
    have c10 := cd_MoAt_keep b10 (fun k h1 h2 => e1 k (by omega))
    have c11 := cd_IaAt_keep b11 (fun k h1 h2 => e1 k (by omega))
    have c12 := cd_IaAt_keep b12 (fun k h1 h2 => e1 k (by omega))
    have c13 := cd_IaAt_keep b13 (fun k h1 h2 => e1 k (by omega))
    have c14 := cd_ByAt_keep b14 (fun k h1 h2 => e1 k (by omega))
    have c15 := cd_IaAt_keep b15 (fun k h1 h2 => e1 k (by omega))
    have c16 := cd_IaAt_keep b16 (fun k h1 h2 => e1 k (by omega))
    have c17 := cd_IaAt_keep b17 (fun k h1 h2 => e1 k (by omega))
    have c18 := cd_IaAt_keep b18 (fun k h1 h2 => e1 k (by omega))
    have c19 := cd_ByAt_keep b19 (fun k h1 h2 => e1 k (by omega))
    have c20 := cd_ByAt_keep b20 (fun k h1 h2 => e1 k (by omega))
    refine lv_istore (lv' := [(5, .int (0 : Int32)), (0, .ref b), (1, .ref (ad 0)), (2, .ref (ad 44)), (3, .ref (ad 55)), (4, .int (nI i))]) hx hb d_Law_law_468 hl (by decide) rfl (fun ls hl => ?_)
    refine lv_aload_n hx hb d_Law_law_470 rfl (lv_at hl 3 rfl) ?_
    refine va_calli (va_runV (As := []) (rest := []) ⟨hx, hb, hml, hown, hA⟩ (c_Mo_load l D tt ad 56 A zs _ 44 (v, ma, ms, mf, mb, mr, mt, mi, mg) mp c10 c11 c12 c13 c14 c15 c16 c17 c18 c20 o2) (cwV 0 hA (cd_gV aw_671 aw_672 aw_673 aw_8 aw_674) rfl rfl rfl ⟨rfl, by decide, by decide, by decide +kernel⟩ ⟨Nat.le_of_ble_eq_true rfl, Nat.le_of_ble_eq_true rfl⟩) ⟨cd_blind, cd_recv hK hP (k := 44) (by omega) c10.2 rfl, fun U hU hW => ⟨rfl, cd_pre hK hP hZ hS U hU hW⟩⟩ rfl rfl hl.1 rfl (lv_room (Nat.le_of_ble_eq_true rfl)) d_Law_law_471 ⟨h0c, h0s⟩) hS (fun _ _ h => h) (fun _ h => h) (fun r2 w2 tE H locs ht hvm hr hP hz1 hk1 hS => ?_)
    have hP := cd_Pf ht hP
    obtain ⟨hr2, d10, d11, d12, d13, d14, d15, d16, d17, d18, e2⟩ := hr
    have d0 := cd_DeskAt_keep c0 (fun k h1 h2 => e2 k (by omega))
    have d1 := cd_MemAt_keep c1 (fun k h1 h2 => e2 k (by omega))
    have d2 := cd_TtAt_keep c2 (fun k h1 h2 => e2 k (by omega))
    have d3 := cd_RowAt_keep c3 (fun k h1 h2 => e2 k (by omega))
    have d4 := cd_FwAt_keep c4 (fun k h1 h2 => e2 k (by omega))
    have d5 := cd_RowAt_keep c5 (fun k h1 h2 => e2 k (by omega))
    have d6 := cd_TcAt_keep c6 (fun k h1 h2 => e2 k (by omega))
    have d7 := cd_TtAt_keep c7 (fun k h1 h2 => e2 k (by omega))
    have d8 := cd_MemAt_keep c8 (fun k h1 h2 => e2 k (by omega))
    have d9 := cd_TtAt_keep c9 (fun k h1 h2 => e2 k (by omega))
    have d19 := cd_ByAt_keep c19 (fun k h1 h2 => e2 k (by omega))
    have d20 := cd_ByAt_keep c20 (fun k h1 h2 => e2 k (by omega))
    have d21 := (e2 55 (by omega)).trans c21
    refine lv_istore (lv' := [(6, .int r2), (5, .int (0 : Int32)), (0, .ref b), (1, .ref (ad 0)), (2, .ref (ad 44)), (3, .ref (ad 55)), (4, .int (nI i))]) hx hb d_Law_law_474 hl (by decide) rfl (fun ls hl => ?_)
    refine lv_aload_n hx hb d_Law_law_476 rfl (lv_at hl 4 rfl) ?_
    refine va_calli (va_runV (As := []) (rest := []) ⟨hx, hb, hml, hown, hA⟩ (c_Mo_thrown l D tt ad 56 A zs w2 44 _ d10) (cwV 0 hA (cd_gV aw_592 aw_593 aw_594 aw_8 aw_595) rfl rfl rfl ⟨rfl, by decide, by decide, by decide +kernel⟩ ⟨Nat.le_of_ble_eq_true rfl, Nat.le_of_ble_eq_true rfl⟩) ⟨cd_blind, cd_recv hK hP (k := 44) (by omega) d10.2 rfl, fun U hU hW => ⟨rfl, cd_pre hK hP hZ hS U hU hW⟩⟩ rfl rfl hl.1 rfl (lv_room (Nat.le_of_ble_eq_true rfl)) d_Law_law_477 ⟨h0c, h0s⟩) hS (fun _ _ h => h) (fun _ h => h) (fun r3 w3 tE H locs ht hvm hr hP hz1 hk1 hS => ?_)
    have hP := cd_Pf ht hP
    obtain ⟨hr3, rfl⟩ := hr
    refine lv_iload hx hb d_Law_law_480 (lv_at hl 1 rfl) ?_
    refine lv_icmp_eq (tgt := 487) hx hb d_Law_law_482 (by decide) (fun _ => ?_) (fun hc => absurd (hr3.symm.trans hth) hc)
    refine lv_iload hx hb d_Law_law_487 (lv_at hl 1 rfl) ?_
    refine lv_if_ne (tgt := 504) hx hb d_Law_law_489 (by decide) (fun hc => absurd rfl hc) (fun _ => ?_)
    refine lv_aload_n hx hb d_Law_law_492 rfl (lv_at hl 5 rfl) ?_
    refine lv_iconst (v := (0 : Int32)) hx hb d_Law_law_493 (by decide) ?_
    refine g_lald hx hb hK hP (k := 55) (by omega) d21 (vp_in_nI (n := 0) (by omega) (by omega)) d_Law_law_494 ?_
    refine lv_iload hx hb d_Law_law_495 (lv_at hl 0 rfl) ?_
    refine lv_i2l hx hb d_Law_law_497 rfl ?_
    refine W.lcmp hx hb d_Law_law_498 ?_
    have hcmp : lg_cmp (f9 (0 : Int32).toNatClampNeg) r2.toInt64 = 0 := by
      rw [pu_cz, hf9, ← hr2, hans]
      exact lw_cmp0 _
    refine lv_if_eq (tgt := 504) hx hb d_Law_law_499 (by decide) (fun _ => ?_) (fun hc => absurd hcmp hc)
    refine lv_goto (tgt := 749) hx hb d_Law_law_504 (by decide) ?_
    refine W.widen (k := cells + 1) (n := slots + 6) (by omega) (by omega) ?_
    exact kk _ _ w2 ls (lv_sub hl [2, 3, 4, 5, 6] rfl) ⟨_, _, _, _, _, _, _, _, _, _, _, _, _, _, _, _, _, _, _, _, _, ⟨d0, d1, d2, d3, d4, d5, d6, d7, d8, d9, d10, d11, d12, d13, d14, d15, d16, d17, d18, d19, d20, d21⟩, hRn⟩ hP hS
theorem lc_register {p : Program} {l : Launch} {e : Env} {s : State} {m : MethodId} {below : List Frame} {meth : Method} {c : Code} {b L : Nat} {xs : Nat → Int32} {D : va_G} {tt : Nat → ClassId} {ad : Nat → Nat} {A : Nat → Prop} {zs : Nat → Nat} {Q : State → Prop} (X : lw_X p l s m c b L xs D tt A zs) {H : Heap} {locs : List Loc} {cells slots : Nat} (hcs : cells + 1 ≤ room_1.cells) (hss : slots + 6 ≤ room_1.slots) {ls : Array Slot} {i : Nat} (hi : i + 4 ≤ L) (hl : lv_has ls 7 (lw_ls b ad i)) {w : Nat → va_E} (hI : lw_I 56 tt ad w) (hP : cd_P D ad 56 A w H) (hS : va_S A s.heap H locs) (kk : ∀ (H1 : Heap) (locs1 : List Loc) (w1 : Nat → va_E) (ls1 : Array Slot), lv_has ls1 7 (lw_ls b ad i) → lw_I 56 tt ad w1 → cd_P D ad 56 A w1 H1 → va_S A s.heap H1 locs1 → W p l e room_1 s m #[Value.ref b] below meth c H1 locs1 (cells + 1) (slots + 6) Q (F0 m 749 ls1 [])) : W p l e room_1 s m #[Value.ref b] below meth c H locs cells slots Q (F0 m 607 ls []) := by
  obtain ⟨hx, hb, hml, hown, hA, hK, hZ, hX, hbl, hbA, hL, hY, hfl, hcw1, hcw2⟩ := X
  obtain ⟨has, um, ut, uf, up, uc, uh, vm, vt, v, ma, ms, mf, mb, mr, mt, mi, mg, ml, mp, f, ⟨b0, b1, b2, b3, b4, b5, b6, b7, b8, b9, b10, b11, b12, b13, b14, b15, b16, b17, b18, b19, b20, b21⟩, hR⟩ := hI
  have h0c : cells + 0 ≤ room_1.cells := Nat.le_of_succ_le hcs
  have h0s : slots + 0 ≤ room_1.slots := Nat.le_trans (Nat.le_add_right _ _) hss
  have hR0 := hR
  obtain ⟨n, t, n', t', L9, r1, r2, r3, r4, r5, r6, r7, r8, r9, r10⟩ := hR0
  obtain ⟨o2, hor⟩ := e_register (v := v) r9 (xs (i + 1)) (xs (i + 2))
  refine lv_aload_n hx hb d_Law_law_607 rfl (lv_at hl 1 rfl) ?_
  refine lw_arg hx hb hX hbl hbA hS hl hi (k := 1) ⟨by omega, hL⟩ d_Law_law_608 d_Law_law_609 d_Law_law_611 rfl d_Law_law_612 d_Law_law_613 ?_
  refine lw_arg hx hb hX hbl hbA hS hl hi (k := 2) ⟨by omega, hL⟩ d_Law_law_614 d_Law_law_615 d_Law_law_617 rfl d_Law_law_618 d_Law_law_619 ?_
  refine lv_aload_n hx hb d_Law_law_620 rfl (lv_at hl 3 rfl) ?_
  rcases hor with ⟨q1, q2, q3, q4, q5⟩ | ⟨q1, q5⟩
  · have hth : f_Mo_thrown (f_Mo_register v mt mi mg (xs (i + 1)) (xs (i + 2))).2 = 0 := by rw [q5]; rfl
    have hans : (f_Mo_register v mt mi mg (xs (i + 1)) (xs (i + 2))).1 = (if xs (i + 2) = 8 then f_Tt_id vt (xs (i + 1)) else f_Tt_read vt (xs (i + 1)) (xs (i + 2))) := by rw [q5]
    have hRn : lw_R has um ut uf up uc vm vt (f_Mo_register v mt mi mg (xs (i + 1)) (xs (i + 2))).2 ma ms mf mb mr mt mi mg ml mp := by
      rw [q5]
      exact ⟨n, t, n', t', L9, r1, r2, r3, r4, r5, r6, r7, r8, r9, r10⟩
    refine va_calli (tw_runS (n := 4) (As := [.ref (ad 0), .int (xs (i + 1)), .int (xs (i + 2)), .ref (ad 55)]) (rest := []) (hh := _) ⟨hx, hb, hml, hown, hA⟩ (h_register l D tt ad 56 A zs w 0 55 has vt (xs (i + 1)) (xs (i + 2)) f b0 b9 (by omega) (by omega) b21 q1 q2 q3 q4) rfl rfl (Nat.le_of_ble_eq_true rfl) (Nat.le_of_ble_eq_true rfl) (lw_ws hA hcw2) List.mem_cons_self hcw2 (hA _ aw_0) ⟨by decide, by decide⟩ (by decide +kernel) (hA _ aw_533) (hA _ aw_534) ⟨cd_blind, fun U hU hW => ⟨rfl, cd_pre hK hP hZ hS U hU hW⟩⟩ rfl rfl hl.1 rfl (lv_room (Nat.le_of_ble_eq_true rfl)) d_Law_law_621 ⟨h0c, h0s⟩) hS (fun _ _ h => h) (fun _ h => h) (fun r1 w1 tE H locs ht hvm hr hP hz1 hk1 hS => ?_)
    have hP := cd_Pf ht hP
    obtain ⟨rfl, ⟨f9, c21, hf9⟩, e1⟩ := hr
    have c0 := cd_DeskAt_keep b0 (fun k h1 h2 => e1 k (by omega))
    have c1 := cd_MemAt_keep b1 (fun k h1 h2 => e1 k (by omega))
    have c2 := cd_TtAt_keep b2 (fun k h1 h2 => e1 k (by omega))
    have c3 := cd_RowAt_keep b3 (fun k h1 h2 => e1 k (by omega))
    have c4 := cd_FwAt_keep b4 (fun k h1 h2 => e1 k (by omega))
    have c5 := cd_RowAt_keep b5 (fun k h1 h2 => e1 k (by omega))
    have c6 := cd_TcAt_keep b6 (fun k h1 h2 => e1 k (by omega))
    have c7 := cd_TtAt_keep b7 (fun k h1 h2 => e1 k (by omega))
    have c8 := cd_MemAt_keep b8 (fun k h1 h2 => e1 k (by omega))
    have c9 := cd_TtAt_keep b9 (fun k h1 h2 => e1 k (by omega))
    have c10 := cd_MoAt_keep b10 (fun k h1 h2 => e1 k (by omega))
    have c11 := cd_IaAt_keep b11 (fun k h1 h2 => e1 k (by omega))
    have c12 := cd_IaAt_keep b12 (fun k h1 h2 => e1 k (by omega))
    have c13 := cd_IaAt_keep b13 (fun k h1 h2 => e1 k (by omega))
    have c14 := cd_ByAt_keep b14 (fun k h1 h2 => e1 k (by omega))
    have c15 := cd_IaAt_keep b15 (fun k h1 h2 => e1 k (by omega))
    have c16 := cd_IaAt_keep b16 (fun k h1 h2 => e1 k (by omega))
    have c17 := cd_IaAt_keep b17 (fun k h1 h2 => e1 k (by omega))
    have c18 := cd_IaAt_keep b18 (fun k h1 h2 => e1 k (by omega))
    have c19 := cd_ByAt_keep b19 (fun k h1 h2 => e1 k (by omega))
    have c20 := cd_ByAt_keep b20 (fun k h1 h2 => e1 k (by omega))
    refine lv_istore (lv' := [(5, .int (0 : Int32)), (0, .ref b), (1, .ref (ad 0)), (2, .ref (ad 44)), (3, .ref (ad 55)), (4, .int (nI i))]) hx hb d_Law_law_624 hl (by decide) rfl (fun ls hl => ?_)
    refine lv_aload_n hx hb d_Law_law_626 rfl (lv_at hl 3 rfl) ?_
    refine lw_arg hx hb hX hbl hbA hS (lv_sub hl [1, 2, 3, 4, 5] rfl) hi (k := 1) ⟨by omega, hL⟩ d_Law_law_627 d_Law_law_628 d_Law_law_630 rfl d_Law_law_631 d_Law_law_632 ?_
    refine lw_arg hx hb hX hbl hbA hS (lv_sub hl [1, 2, 3, 4, 5] rfl) hi (k := 2) ⟨by omega, hL⟩ d_Law_law_633 d_Law_law_634 d_Law_law_636 rfl d_Law_law_637 d_Law_law_638 ?_
    refine va_calli (va_runV (As := [.int (xs (i + 1)), .int (xs (i + 2))]) (rest := []) ⟨hx, hb, hml, hown, hA⟩ (c_Mo_register l D tt ad 56 A zs _ 44 v mt mi mg (xs (i + 1)) (xs (i + 2)) c10 c16 c17 c18 o2) (cwV 2 hA (cd_gV aw_739 aw_740 aw_741 aw_8 aw_742) rfl rfl rfl ⟨rfl, by decide, by decide, by decide +kernel⟩ ⟨Nat.le_of_ble_eq_true rfl, Nat.le_of_ble_eq_true rfl⟩) ⟨cd_blind, cd_recv hK hP (k := 44) (by omega) c10.2 rfl, fun U hU hW => ⟨rfl, cd_pre hK hP hZ hS U hU hW⟩⟩ rfl rfl hl.1 rfl (lv_room (Nat.le_of_ble_eq_true rfl)) d_Law_law_639 ⟨h0c, h0s⟩) hS (fun _ _ h => h) (fun _ h => h) (fun r2 w2 tE H locs ht hvm hr hP hz1 hk1 hS => ?_)
    have hP := cd_Pf ht hP
    obtain ⟨hr2, d10, e2⟩ := hr
    have d0 := cd_DeskAt_keep c0 (fun k h1 h2 => e2 k (by omega))
    have d1 := cd_MemAt_keep c1 (fun k h1 h2 => e2 k (by omega))
    have d2 := cd_TtAt_keep c2 (fun k h1 h2 => e2 k (by omega))
    have d3 := cd_RowAt_keep c3 (fun k h1 h2 => e2 k (by omega))
    have d4 := cd_FwAt_keep c4 (fun k h1 h2 => e2 k (by omega))
    have d5 := cd_RowAt_keep c5 (fun k h1 h2 => e2 k (by omega))
    have d6 := cd_TcAt_keep c6 (fun k h1 h2 => e2 k (by omega))
    have d7 := cd_TtAt_keep c7 (fun k h1 h2 => e2 k (by omega))
    have d8 := cd_MemAt_keep c8 (fun k h1 h2 => e2 k (by omega))
    have d9 := cd_TtAt_keep c9 (fun k h1 h2 => e2 k (by omega))
    have d11 := cd_IaAt_keep c11 (fun k h1 h2 => e2 k (by omega))
    have d12 := cd_IaAt_keep c12 (fun k h1 h2 => e2 k (by omega))
    have d13 := cd_IaAt_keep c13 (fun k h1 h2 => e2 k (by omega))
    have d14 := cd_ByAt_keep c14 (fun k h1 h2 => e2 k (by omega))
    have d15 := cd_IaAt_keep c15 (fun k h1 h2 => e2 k (by omega))
    have d16 := cd_IaAt_keep c16 (fun k h1 h2 => e2 k (by omega))
    have d17 := cd_IaAt_keep c17 (fun k h1 h2 => e2 k (by omega))
    have d18 := cd_IaAt_keep c18 (fun k h1 h2 => e2 k (by omega))
    have d19 := cd_ByAt_keep c19 (fun k h1 h2 => e2 k (by omega))
    have d20 := cd_ByAt_keep c20 (fun k h1 h2 => e2 k (by omega))
    have d21 := (e2 55 (by omega)).trans c21
    refine lv_istore (lv' := [(6, .int r2), (5, .int (0 : Int32)), (0, .ref b), (1, .ref (ad 0)), (2, .ref (ad 44)), (3, .ref (ad 55)), (4, .int (nI i))]) hx hb d_Law_law_642 hl (by decide) rfl (fun ls hl => ?_)
    refine lv_aload_n hx hb d_Law_law_644 rfl (lv_at hl 4 rfl) ?_
    refine va_calli (va_runV (As := []) (rest := []) ⟨hx, hb, hml, hown, hA⟩ (c_Mo_thrown l D tt ad 56 A zs w2 44 _ d10) (cwV 0 hA (cd_gV aw_592 aw_593 aw_594 aw_8 aw_595) rfl rfl rfl ⟨rfl, by decide, by decide, by decide +kernel⟩ ⟨Nat.le_of_ble_eq_true rfl, Nat.le_of_ble_eq_true rfl⟩) ⟨cd_blind, cd_recv hK hP (k := 44) (by omega) d10.2 rfl, fun U hU hW => ⟨rfl, cd_pre hK hP hZ hS U hU hW⟩⟩ rfl rfl hl.1 rfl (lv_room (Nat.le_of_ble_eq_true rfl)) d_Law_law_645 ⟨h0c, h0s⟩) hS (fun _ _ h => h) (fun _ h => h) (fun r3 w3 tE H locs ht hvm hr hP hz1 hk1 hS => ?_)
    have hP := cd_Pf ht hP
    obtain ⟨hr3, rfl⟩ := hr
    refine lv_iload hx hb d_Law_law_648 (lv_at hl 1 rfl) ?_
    refine lv_icmp_eq (tgt := 655) hx hb d_Law_law_650 (by decide) (fun _ => ?_) (fun hc => absurd (hr3.symm.trans hth) hc)
    refine lv_iload hx hb d_Law_law_655 (lv_at hl 1 rfl) ?_
    refine lv_if_ne (tgt := 672) hx hb d_Law_law_657 (by decide) (fun hc => absurd rfl hc) (fun _ => ?_)
    refine lv_aload_n hx hb d_Law_law_660 rfl (lv_at hl 5 rfl) ?_
    refine lv_iconst (v := (0 : Int32)) hx hb d_Law_law_661 (by decide) ?_
    refine g_lald hx hb hK hP (k := 55) (by omega) d21 (vp_in_nI (n := 0) (by omega) (by omega)) d_Law_law_662 ?_
    refine lv_iload hx hb d_Law_law_663 (lv_at hl 0 rfl) ?_
    refine lv_i2l hx hb d_Law_law_665 rfl ?_
    refine W.lcmp hx hb d_Law_law_666 ?_
    have hcmp : lg_cmp (f9 (0 : Int32).toNatClampNeg) r2.toInt64 = 0 := by
      rw [pu_cz, hf9, ← hr2, hans]
      exact lw_cmp0 _
    refine lv_if_eq (tgt := 672) hx hb d_Law_law_667 (by decide) (fun _ => ?_) (fun hc => absurd hcmp hc)
    refine lv_goto (tgt := 749) hx hb d_Law_law_672 (by decide) ?_
    refine W.widen (k := cells + 1) (n := slots + 6) (by omega) (by omega) ?_
    exact kk _ _ w2 ls (lv_sub hl [2, 3, 4, 5, 6] rfl) ⟨_, _, _, _, _, _, _, _, _, _, _, _, _, _, _, _, _, _, _, _, _, ⟨d0, d1, d2, d3, d4, d5, d6, d7, d8, d9, d10, d11, d12, d13, d14, d15, d16, d17, d18, d19, d20, d21⟩, hRn⟩ hP hS
  · have hth : f_Mo_thrown (f_Mo_register v mt mi mg (xs (i + 1)) (xs (i + 2))).2 = 1 := by rw [q5]; rfl
    have hRn : lw_R has um ut uf up uc vm vt (f_Mo_register v mt mi mg (xs (i + 1)) (xs (i + 2))).2 ma ms mf mb mr mt mi mg ml mp := by
      rw [q5]
      exact ⟨n, t, n', t', L9, r1, r2, r3, r4, r5, r6, r7, r8, r9, r10⟩
    refine va_calli (tw_runS (n := 4) (As := [.ref (ad 0), .int (xs (i + 1)), .int (xs (i + 2)), .ref (ad 55)]) (rest := []) (hh := _) ⟨hx, hb, hml, hown, hA⟩ (h_register_no l hfl D tt ad 56 A zs w 0 55 has vt (xs (i + 1)) (xs (i + 2)) b0 b9 q1) rfl rfl (Nat.le_of_ble_eq_true rfl) (Nat.le_of_ble_eq_true rfl) (lw_ws hA hcw2) List.mem_cons_self hcw2 (hA _ aw_0) ⟨by decide, by decide⟩ (by decide +kernel) (hA _ aw_533) (hA _ aw_534) ⟨tw_blind, fun U hU hW => ⟨rfl, tw_pre hK hP hZ hY hS U hU hW⟩⟩ rfl rfl hl.1 rfl (lv_room (Nat.le_of_ble_eq_true rfl)) d_Law_law_621 ⟨hcs, hss⟩) hS (fun _ _ h => h) (fun _ h => h) (fun r1 w1 tE H locs ht hvm hr hP hz1 hk1 hS => ?_)
    have hP := cd_Pf ht hP
    obtain ⟨rfl, rfl⟩ := hr
    refine lv_istore (lv' := [(5, .int (1 : Int32)), (0, .ref b), (1, .ref (ad 0)), (2, .ref (ad 44)), (3, .ref (ad 55)), (4, .int (nI i))]) hx hb d_Law_law_624 hl (by decide) rfl (fun ls hl => ?_)
    refine lv_aload_n hx hb d_Law_law_626 rfl (lv_at hl 3 rfl) ?_
    refine lw_arg hx hb hX hbl hbA hS (lv_sub hl [1, 2, 3, 4, 5] rfl) hi (k := 1) ⟨by omega, hL⟩ d_Law_law_627 d_Law_law_628 d_Law_law_630 rfl d_Law_law_631 d_Law_law_632 ?_
    refine lw_arg hx hb hX hbl hbA hS (lv_sub hl [1, 2, 3, 4, 5] rfl) hi (k := 2) ⟨by omega, hL⟩ d_Law_law_633 d_Law_law_634 d_Law_law_636 rfl d_Law_law_637 d_Law_law_638 ?_
    refine va_calli (va_runV (As := [.int (xs (i + 1)), .int (xs (i + 2))]) (rest := []) ⟨hx, hb, hml, hown, hA⟩ (c_Mo_register l D tt ad 56 A zs _ 44 v mt mi mg (xs (i + 1)) (xs (i + 2)) b10 b16 b17 b18 o2) (cwV 2 hA (cd_gV aw_739 aw_740 aw_741 aw_8 aw_742) rfl rfl rfl ⟨rfl, by decide, by decide, by decide +kernel⟩ ⟨Nat.le_of_ble_eq_true rfl, Nat.le_of_ble_eq_true rfl⟩) ⟨cd_blind, cd_recv hK hP (k := 44) (by omega) b10.2 rfl, fun U hU hW => ⟨rfl, cd_pre hK hP hZ hS U hU hW⟩⟩ rfl rfl hl.1 rfl (lv_room (Nat.le_of_ble_eq_true rfl)) d_Law_law_639 ⟨hcs, hss⟩) hS (fun _ _ h => h) (fun _ h => h) (fun r2 w2 tE H locs ht hvm hr hP hz1 hk1 hS => ?_)
    have hP := cd_Pf ht hP
    obtain ⟨hr2, d10, e2⟩ := hr
    have d0 := cd_DeskAt_keep b0 (fun k h1 h2 => e2 k (by omega))
    have d1 := cd_MemAt_keep b1 (fun k h1 h2 => e2 k (by omega))
    have d2 := cd_TtAt_keep b2 (fun k h1 h2 => e2 k (by omega))
    have d3 := cd_RowAt_keep b3 (fun k h1 h2 => e2 k (by omega))
    have d4 := cd_FwAt_keep b4 (fun k h1 h2 => e2 k (by omega))
    have d5 := cd_RowAt_keep b5 (fun k h1 h2 => e2 k (by omega))
    have d6 := cd_TcAt_keep b6 (fun k h1 h2 => e2 k (by omega))
    have d7 := cd_TtAt_keep b7 (fun k h1 h2 => e2 k (by omega))
    have d8 := cd_MemAt_keep b8 (fun k h1 h2 => e2 k (by omega))
    have d9 := cd_TtAt_keep b9 (fun k h1 h2 => e2 k (by omega))
    have d11 := cd_IaAt_keep b11 (fun k h1 h2 => e2 k (by omega))
    have d12 := cd_IaAt_keep b12 (fun k h1 h2 => e2 k (by omega))
    have d13 := cd_IaAt_keep b13 (fun k h1 h2 => e2 k (by omega))
    have d14 := cd_ByAt_keep b14 (fun k h1 h2 => e2 k (by omega))
    have d15 := cd_IaAt_keep b15 (fun k h1 h2 => e2 k (by omega))
    have d16 := cd_IaAt_keep b16 (fun k h1 h2 => e2 k (by omega))
    have d17 := cd_IaAt_keep b17 (fun k h1 h2 => e2 k (by omega))
    have d18 := cd_IaAt_keep b18 (fun k h1 h2 => e2 k (by omega))
    have d19 := cd_ByAt_keep b19 (fun k h1 h2 => e2 k (by omega))
    have d20 := cd_ByAt_keep b20 (fun k h1 h2 => e2 k (by omega))
    have d21 := (e2 55 (by omega)).trans b21
    refine lv_istore (lv' := [(6, .int r2), (5, .int (1 : Int32)), (0, .ref b), (1, .ref (ad 0)), (2, .ref (ad 44)), (3, .ref (ad 55)), (4, .int (nI i))]) hx hb d_Law_law_642 hl (by decide) rfl (fun ls hl => ?_)
    refine lv_aload_n hx hb d_Law_law_644 rfl (lv_at hl 4 rfl) ?_
    refine va_calli (va_runV (As := []) (rest := []) ⟨hx, hb, hml, hown, hA⟩ (c_Mo_thrown l D tt ad 56 A zs w2 44 _ d10) (cwV 0 hA (cd_gV aw_592 aw_593 aw_594 aw_8 aw_595) rfl rfl rfl ⟨rfl, by decide, by decide, by decide +kernel⟩ ⟨Nat.le_of_ble_eq_true rfl, Nat.le_of_ble_eq_true rfl⟩) ⟨cd_blind, cd_recv hK hP (k := 44) (by omega) d10.2 rfl, fun U hU hW => ⟨rfl, cd_pre hK hP hZ hS U hU hW⟩⟩ rfl rfl hl.1 rfl (lv_room (Nat.le_of_ble_eq_true rfl)) d_Law_law_645 ⟨hcs, hss⟩) hS (fun _ _ h => h) (fun _ h => h) (fun r3 w3 tE H locs ht hvm hr hP hz1 hk1 hS => ?_)
    have hP := cd_Pf ht hP
    obtain ⟨hr3, rfl⟩ := hr
    refine lv_iload hx hb d_Law_law_648 (lv_at hl 1 rfl) ?_
    refine lv_icmp_eq (tgt := 655) hx hb d_Law_law_650 (by decide) (fun _ => ?_) (fun hc => absurd (hr3.symm.trans hth) hc)
    refine lv_iload hx hb d_Law_law_655 (lv_at hl 1 rfl) ?_
    refine lv_if_ne (tgt := 672) hx hb d_Law_law_657 (by decide) (fun _ => ?_) (fun hc => absurd hc (by decide))
    refine lv_goto (tgt := 749) hx hb d_Law_law_672 (by decide) ?_
    exact kk _ _ w2 ls (lv_sub hl [2, 3, 4, 5, 6] rfl) ⟨_, _, _, _, _, _, _, _, _, _, _, _, _, _, _, _, _, _, _, _, _, ⟨d0, d1, d2, d3, d4, d5, d6, d7, d8, d9, d10, d11, d12, d13, d14, d15, d16, d17, d18, d19, d20, d21⟩, hRn⟩ hP hS
