theorem lc_map {p : Program} {l : Launch} {e : Env} {s : State} {m : MethodId} {below : List Frame} {meth : Method} {c : Code} {b L : Nat} {xs : Nat → Int32} {D : va_G} {tt : Nat → ClassId} {ad : Nat → Nat} {A : Nat → Prop} {zs : Nat → Nat} {Q : State → Prop} (X : lw_X p l s m c b L xs D tt A zs) {H : Heap} {locs : List Loc} {cells slots : Nat} (hcs : cells ≤ room_1.cells) (hss : slots ≤ room_1.slots) {ls : Array Slot} {i : Nat} (hi : i + 4 ≤ L) (hl : lv_has ls 7 (lw_ls b ad i)) {w : Nat → va_E} (hI : lw_I 56 tt ad w) (hP : cd_P D ad 56 A w H) (hS : va_S A s.heap H locs) (kk : ∀ (H1 : Heap) (locs1 : List Loc) (w1 : Nat → va_E), lw_I 56 tt ad w1 → cd_P D ad 56 A w1 H1 → va_S A s.heap H1 locs1 → W p l e room_1 s m #[Value.ref b] below meth c H1 locs1 cells slots Q (F0 m 749 ls [])) : W p l e room_1 s m #[Value.ref b] below meth c H locs cells slots Q (F0 m 128 ls []) := by
  obtain ⟨hx, hb, hml, hown, hA, hK, hZ, hX, hbl, hbA, hL, -⟩ := X
  obtain ⟨has, um, ut, uf, up, uc, uh, vm, vt, v, ma, ms, mf, mb, mr, mt, mi, mg, ml, mp, f, ⟨b0, b1, b2, b3, b4, b5, b6, b7, b8, b9, b10, b11, b12, b13, b14, b15, b16, b17, b18, b19, b20, b21⟩, hR⟩ := hI
  obtain ⟨o1, o2, heq, hR⟩ := lr_map hR (xs (i + 1)) (xs (i + 2)) (xs (i + 3))
  refine lv_aload_n hx hb d_Law_law_128 rfl (lv_at hl 1 rfl) ?_
  refine lw_arg hx hb hX hbl hbA hS hl hi (k := 1) ⟨by omega, hL⟩ d_Law_law_129 d_Law_law_130 d_Law_law_132 rfl d_Law_law_133 d_Law_law_134 ?_
  refine lw_arg hx hb hX hbl hbA hS hl hi (k := 2) ⟨by omega, hL⟩ d_Law_law_135 d_Law_law_136 d_Law_law_138 rfl d_Law_law_139 d_Law_law_140 ?_
  refine lw_arg hx hb hX hbl hbA hS hl hi (k := 3) ⟨by omega, hL⟩ d_Law_law_141 d_Law_law_142 d_Law_law_144 rfl d_Law_law_145 d_Law_law_146 ?_
  refine va_calli (va_runV (As := [.int (xs (i + 1)), .int (xs (i + 2)), .int (xs (i + 3))]) (rest := []) ⟨hx, hb, hml, hown, hA⟩ (c_Desk_map l D tt ad 56 A zs w 0 has um (xs (i + 1)) (xs (i + 2)) (xs (i + 3)) b0 b1 o1) (cwV 3 hA (cd_gV aw_118 aw_119 aw_120 aw_1 aw_121) rfl rfl rfl ⟨rfl, by decide, by decide, by decide +kernel⟩ ⟨Nat.le_of_ble_eq_true rfl, Nat.le_of_ble_eq_true rfl⟩) ⟨cd_blind, cd_recv hK hP (k := 0) (by omega) b0.2 rfl, fun U hU hW => ⟨rfl, cd_pre hK hP hZ hS U hU hW⟩⟩ rfl rfl hl.1 rfl (lv_room (Nat.le_of_ble_eq_true rfl)) d_Law_law_147 ⟨hcs, hss⟩) hS (fun _ _ h => h) (fun _ h => h) (fun r1 w1 tE H locs ht hvm hr hP hz1 hk1 hS => ?_)
  have hP := cd_Pf ht hP
  obtain ⟨hr1, -, c1, e1⟩ := hr
  have c0 := cd_DeskAt_keep b0 (fun k h1 h2 => e1 k (by omega))
  have c2 := cd_TtAt_keep b2 (fun k h1 h2 => e1 k (by omega))
  have c3 := cd_RowAt_keep b3 (fun k h1 h2 => e1 k (by omega))
  have c4 := cd_FwAt_keep b4 (fun k h1 h2 => e1 k (by omega))
  have c5 := cd_RowAt_keep b5 (fun k h1 h2 => e1 k (by omega))
  have c6 := cd_TcAt_keep b6 (fun k h1 h2 => e1 k (by omega))
  have c7 := cd_TtAt_keep b7 (fun k h1 h2 => e1 k (by omega))
  have c8 := cd_MemAt_keep b8 (fun k h1 h2 => e1 k (by omega))
  have c9 := cd_TtAt_keep b9 (fun k h1 h2 => e1 k (by omega))
  have c10 := cd_MoAt_keep b10 (fun k h1 h2 => e1 k (by omega))
  have c11 := cd_IaAt_keep b11 (fun k h1 h2 => e1 k (by omega))
  have c12 := cd_IaAt_keep b12 (fun k h1 h2 => e1 k (by omega))
  have c13 := cd_IaAt_keep b13 (fun k h1 h2 => e1 k (by omega))
  have c14 := cd_ByAt_keep b14 (fun k h1 h2 => e1 k (by omega))
  have c15 := cd_IaAt_keep b15 (fun k h1 h2 => e1 k (by omega))
  have c16 := cd_IaAt_keep b16 (fun k h1 h2 => e1 k (by omega))
  have c17 := cd_IaAt_keep b17 (fun k h1 h2 => e1 k (by omega))
  have c18 := cd_IaAt_keep b18 (fun k h1 h2 => e1 k (by omega))
  have c19 := cd_ByAt_keep b19 (fun k h1 h2 => e1 k (by omega))
  have c20 := cd_ByAt_keep b20 (fun k h1 h2 => e1 k (by omega))
  have c21 := (e1 55 (by omega)).trans b21
  refine lv_aload_n hx hb d_Law_law_150 rfl (lv_at hl 2 rfl) ?_
  refine lw_arg hx hb hX hbl hbA hS hl hi (k := 1) ⟨by omega, hL⟩ d_Law_law_151 d_Law_law_152 d_Law_law_154 rfl d_Law_law_155 d_Law_law_156 ?_
  refine lw_arg hx hb hX hbl hbA hS hl hi (k := 2) ⟨by omega, hL⟩ d_Law_law_157 d_Law_law_158 d_Law_law_160 rfl d_Law_law_161 d_Law_law_162 ?_
  refine lw_arg hx hb hX hbl hbA hS hl hi (k := 3) ⟨by omega, hL⟩ d_Law_law_163 d_Law_law_164 d_Law_law_166 rfl d_Law_law_167 d_Law_law_168 ?_
  refine va_calli (va_runV (As := [.int (xs (i + 1)), .int (xs (i + 2)), .int (xs (i + 3))]) (rest := [.int r1]) ⟨hx, hb, hml, hown, hA⟩ (c_Mo_map l D tt ad 56 A zs _ 44 (v, ma, ms, mf, mb, mr)  (xs (i + 1)) (xs (i + 2)) (xs (i + 3)) c10 c11 c12 c13 c14 c15 o2) (cwV 3 hA (cd_gV aw_596 aw_597 aw_598 aw_8 aw_599) rfl rfl rfl ⟨rfl, by decide, by decide, by decide +kernel⟩ ⟨Nat.le_of_ble_eq_true rfl, Nat.le_of_ble_eq_true rfl⟩) ⟨cd_blind, cd_recv hK hP (k := 44) (by omega) c10.2 rfl, fun U hU hW => ⟨rfl, cd_pre hK hP hZ hS U hU hW⟩⟩ rfl rfl hl.1 rfl (lv_room (Nat.le_of_ble_eq_true rfl)) d_Law_law_169 ⟨hcs, hss⟩) hS (fun _ _ h => h) (fun _ h => h) (fun r2 w2 tE H locs ht hvm hr hP hz1 hk1 hS => ?_)
  have hP := cd_Pf ht hP
  obtain ⟨hr2, -, d10, d11, d12, d13, d14, d15, e2⟩ := hr
  have d0 := cd_DeskAt_keep c0 (fun k h1 h2 => e2 k (by omega))
  have d1 := cd_MemAt_keep c1 (fun k h1 h2 => e2 k (by omega))
  have d2 := cd_TtAt_keep c2 (fun k h1 h2 => e2 k (by omega))
  have d3 := cd_RowAt_keep c3 (fun k h1 h2 => e2 k (by omega))
  have d4 := cd_FwAt_keep c4 (fun k h1 h2 => e2 k (by omega))
  have d5 := cd_RowAt_keep c5 (fun k h1 h2 => e2 k (by omega))
  have d6 := cd_TcAt_keep c6 (fun k h1 h2 => e2 k (by omega))
  have d7 := cd_TtAt_keep c7 (fun k h1 h2 => e2 k (by omega))
  have d8 := cd_MemAt_keep c8 (fun k h1 h2 => e2 k (by omega))
  have d9 := cd_TtAt_keep c9 (fun k h1 h2 => e2 k (by omega))
  have d16 := cd_IaAt_keep c16 (fun k h1 h2 => e2 k (by omega))
  have d17 := cd_IaAt_keep c17 (fun k h1 h2 => e2 k (by omega))
  have d18 := cd_IaAt_keep c18 (fun k h1 h2 => e2 k (by omega))
  have d19 := cd_ByAt_keep c19 (fun k h1 h2 => e2 k (by omega))
  have d20 := cd_ByAt_keep c20 (fun k h1 h2 => e2 k (by omega))
  have d21 := (e2 55 (by omega)).trans c21
  exact lv_icmp_eq (tgt := 749) hx hb d_Law_law_172 (by decide) (fun _ => kk _ _ w2 ⟨_, _, _, _, _, _, _, _, _, _, _, _, _, _, _, _, _, _, _, _, _, ⟨d0, d1, d2, d3, d4, d5, d6, d7, d8, d9, d10, d11, d12, d13, d14, d15, d16, d17, d18, d19, d20, d21⟩, hR⟩ hP hS) (fun hc => absurd (hr1.symm.trans (heq.trans hr2)) hc)
theorem lc_unmap {p : Program} {l : Launch} {e : Env} {s : State} {m : MethodId} {below : List Frame} {meth : Method} {c : Code} {b L : Nat} {xs : Nat → Int32} {D : va_G} {tt : Nat → ClassId} {ad : Nat → Nat} {A : Nat → Prop} {zs : Nat → Nat} {Q : State → Prop} (X : lw_X p l s m c b L xs D tt A zs) {H : Heap} {locs : List Loc} {cells slots : Nat} (hcs : cells ≤ room_1.cells) (hss : slots ≤ room_1.slots) {ls : Array Slot} {i : Nat} (hi : i + 4 ≤ L) (hl : lv_has ls 7 (lw_ls b ad i)) {w : Nat → va_E} (hI : lw_I 56 tt ad w) (hP : cd_P D ad 56 A w H) (hS : va_S A s.heap H locs) (kk : ∀ (H1 : Heap) (locs1 : List Loc) (w1 : Nat → va_E), lw_I 56 tt ad w1 → cd_P D ad 56 A w1 H1 → va_S A s.heap H1 locs1 → W p l e room_1 s m #[Value.ref b] below meth c H1 locs1 cells slots Q (F0 m 749 ls [])) : W p l e room_1 s m #[Value.ref b] below meth c H locs cells slots Q (F0 m 177 ls []) := by
  obtain ⟨hx, hb, hml, hown, hA, hK, hZ, hX, hbl, hbA, hL, -⟩ := X
  obtain ⟨has, um, ut, uf, up, uc, uh, vm, vt, v, ma, ms, mf, mb, mr, mt, mi, mg, ml, mp, f, ⟨b0, b1, b2, b3, b4, b5, b6, b7, b8, b9, b10, b11, b12, b13, b14, b15, b16, b17, b18, b19, b20, b21⟩, hR⟩ := hI
  obtain ⟨o1, o2, heq, hR⟩ := lr_unmap hR (xs (i + 1))
  refine lv_aload_n hx hb d_Law_law_177 rfl (lv_at hl 1 rfl) ?_
  refine lw_arg hx hb hX hbl hbA hS hl hi (k := 1) ⟨by omega, hL⟩ d_Law_law_178 d_Law_law_179 d_Law_law_181 rfl d_Law_law_182 d_Law_law_183 ?_
  refine va_calli (va_runV (As := [.int (xs (i + 1))]) (rest := []) ⟨hx, hb, hml, hown, hA⟩ (c_Desk_unmap l D tt ad 56 A zs w 0 has um (xs (i + 1)) b0 b1 o1) (cwV 1 hA (cd_gV aw_140 aw_141 aw_142 aw_1 aw_143) rfl rfl rfl ⟨rfl, by decide, by decide, by decide +kernel⟩ ⟨Nat.le_of_ble_eq_true rfl, Nat.le_of_ble_eq_true rfl⟩) ⟨cd_blind, cd_recv hK hP (k := 0) (by omega) b0.2 rfl, fun U hU hW => ⟨rfl, cd_pre hK hP hZ hS U hU hW⟩⟩ rfl rfl hl.1 rfl (lv_room (Nat.le_of_ble_eq_true rfl)) d_Law_law_184 ⟨hcs, hss⟩) hS (fun _ _ h => h) (fun _ h => h) (fun r1 w1 tE H locs ht hvm hr hP hz1 hk1 hS => ?_)
  have hP := cd_Pf ht hP
  obtain ⟨hr1, -, c1, e1⟩ := hr
  have c0 := cd_DeskAt_keep b0 (fun k h1 h2 => e1 k (by omega))
  have c2 := cd_TtAt_keep b2 (fun k h1 h2 => e1 k (by omega))
  have c3 := cd_RowAt_keep b3 (fun k h1 h2 => e1 k (by omega))
  have c4 := cd_FwAt_keep b4 (fun k h1 h2 => e1 k (by omega))
  have c5 := cd_RowAt_keep b5 (fun k h1 h2 => e1 k (by omega))
  have c6 := cd_TcAt_keep b6 (fun k h1 h2 => e1 k (by omega))
  have c7 := cd_TtAt_keep b7 (fun k h1 h2 => e1 k (by omega))
  have c8 := cd_MemAt_keep b8 (fun k h1 h2 => e1 k (by omega))
  have c9 := cd_TtAt_keep b9 (fun k h1 h2 => e1 k (by omega))
  have c10 := cd_MoAt_keep b10 (fun k h1 h2 => e1 k (by omega))
  have c11 := cd_IaAt_keep b11 (fun k h1 h2 => e1 k (by omega))
  have c12 := cd_IaAt_keep b12 (fun k h1 h2 => e1 k (by omega))
  have c13 := cd_IaAt_keep b13 (fun k h1 h2 => e1 k (by omega))
  have c14 := cd_ByAt_keep b14 (fun k h1 h2 => e1 k (by omega))
  have c15 := cd_IaAt_keep b15 (fun k h1 h2 => e1 k (by omega))
  have c16 := cd_IaAt_keep b16 (fun k h1 h2 => e1 k (by omega))
  have c17 := cd_IaAt_keep b17 (fun k h1 h2 => e1 k (by omega))
  have c18 := cd_IaAt_keep b18 (fun k h1 h2 => e1 k (by omega))
  have c19 := cd_ByAt_keep b19 (fun k h1 h2 => e1 k (by omega))
  have c20 := cd_ByAt_keep b20 (fun k h1 h2 => e1 k (by omega))
  have c21 := (e1 55 (by omega)).trans b21
  refine lv_aload_n hx hb d_Law_law_187 rfl (lv_at hl 2 rfl) ?_
  refine lw_arg hx hb hX hbl hbA hS hl hi (k := 1) ⟨by omega, hL⟩ d_Law_law_188 d_Law_law_189 d_Law_law_191 rfl d_Law_law_192 d_Law_law_193 ?_
  refine va_calli (va_runV (As := [.int (xs (i + 1))]) (rest := [.int r1]) ⟨hx, hb, hml, hown, hA⟩ (c_Mo_unmap l D tt ad 56 A zs _ 44 (v, ma, ms, mf, mb, mr)  (xs (i + 1)) c10 c11 c12 c13 c14 c15 o2) (cwV 1 hA (cd_gV aw_604 aw_605 aw_606 aw_8 aw_607) rfl rfl rfl ⟨rfl, by decide, by decide, by decide +kernel⟩ ⟨Nat.le_of_ble_eq_true rfl, Nat.le_of_ble_eq_true rfl⟩) ⟨cd_blind, cd_recv hK hP (k := 44) (by omega) c10.2 rfl, fun U hU hW => ⟨rfl, cd_pre hK hP hZ hS U hU hW⟩⟩ rfl rfl hl.1 rfl (lv_room (Nat.le_of_ble_eq_true rfl)) d_Law_law_194 ⟨hcs, hss⟩) hS (fun _ _ h => h) (fun _ h => h) (fun r2 w2 tE H locs ht hvm hr hP hz1 hk1 hS => ?_)
  have hP := cd_Pf ht hP
  obtain ⟨hr2, -, d10, d11, d12, d13, d14, d15, e2⟩ := hr
  have d0 := cd_DeskAt_keep c0 (fun k h1 h2 => e2 k (by omega))
  have d1 := cd_MemAt_keep c1 (fun k h1 h2 => e2 k (by omega))
  have d2 := cd_TtAt_keep c2 (fun k h1 h2 => e2 k (by omega))
  have d3 := cd_RowAt_keep c3 (fun k h1 h2 => e2 k (by omega))
  have d4 := cd_FwAt_keep c4 (fun k h1 h2 => e2 k (by omega))
  have d5 := cd_RowAt_keep c5 (fun k h1 h2 => e2 k (by omega))
  have d6 := cd_TcAt_keep c6 (fun k h1 h2 => e2 k (by omega))
  have d7 := cd_TtAt_keep c7 (fun k h1 h2 => e2 k (by omega))
  have d8 := cd_MemAt_keep c8 (fun k h1 h2 => e2 k (by omega))
  have d9 := cd_TtAt_keep c9 (fun k h1 h2 => e2 k (by omega))
  have d16 := cd_IaAt_keep c16 (fun k h1 h2 => e2 k (by omega))
  have d17 := cd_IaAt_keep c17 (fun k h1 h2 => e2 k (by omega))
  have d18 := cd_IaAt_keep c18 (fun k h1 h2 => e2 k (by omega))
  have d19 := cd_ByAt_keep c19 (fun k h1 h2 => e2 k (by omega))
  have d20 := cd_ByAt_keep c20 (fun k h1 h2 => e2 k (by omega))
  have d21 := (e2 55 (by omega)).trans c21
  exact lv_icmp_eq (tgt := 749) hx hb d_Law_law_197 (by decide) (fun _ => kk _ _ w2 ⟨_, _, _, _, _, _, _, _, _, _, _, _, _, _, _, _, _, _, _, _, _, ⟨d0, d1, d2, d3, d4, d5, d6, d7, d8, d9, d10, d11, d12, d13, d14, d15, d16, d17, d18, d19, d20, d21⟩, hR⟩ hP hS) (fun hc => absurd (hr1.symm.trans (heq.trans hr2)) hc)
theorem lc_poke {p : Program} {l : Launch} {e : Env} {s : State} {m : MethodId} {below : List Frame} {meth : Method} {c : Code} {b L : Nat} {xs : Nat → Int32} {D : va_G} {tt : Nat → ClassId} {ad : Nat → Nat} {A : Nat → Prop} {zs : Nat → Nat} {Q : State → Prop} (X : lw_X p l s m c b L xs D tt A zs) {H : Heap} {locs : List Loc} {cells slots : Nat} (hcs : cells ≤ room_1.cells) (hss : slots ≤ room_1.slots) {ls : Array Slot} {i : Nat} (hi : i + 4 ≤ L) (hl : lv_has ls 7 (lw_ls b ad i)) {w : Nat → va_E} (hI : lw_I 56 tt ad w) (hP : cd_P D ad 56 A w H) (hS : va_S A s.heap H locs) (kk : ∀ (H1 : Heap) (locs1 : List Loc) (w1 : Nat → va_E), lw_I 56 tt ad w1 → cd_P D ad 56 A w1 H1 → va_S A s.heap H1 locs1 → W p l e room_1 s m #[Value.ref b] below meth c H1 locs1 cells slots Q (F0 m 749 ls [])) : W p l e room_1 s m #[Value.ref b] below meth c H locs cells slots Q (F0 m 202 ls []) := by
  obtain ⟨hx, hb, hml, hown, hA, hK, hZ, hX, hbl, hbA, hL, -⟩ := X
  obtain ⟨has, um, ut, uf, up, uc, uh, vm, vt, v, ma, ms, mf, mb, mr, mt, mi, mg, ml, mp, f, ⟨b0, b1, b2, b3, b4, b5, b6, b7, b8, b9, b10, b11, b12, b13, b14, b15, b16, b17, b18, b19, b20, b21⟩, hR⟩ := hI
  obtain ⟨o1, o2, heq, hR⟩ := lr_poke hR (xs (i + 1)) (xs (i + 2))
  refine lv_aload_n hx hb d_Law_law_202 rfl (lv_at hl 1 rfl) ?_
  refine lw_arg hx hb hX hbl hbA hS hl hi (k := 1) ⟨by omega, hL⟩ d_Law_law_203 d_Law_law_204 d_Law_law_206 rfl d_Law_law_207 d_Law_law_208 ?_
  refine lw_arg hx hb hX hbl hbA hS hl hi (k := 2) ⟨by omega, hL⟩ d_Law_law_209 d_Law_law_210 d_Law_law_212 rfl d_Law_law_213 d_Law_law_214 ?_
  refine va_calli (va_runV (As := [.int (xs (i + 1)), .int (xs (i + 2))]) (rest := []) ⟨hx, hb, hml, hown, hA⟩ (c_Desk_poke l D tt ad 56 A zs w 0 has um (xs (i + 1)) (xs (i + 2)) b0 b1 o1) (cwV 2 hA (cd_gV aw_155 aw_156 aw_157 aw_1 aw_158) rfl rfl rfl ⟨rfl, by decide, by decide, by decide +kernel⟩ ⟨Nat.le_of_ble_eq_true rfl, Nat.le_of_ble_eq_true rfl⟩) ⟨cd_blind, cd_recv hK hP (k := 0) (by omega) b0.2 rfl, fun U hU hW => ⟨rfl, cd_pre hK hP hZ hS U hU hW⟩⟩ rfl rfl hl.1 rfl (lv_room (Nat.le_of_ble_eq_true rfl)) d_Law_law_215 ⟨hcs, hss⟩) hS (fun _ _ h => h) (fun _ h => h) (fun r1 w1 tE H locs ht hvm hr hP hz1 hk1 hS => ?_)
  have hP := cd_Pf ht hP
  obtain ⟨hr1, -, c1, e1⟩ := hr
  have c0 := cd_DeskAt_keep b0 (fun k h1 h2 => e1 k (by omega))
  have c2 := cd_TtAt_keep b2 (fun k h1 h2 => e1 k (by omega))
  have c3 := cd_RowAt_keep b3 (fun k h1 h2 => e1 k (by omega))
  have c4 := cd_FwAt_keep b4 (fun k h1 h2 => e1 k (by omega))
  have c5 := cd_RowAt_keep b5 (fun k h1 h2 => e1 k (by omega))
  have c6 := cd_TcAt_keep b6 (fun k h1 h2 => e1 k (by omega))
  have c7 := cd_TtAt_keep b7 (fun k h1 h2 => e1 k (by omega))
  have c8 := cd_MemAt_keep b8 (fun k h1 h2 => e1 k (by omega))
  have c9 := cd_TtAt_keep b9 (fun k h1 h2 => e1 k (by omega))
  have c10 := cd_MoAt_keep b10 (fun k h1 h2 => e1 k (by omega))
  have c11 := cd_IaAt_keep b11 (fun k h1 h2 => e1 k (by omega))
  have c12 := cd_IaAt_keep b12 (fun k h1 h2 => e1 k (by omega))
  have c13 := cd_IaAt_keep b13 (fun k h1 h2 => e1 k (by omega))
  have c14 := cd_ByAt_keep b14 (fun k h1 h2 => e1 k (by omega))
  have c15 := cd_IaAt_keep b15 (fun k h1 h2 => e1 k (by omega))
  have c16 := cd_IaAt_keep b16 (fun k h1 h2 => e1 k (by omega))
  have c17 := cd_IaAt_keep b17 (fun k h1 h2 => e1 k (by omega))
  have c18 := cd_IaAt_keep b18 (fun k h1 h2 => e1 k (by omega))
  have c19 := cd_ByAt_keep b19 (fun k h1 h2 => e1 k (by omega))
  have c20 := cd_ByAt_keep b20 (fun k h1 h2 => e1 k (by omega))
  have c21 := (e1 55 (by omega)).trans b21
  refine lv_aload_n hx hb d_Law_law_218 rfl (lv_at hl 2 rfl) ?_
  refine lw_arg hx hb hX hbl hbA hS hl hi (k := 1) ⟨by omega, hL⟩ d_Law_law_219 d_Law_law_220 d_Law_law_222 rfl d_Law_law_223 d_Law_law_224 ?_
  refine lw_arg hx hb hX hbl hbA hS hl hi (k := 2) ⟨by omega, hL⟩ d_Law_law_225 d_Law_law_226 d_Law_law_228 rfl d_Law_law_229 d_Law_law_230 ?_
  refine va_calli (va_runV (As := [.int (xs (i + 1)), .int (xs (i + 2))]) (rest := [.int r1]) ⟨hx, hb, hml, hown, hA⟩ (c_Mo_poke l D tt ad 56 A zs _ 44 (v, mb) ma ms mr (xs (i + 1)) (xs (i + 2)) c10 c11 c12 c14 c15 o2) (cwV 2 hA (cd_gV aw_611 aw_612 aw_613 aw_8 aw_614) rfl rfl rfl ⟨rfl, by decide, by decide, by decide +kernel⟩ ⟨Nat.le_of_ble_eq_true rfl, Nat.le_of_ble_eq_true rfl⟩) ⟨cd_blind, cd_recv hK hP (k := 44) (by omega) c10.2 rfl, fun U hU hW => ⟨rfl, cd_pre hK hP hZ hS U hU hW⟩⟩ rfl rfl hl.1 rfl (lv_room (Nat.le_of_ble_eq_true rfl)) d_Law_law_231 ⟨hcs, hss⟩) hS (fun _ _ h => h) (fun _ h => h) (fun r2 w2 tE H locs ht hvm hr hP hz1 hk1 hS => ?_)
  have hP := cd_Pf ht hP
  obtain ⟨hr2, -, d10, d14, e2⟩ := hr
  have d0 := cd_DeskAt_keep c0 (fun k h1 h2 => e2 k (by omega))
  have d1 := cd_MemAt_keep c1 (fun k h1 h2 => e2 k (by omega))
  have d2 := cd_TtAt_keep c2 (fun k h1 h2 => e2 k (by omega))
  have d3 := cd_RowAt_keep c3 (fun k h1 h2 => e2 k (by omega))
  have d4 := cd_FwAt_keep c4 (fun k h1 h2 => e2 k (by omega))
  have d5 := cd_RowAt_keep c5 (fun k h1 h2 => e2 k (by omega))
  have d6 := cd_TcAt_keep c6 (fun k h1 h2 => e2 k (by omega))
  have d7 := cd_TtAt_keep c7 (fun k h1 h2 => e2 k (by omega))
  have d8 := cd_MemAt_keep c8 (fun k h1 h2 => e2 k (by omega))
  have d9 := cd_TtAt_keep c9 (fun k h1 h2 => e2 k (by omega))
  have d11 := cd_IaAt_keep c11 (fun k h1 h2 => e2 k (by omega))
  have d12 := cd_IaAt_keep c12 (fun k h1 h2 => e2 k (by omega))
  have d13 := cd_IaAt_keep c13 (fun k h1 h2 => e2 k (by omega))
  have d15 := cd_IaAt_keep c15 (fun k h1 h2 => e2 k (by omega))
  have d16 := cd_IaAt_keep c16 (fun k h1 h2 => e2 k (by omega))
  have d17 := cd_IaAt_keep c17 (fun k h1 h2 => e2 k (by omega))
  have d18 := cd_IaAt_keep c18 (fun k h1 h2 => e2 k (by omega))
  have d19 := cd_ByAt_keep c19 (fun k h1 h2 => e2 k (by omega))
  have d20 := cd_ByAt_keep c20 (fun k h1 h2 => e2 k (by omega))
  have d21 := (e2 55 (by omega)).trans c21
  exact lv_icmp_eq (tgt := 749) hx hb d_Law_law_234 (by decide) (fun _ => kk _ _ w2 ⟨_, _, _, _, _, _, _, _, _, _, _, _, _, _, _, _, _, _, _, _, _, ⟨d0, d1, d2, d3, d4, d5, d6, d7, d8, d9, d10, d11, d12, d13, d14, d15, d16, d17, d18, d19, d20, d21⟩, hR⟩ hP hS) (fun hc => absurd (hr1.symm.trans (heq.trans hr2)) hc)
theorem lc_pokeFour {p : Program} {l : Launch} {e : Env} {s : State} {m : MethodId} {below : List Frame} {meth : Method} {c : Code} {b L : Nat} {xs : Nat → Int32} {D : va_G} {tt : Nat → ClassId} {ad : Nat → Nat} {A : Nat → Prop} {zs : Nat → Nat} {Q : State → Prop} (X : lw_X p l s m c b L xs D tt A zs) {H : Heap} {locs : List Loc} {cells slots : Nat} (hcs : cells ≤ room_1.cells) (hss : slots ≤ room_1.slots) {ls : Array Slot} {i : Nat} (hi : i + 4 ≤ L) (hl : lv_has ls 7 (lw_ls b ad i)) {w : Nat → va_E} (hI : lw_I 56 tt ad w) (hP : cd_P D ad 56 A w H) (hS : va_S A s.heap H locs) (kk : ∀ (H1 : Heap) (locs1 : List Loc) (w1 : Nat → va_E), lw_I 56 tt ad w1 → cd_P D ad 56 A w1 H1 → va_S A s.heap H1 locs1 → W p l e room_1 s m #[Value.ref b] below meth c H1 locs1 cells slots Q (F0 m 749 ls [])) : W p l e room_1 s m #[Value.ref b] below meth c H locs cells slots Q (F0 m 239 ls []) := by
  obtain ⟨hx, hb, hml, hown, hA, hK, hZ, hX, hbl, hbA, hL, -⟩ := X
  obtain ⟨has, um, ut, uf, up, uc, uh, vm, vt, v, ma, ms, mf, mb, mr, mt, mi, mg, ml, mp, f, ⟨b0, b1, b2, b3, b4, b5, b6, b7, b8, b9, b10, b11, b12, b13, b14, b15, b16, b17, b18, b19, b20, b21⟩, hR⟩ := hI
  obtain ⟨o1, o2, heq, hR⟩ := lr_pokeFour hR (xs (i + 1)) (xs (i + 2))
  refine lv_aload_n hx hb d_Law_law_239 rfl (lv_at hl 1 rfl) ?_
  refine lw_arg hx hb hX hbl hbA hS hl hi (k := 1) ⟨by omega, hL⟩ d_Law_law_240 d_Law_law_241 d_Law_law_243 rfl d_Law_law_244 d_Law_law_245 ?_
  refine lw_arg hx hb hX hbl hbA hS hl hi (k := 2) ⟨by omega, hL⟩ d_Law_law_246 d_Law_law_247 d_Law_law_249 rfl d_Law_law_250 d_Law_law_251 ?_
  refine va_calli (va_runV (As := [.int (xs (i + 1)), .int (xs (i + 2))]) (rest := []) ⟨hx, hb, hml, hown, hA⟩ (c_Desk_pokeFour l D tt ad 56 A zs w 0 has um (xs (i + 1)) (xs (i + 2)) b0 b1 o1) (cwV 2 hA (cd_gV aw_167 aw_168 aw_169 aw_1 aw_170) rfl rfl rfl ⟨rfl, by decide, by decide, by decide +kernel⟩ ⟨Nat.le_of_ble_eq_true rfl, Nat.le_of_ble_eq_true rfl⟩) ⟨cd_blind, cd_recv hK hP (k := 0) (by omega) b0.2 rfl, fun U hU hW => ⟨rfl, cd_pre hK hP hZ hS U hU hW⟩⟩ rfl rfl hl.1 rfl (lv_room (Nat.le_of_ble_eq_true rfl)) d_Law_law_252 ⟨hcs, hss⟩) hS (fun _ _ h => h) (fun _ h => h) (fun r1 w1 tE H locs ht hvm hr hP hz1 hk1 hS => ?_)
  have hP := cd_Pf ht hP
  obtain ⟨hr1, -, c1, e1⟩ := hr
  have c0 := cd_DeskAt_keep b0 (fun k h1 h2 => e1 k (by omega))
  have c2 := cd_TtAt_keep b2 (fun k h1 h2 => e1 k (by omega))
  have c3 := cd_RowAt_keep b3 (fun k h1 h2 => e1 k (by omega))
  have c4 := cd_FwAt_keep b4 (fun k h1 h2 => e1 k (by omega))
  have c5 := cd_RowAt_keep b5 (fun k h1 h2 => e1 k (by omega))
  have c6 := cd_TcAt_keep b6 (fun k h1 h2 => e1 k (by omega))
  have c7 := cd_TtAt_keep b7 (fun k h1 h2 => e1 k (by omega))
  have c8 := cd_MemAt_keep b8 (fun k h1 h2 => e1 k (by omega))
  have c9 := cd_TtAt_keep b9 (fun k h1 h2 => e1 k (by omega))
  have c10 := cd_MoAt_keep b10 (fun k h1 h2 => e1 k (by omega))
  have c11 := cd_IaAt_keep b11 (fun k h1 h2 => e1 k (by omega))
  have c12 := cd_IaAt_keep b12 (fun k h1 h2 => e1 k (by omega))
  have c13 := cd_IaAt_keep b13 (fun k h1 h2 => e1 k (by omega))
  have c14 := cd_ByAt_keep b14 (fun k h1 h2 => e1 k (by omega))
  have c15 := cd_IaAt_keep b15 (fun k h1 h2 => e1 k (by omega))
  have c16 := cd_IaAt_keep b16 (fun k h1 h2 => e1 k (by omega))
  have c17 := cd_IaAt_keep b17 (fun k h1 h2 => e1 k (by omega))
  have c18 := cd_IaAt_keep b18 (fun k h1 h2 => e1 k (by omega))
  have c19 := cd_ByAt_keep b19 (fun k h1 h2 => e1 k (by omega))
  have c20 := cd_ByAt_keep b20 (fun k h1 h2 => e1 k (by omega))
  have c21 := (e1 55 (by omega)).trans b21
  refine lv_aload_n hx hb d_Law_law_255 rfl (lv_at hl 2 rfl) ?_
  refine lw_arg hx hb hX hbl hbA hS hl hi (k := 1) ⟨by omega, hL⟩ d_Law_law_256 d_Law_law_257 d_Law_law_259 rfl d_Law_law_260 d_Law_law_261 ?_
  refine lw_arg hx hb hX hbl hbA hS hl hi (k := 2) ⟨by omega, hL⟩ d_Law_law_262 d_Law_law_263 d_Law_law_265 rfl d_Law_law_266 d_Law_law_267 ?_
  refine va_calli (va_runV (As := [.int (xs (i + 1)), .int (xs (i + 2))]) (rest := [.int r1]) ⟨hx, hb, hml, hown, hA⟩ (c_Mo_pokeFour l D tt ad 56 A zs _ 44 (v, mb) ma ms mr (xs (i + 1)) (xs (i + 2)) c10 c11 c12 c14 c15 o2) (cwV 2 hA (cd_gV aw_615 aw_616 aw_617 aw_8 aw_618) rfl rfl rfl ⟨rfl, by decide, by decide, by decide +kernel⟩ ⟨Nat.le_of_ble_eq_true rfl, Nat.le_of_ble_eq_true rfl⟩) ⟨cd_blind, cd_recv hK hP (k := 44) (by omega) c10.2 rfl, fun U hU hW => ⟨rfl, cd_pre hK hP hZ hS U hU hW⟩⟩ rfl rfl hl.1 rfl (lv_room (Nat.le_of_ble_eq_true rfl)) d_Law_law_268 ⟨hcs, hss⟩) hS (fun _ _ h => h) (fun _ h => h) (fun r2 w2 tE H locs ht hvm hr hP hz1 hk1 hS => ?_)
  have hP := cd_Pf ht hP
  obtain ⟨hr2, -, d10, d14, e2⟩ := hr
  have d0 := cd_DeskAt_keep c0 (fun k h1 h2 => e2 k (by omega))
  have d1 := cd_MemAt_keep c1 (fun k h1 h2 => e2 k (by omega))
  have d2 := cd_TtAt_keep c2 (fun k h1 h2 => e2 k (by omega))
  have d3 := cd_RowAt_keep c3 (fun k h1 h2 => e2 k (by omega))
  have d4 := cd_FwAt_keep c4 (fun k h1 h2 => e2 k (by omega))
  have d5 := cd_RowAt_keep c5 (fun k h1 h2 => e2 k (by omega))
  have d6 := cd_TcAt_keep c6 (fun k h1 h2 => e2 k (by omega))
  have d7 := cd_TtAt_keep c7 (fun k h1 h2 => e2 k (by omega))
  have d8 := cd_MemAt_keep c8 (fun k h1 h2 => e2 k (by omega))
  have d9 := cd_TtAt_keep c9 (fun k h1 h2 => e2 k (by omega))
  have d11 := cd_IaAt_keep c11 (fun k h1 h2 => e2 k (by omega))
  have d12 := cd_IaAt_keep c12 (fun k h1 h2 => e2 k (by omega))
  have d13 := cd_IaAt_keep c13 (fun k h1 h2 => e2 k (by omega))
  have d15 := cd_IaAt_keep c15 (fun k h1 h2 => e2 k (by omega))
  have d16 := cd_IaAt_keep c16 (fun k h1 h2 => e2 k (by omega))
  have d17 := cd_IaAt_keep c17 (fun k h1 h2 => e2 k (by omega))
  have d18 := cd_IaAt_keep c18 (fun k h1 h2 => e2 k (by omega))
  have d19 := cd_ByAt_keep c19 (fun k h1 h2 => e2 k (by omega))
  have d20 := cd_ByAt_keep c20 (fun k h1 h2 => e2 k (by omega))
  have d21 := (e2 55 (by omega)).trans c21
  exact lv_icmp_eq (tgt := 749) hx hb d_Law_law_271 (by decide) (fun _ => kk _ _ w2 ⟨_, _, _, _, _, _, _, _, _, _, _, _, _, _, _, _, _, _, _, _, _, ⟨d0, d1, d2, d3, d4, d5, d6, d7, d8, d9, d10, d11, d12, d13, d14, d15, d16, d17, d18, d19, d20, d21⟩, hR⟩ hP hS) (fun hc => absurd (hr1.symm.trans (heq.trans hr2)) hc)
theorem lc_thread {p : Program} {l : Launch} {e : Env} {s : State} {m : MethodId} {below : List Frame} {meth : Method} {c : Code} {b L : Nat} {xs : Nat → Int32} {D : va_G} {tt : Nat → ClassId} {ad : Nat → Nat} {A : Nat → Prop} {zs : Nat → Nat} {Q : State → Prop} (X : lw_X p l s m c b L xs D tt A zs) {H : Heap} {locs : List Loc} {cells slots : Nat} (hcs : cells ≤ room_1.cells) (hss : slots ≤ room_1.slots) {ls : Array Slot} {i : Nat} (hi : i + 4 ≤ L) (hl : lv_has ls 7 (lw_ls b ad i)) {w : Nat → va_E} (hI : lw_I 56 tt ad w) (hP : cd_P D ad 56 A w H) (hS : va_S A s.heap H locs) (kk : ∀ (H1 : Heap) (locs1 : List Loc) (w1 : Nat → va_E), lw_I 56 tt ad w1 → cd_P D ad 56 A w1 H1 → va_S A s.heap H1 locs1 → W p l e room_1 s m #[Value.ref b] below meth c H1 locs1 cells slots Q (F0 m 749 ls [])) : W p l e room_1 s m #[Value.ref b] below meth c H locs cells slots Q (F0 m 276 ls []) := by
  obtain ⟨hx, hb, hml, hown, hA, hK, hZ, hX, hbl, hbA, hL, -⟩ := X
  obtain ⟨has, um, ut, uf, up, uc, uh, vm, vt, v, ma, ms, mf, mb, mr, mt, mi, mg, ml, mp, f, ⟨b0, b1, b2, b3, b4, b5, b6, b7, b8, b9, b10, b11, b12, b13, b14, b15, b16, b17, b18, b19, b20, b21⟩, hR⟩ := hI
  obtain ⟨o1, o2, heq, hR⟩ := lr_thread hR (xs (i + 1))
  refine lv_aload_n hx hb d_Law_law_276 rfl (lv_at hl 1 rfl) ?_
  refine lw_arg hx hb hX hbl hbA hS hl hi (k := 1) ⟨by omega, hL⟩ d_Law_law_277 d_Law_law_278 d_Law_law_280 rfl d_Law_law_281 d_Law_law_282 ?_
  refine va_calli (va_runV (As := [.int (xs (i + 1))]) (rest := []) ⟨hx, hb, hml, hown, hA⟩ (c_Desk_thread l D tt ad 56 A zs w 0 has ut (xs (i + 1)) b0 b2 o1) (cwV 1 hA (cd_gV aw_180 aw_181 aw_182 aw_1 aw_183) rfl rfl rfl ⟨rfl, by decide, by decide, by decide +kernel⟩ ⟨Nat.le_of_ble_eq_true rfl, Nat.le_of_ble_eq_true rfl⟩) ⟨cd_blind, cd_recv hK hP (k := 0) (by omega) b0.2 rfl, fun U hU hW => ⟨rfl, cd_pre hK hP hZ hS U hU hW⟩⟩ rfl rfl hl.1 rfl (lv_room (Nat.le_of_ble_eq_true rfl)) d_Law_law_283 ⟨hcs, hss⟩) hS (fun _ _ h => h) (fun _ h => h) (fun r1 w1 tE H locs ht hvm hr hP hz1 hk1 hS => ?_)
  have hP := cd_Pf ht hP
  obtain ⟨hr1, c2, e1⟩ := hr
  have c0 := cd_DeskAt_keep b0 (fun k h1 h2 => e1 k (by omega))
  have c1 := cd_MemAt_keep b1 (fun k h1 h2 => e1 k (by omega))
  have c3 := cd_RowAt_keep b3 (fun k h1 h2 => e1 k (by omega))
  have c4 := cd_FwAt_keep b4 (fun k h1 h2 => e1 k (by omega))
  have c5 := cd_RowAt_keep b5 (fun k h1 h2 => e1 k (by omega))
  have c6 := cd_TcAt_keep b6 (fun k h1 h2 => e1 k (by omega))
  have c7 := cd_TtAt_keep b7 (fun k h1 h2 => e1 k (by omega))
  have c8 := cd_MemAt_keep b8 (fun k h1 h2 => e1 k (by omega))
  have c9 := cd_TtAt_keep b9 (fun k h1 h2 => e1 k (by omega))
  have c10 := cd_MoAt_keep b10 (fun k h1 h2 => e1 k (by omega))
  have c11 := cd_IaAt_keep b11 (fun k h1 h2 => e1 k (by omega))
  have c12 := cd_IaAt_keep b12 (fun k h1 h2 => e1 k (by omega))
  have c13 := cd_IaAt_keep b13 (fun k h1 h2 => e1 k (by omega))
  have c14 := cd_ByAt_keep b14 (fun k h1 h2 => e1 k (by omega))
  have c15 := cd_IaAt_keep b15 (fun k h1 h2 => e1 k (by omega))
  have c16 := cd_IaAt_keep b16 (fun k h1 h2 => e1 k (by omega))
  have c17 := cd_IaAt_keep b17 (fun k h1 h2 => e1 k (by omega))
  have c18 := cd_IaAt_keep b18 (fun k h1 h2 => e1 k (by omega))
  have c19 := cd_ByAt_keep b19 (fun k h1 h2 => e1 k (by omega))
  have c20 := cd_ByAt_keep b20 (fun k h1 h2 => e1 k (by omega))
  have c21 := (e1 55 (by omega)).trans b21
  refine lv_aload_n hx hb d_Law_law_286 rfl (lv_at hl 2 rfl) ?_
  refine lw_arg hx hb hX hbl hbA hS hl hi (k := 1) ⟨by omega, hL⟩ d_Law_law_287 d_Law_law_288 d_Law_law_290 rfl d_Law_law_291 d_Law_law_292 ?_
  refine va_calli (va_runV (As := [.int (xs (i + 1))]) (rest := [.int r1]) ⟨hx, hb, hml, hown, hA⟩ (c_Mo_thread l D tt ad 56 A zs _ 44 (v, mt, mi, mg)  (xs (i + 1)) c10 c16 c17 c18 o2) (cwV 1 hA (cd_gV aw_619 aw_620 aw_621 aw_8 aw_622) rfl rfl rfl ⟨rfl, by decide, by decide, by decide +kernel⟩ ⟨Nat.le_of_ble_eq_true rfl, Nat.le_of_ble_eq_true rfl⟩) ⟨cd_blind, cd_recv hK hP (k := 44) (by omega) c10.2 rfl, fun U hU hW => ⟨rfl, cd_pre hK hP hZ hS U hU hW⟩⟩ rfl rfl hl.1 rfl (lv_room (Nat.le_of_ble_eq_true rfl)) d_Law_law_293 ⟨hcs, hss⟩) hS (fun _ _ h => h) (fun _ h => h) (fun r2 w2 tE H locs ht hvm hr hP hz1 hk1 hS => ?_)
  have hP := cd_Pf ht hP
  obtain ⟨hr2, d10, d16, d17, d18, e2⟩ := hr
  have d0 := cd_DeskAt_keep c0 (fun k h1 h2 => e2 k (by omega))
  have d1 := cd_MemAt_keep c1 (fun k h1 h2 => e2 k (by omega))
  have d2 := cd_TtAt_keep c2 (fun k h1 h2 => e2 k (by omega))
  have d3 := cd_RowAt_keep c3 (fun k h1 h2 => e2 k (by omega))
  have d4 := cd_FwAt_keep c4 (fun k h1 h2 => e2 k (by omega))
  have d5 := cd_RowAt_keep c5 (fun k h1 h2 => e2 k (by omega))
  have d6 := cd_TcAt_keep c6 (fun k h1 h2 => e2 k (by omega))
  have d7 := cd_TtAt_keep c7 (fun k h1 h2 => e2 k (by omega))
  have d8 := cd_MemAt_keep c8 (fun k h1 h2 => e2 k (by omega))
  have d9 := cd_TtAt_keep c9 (fun k h1 h2 => e2 k (by omega))
  have d11 := cd_IaAt_keep c11 (fun k h1 h2 => e2 k (by omega))
  have d12 := cd_IaAt_keep c12 (fun k h1 h2 => e2 k (by omega))
  have d13 := cd_IaAt_keep c13 (fun k h1 h2 => e2 k (by omega))
  have d14 := cd_ByAt_keep c14 (fun k h1 h2 => e2 k (by omega))
  have d15 := cd_IaAt_keep c15 (fun k h1 h2 => e2 k (by omega))
  have d19 := cd_ByAt_keep c19 (fun k h1 h2 => e2 k (by omega))
  have d20 := cd_ByAt_keep c20 (fun k h1 h2 => e2 k (by omega))
  have d21 := (e2 55 (by omega)).trans c21
  exact lv_icmp_eq (tgt := 749) hx hb d_Law_law_296 (by decide) (fun _ => kk _ _ w2 ⟨_, _, _, _, _, _, _, _, _, _, _, _, _, _, _, _, _, _, _, _, _, ⟨d0, d1, d2, d3, d4, d5, d6, d7, d8, d9, d10, d11, d12, d13, d14, d15, d16, d17, d18, d19, d20, d21⟩, hR⟩ hP hS) (fun hc => absurd (hr1.symm.trans (heq.trans hr2)) hc)
theorem lc_set {p : Program} {l : Launch} {e : Env} {s : State} {m : MethodId} {below : List Frame} {meth : Method} {c : Code} {b L : Nat} {xs : Nat → Int32} {D : va_G} {tt : Nat → ClassId} {ad : Nat → Nat} {A : Nat → Prop} {zs : Nat → Nat} {Q : State → Prop} (X : lw_X p l s m c b L xs D tt A zs) {H : Heap} {locs : List Loc} {cells slots : Nat} (hcs : cells ≤ room_1.cells) (hss : slots ≤ room_1.slots) {ls : Array Slot} {i : Nat} (hi : i + 4 ≤ L) (hl : lv_has ls 7 (lw_ls b ad i)) {w : Nat → va_E} (hI : lw_I 56 tt ad w) (hP : cd_P D ad 56 A w H) (hS : va_S A s.heap H locs) (kk : ∀ (H1 : Heap) (locs1 : List Loc) (w1 : Nat → va_E), lw_I 56 tt ad w1 → cd_P D ad 56 A w1 H1 → va_S A s.heap H1 locs1 → W p l e room_1 s m #[Value.ref b] below meth c H1 locs1 cells slots Q (F0 m 749 ls [])) : W p l e room_1 s m #[Value.ref b] below meth c H locs cells slots Q (F0 m 301 ls []) := by
  obtain ⟨hx, hb, hml, hown, hA, hK, hZ, hX, hbl, hbA, hL, -⟩ := X
  obtain ⟨has, um, ut, uf, up, uc, uh, vm, vt, v, ma, ms, mf, mb, mr, mt, mi, mg, ml, mp, f, ⟨b0, b1, b2, b3, b4, b5, b6, b7, b8, b9, b10, b11, b12, b13, b14, b15, b16, b17, b18, b19, b20, b21⟩, hR⟩ := hI
  obtain ⟨o1, o2, heq, hR⟩ := lr_set hR (xs (i + 1)) (xs (i + 2)) (xs (i + 3))
  refine lv_aload_n hx hb d_Law_law_301 rfl (lv_at hl 1 rfl) ?_
  refine lw_arg hx hb hX hbl hbA hS hl hi (k := 1) ⟨by omega, hL⟩ d_Law_law_302 d_Law_law_303 d_Law_law_305 rfl d_Law_law_306 d_Law_law_307 ?_
  refine lw_arg hx hb hX hbl hbA hS hl hi (k := 2) ⟨by omega, hL⟩ d_Law_law_308 d_Law_law_309 d_Law_law_311 rfl d_Law_law_312 d_Law_law_313 ?_
  refine lw_arg hx hb hX hbl hbA hS hl hi (k := 3) ⟨by omega, hL⟩ d_Law_law_314 d_Law_law_315 d_Law_law_317 rfl d_Law_law_318 d_Law_law_319 ?_
  refine va_calli (va_runV (As := [.int (xs (i + 1)), .int (xs (i + 2)), .int (xs (i + 3))]) (rest := []) ⟨hx, hb, hml, hown, hA⟩ (c_Desk_set l D tt ad 56 A zs w 0 has ut (xs (i + 1)) (xs (i + 2)) (xs (i + 3)) b0 b2 o1) (cwV 3 hA (cd_gV aw_192 aw_193 aw_194 aw_1 aw_195) rfl rfl rfl ⟨rfl, by decide, by decide, by decide +kernel⟩ ⟨Nat.le_of_ble_eq_true rfl, Nat.le_of_ble_eq_true rfl⟩) ⟨cd_blind, cd_recv hK hP (k := 0) (by omega) b0.2 rfl, fun U hU hW => ⟨rfl, cd_pre hK hP hZ hS U hU hW⟩⟩ rfl rfl hl.1 rfl (lv_room (Nat.le_of_ble_eq_true rfl)) d_Law_law_320 ⟨hcs, hss⟩) hS (fun _ _ h => h) (fun _ h => h) (fun r1 w1 tE H locs ht hvm hr hP hz1 hk1 hS => ?_)
  have hP := cd_Pf ht hP
  obtain ⟨hr1, -, c2, e1⟩ := hr
  have c0 := cd_DeskAt_keep b0 (fun k h1 h2 => e1 k (by omega))
  have c1 := cd_MemAt_keep b1 (fun k h1 h2 => e1 k (by omega))
  have c3 := cd_RowAt_keep b3 (fun k h1 h2 => e1 k (by omega))
  have c4 := cd_FwAt_keep b4 (fun k h1 h2 => e1 k (by omega))
  have c5 := cd_RowAt_keep b5 (fun k h1 h2 => e1 k (by omega))
  have c6 := cd_TcAt_keep b6 (fun k h1 h2 => e1 k (by omega))
  have c7 := cd_TtAt_keep b7 (fun k h1 h2 => e1 k (by omega))
  have c8 := cd_MemAt_keep b8 (fun k h1 h2 => e1 k (by omega))
  have c9 := cd_TtAt_keep b9 (fun k h1 h2 => e1 k (by omega))
  have c10 := cd_MoAt_keep b10 (fun k h1 h2 => e1 k (by omega))
  have c11 := cd_IaAt_keep b11 (fun k h1 h2 => e1 k (by omega))
  have c12 := cd_IaAt_keep b12 (fun k h1 h2 => e1 k (by omega))
  have c13 := cd_IaAt_keep b13 (fun k h1 h2 => e1 k (by omega))
  have c14 := cd_ByAt_keep b14 (fun k h1 h2 => e1 k (by omega))
  have c15 := cd_IaAt_keep b15 (fun k h1 h2 => e1 k (by omega))
  have c16 := cd_IaAt_keep b16 (fun k h1 h2 => e1 k (by omega))
  have c17 := cd_IaAt_keep b17 (fun k h1 h2 => e1 k (by omega))
  have c18 := cd_IaAt_keep b18 (fun k h1 h2 => e1 k (by omega))
  have c19 := cd_ByAt_keep b19 (fun k h1 h2 => e1 k (by omega))
  have c20 := cd_ByAt_keep b20 (fun k h1 h2 => e1 k (by omega))
  have c21 := (e1 55 (by omega)).trans b21
  refine lv_aload_n hx hb d_Law_law_323 rfl (lv_at hl 2 rfl) ?_
  refine lw_arg hx hb hX hbl hbA hS hl hi (k := 1) ⟨by omega, hL⟩ d_Law_law_324 d_Law_law_325 d_Law_law_327 rfl d_Law_law_328 d_Law_law_329 ?_
  refine lw_arg hx hb hX hbl hbA hS hl hi (k := 2) ⟨by omega, hL⟩ d_Law_law_330 d_Law_law_331 d_Law_law_333 rfl d_Law_law_334 d_Law_law_335 ?_
  refine lw_arg hx hb hX hbl hbA hS hl hi (k := 3) ⟨by omega, hL⟩ d_Law_law_336 d_Law_law_337 d_Law_law_339 rfl d_Law_law_340 d_Law_law_341 ?_
  refine va_calli (va_runV (As := [.int (xs (i + 1)), .int (xs (i + 2)), .int (xs (i + 3))]) (rest := [.int r1]) ⟨hx, hb, hml, hown, hA⟩ (c_Mo_set l D tt ad 56 A zs _ 44 (v, mg) mt (xs (i + 1)) (xs (i + 2)) (xs (i + 3)) c10 c16 c18 o2) (cwV 3 hA (cd_gV aw_626 aw_627 aw_628 aw_8 aw_629) rfl rfl rfl ⟨rfl, by decide, by decide, by decide +kernel⟩ ⟨Nat.le_of_ble_eq_true rfl, Nat.le_of_ble_eq_true rfl⟩) ⟨cd_blind, cd_recv hK hP (k := 44) (by omega) c10.2 rfl, fun U hU hW => ⟨rfl, cd_pre hK hP hZ hS U hU hW⟩⟩ rfl rfl hl.1 rfl (lv_room (Nat.le_of_ble_eq_true rfl)) d_Law_law_342 ⟨hcs, hss⟩) hS (fun _ _ h => h) (fun _ h => h) (fun r2 w2 tE H locs ht hvm hr hP hz1 hk1 hS => ?_)
  have hP := cd_Pf ht hP
  obtain ⟨hr2, -, d10, d18, e2⟩ := hr
  have d0 := cd_DeskAt_keep c0 (fun k h1 h2 => e2 k (by omega))
  have d1 := cd_MemAt_keep c1 (fun k h1 h2 => e2 k (by omega))
  have d2 := cd_TtAt_keep c2 (fun k h1 h2 => e2 k (by omega))
  have d3 := cd_RowAt_keep c3 (fun k h1 h2 => e2 k (by omega))
  have d4 := cd_FwAt_keep c4 (fun k h1 h2 => e2 k (by omega))
  have d5 := cd_RowAt_keep c5 (fun k h1 h2 => e2 k (by omega))
  have d6 := cd_TcAt_keep c6 (fun k h1 h2 => e2 k (by omega))
  have d7 := cd_TtAt_keep c7 (fun k h1 h2 => e2 k (by omega))
  have d8 := cd_MemAt_keep c8 (fun k h1 h2 => e2 k (by omega))
  have d9 := cd_TtAt_keep c9 (fun k h1 h2 => e2 k (by omega))
  have d11 := cd_IaAt_keep c11 (fun k h1 h2 => e2 k (by omega))
  have d12 := cd_IaAt_keep c12 (fun k h1 h2 => e2 k (by omega))
  have d13 := cd_IaAt_keep c13 (fun k h1 h2 => e2 k (by omega))
  have d14 := cd_ByAt_keep c14 (fun k h1 h2 => e2 k (by omega))
  have d15 := cd_IaAt_keep c15 (fun k h1 h2 => e2 k (by omega))
  have d16 := cd_IaAt_keep c16 (fun k h1 h2 => e2 k (by omega))
  have d17 := cd_IaAt_keep c17 (fun k h1 h2 => e2 k (by omega))
  have d19 := cd_ByAt_keep c19 (fun k h1 h2 => e2 k (by omega))
  have d20 := cd_ByAt_keep c20 (fun k h1 h2 => e2 k (by omega))
  have d21 := (e2 55 (by omega)).trans c21
  exact lv_icmp_eq (tgt := 749) hx hb d_Law_law_345 (by decide) (fun _ => kk _ _ w2 ⟨_, _, _, _, _, _, _, _, _, _, _, _, _, _, _, _, _, _, _, _, _, ⟨d0, d1, d2, d3, d4, d5, d6, d7, d8, d9, d10, d11, d12, d13, d14, d15, d16, d17, d18, d19, d20, d21⟩, hR⟩ hP hS) (fun hc => absurd (hr1.symm.trans (heq.trans hr2)) hc)
