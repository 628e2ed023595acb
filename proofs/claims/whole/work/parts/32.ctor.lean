set_option maxHeartbeats 4000000 in
set_option maxRecDepth 100000 in
theorem i_Row6588 (l : Launch) (D : va_G) (tt : Nat → ClassId) (ad : Nat → Nat) (A : Nat → Prop) (zs : Nat → Nat) (w0 : Nat → va_E) (q : Nat) (hs : ∀ k, ad (k + 1) = ad k + 1) (hAA : ∀ k, ad q ≤ k → A k) (h0 : w0 q = .inr (0, [.null, .int 0])) : Met l y_Row_init w_Row_init ({ frames := 1, cells := 1, slots := 6588, locals := 12 }) (va_Pc [.ref (ad q), .int (6588 : Int32)] (cd_UN D tt ad (q + 1) A zs w0)) (va_Qv (fun w' => w' q = .inr (0, [.ref (ad (q + 1)), .int (0 : Int32)]) ∧ w' (q + 1) = .inl (tt 0, 6588, .inl (fun _ => 0)) ∧ (∀ k : Nat, (k < q ∨ q + 2 ≤ k) → w' k = w0 k)) (fun w' t => cd_PN D ad (q + 2) A w' t) A) 1 6588 A := by
  refine Met.ofW (cc := b_Row_init) (maxL := 2) (ret := none) (by decide) rfl ?_
  intro p e s m args below meth c s₁ B hml hv
  obtain ⟨rfl, ⟨hP, hK, hZ⟩, hsz, hO⟩ := hv
  have hx := B.exec
  have hb := B.bytes
  have hr := B.returns
  have hA : ∀ w ∈ cd_AW, w.before _ s = true := fun w h => atoms_spec (ws := w_Row_init) B.pre w (List.mem_cons_of_mem _ h)
  have hown : s.vm.findClass R_Row = some m.cls := findClass_of_methodNamed B.named
  have hlocks := B.notSynchronized
  have hin : meth.name = "<init>" := (name_of_methodNamed B.named B.method).1
  have hS : va_S A s.heap s.heap [] := va_S.rf
  have hl := lv_entry ([.ref (ad q), .int (6588 : Int32)]) (n := 2) (Nat.le_of_ble_eq_true rfl)
  rw [lg_entry_eq]
  generalize (lg_sl ([.ref (ad q), .int (6588 : Int32)]) ++ List.replicate (2 - (lg_sl ([.ref (ad q), .int (6588 : Int32)])).length) Slot.unset).toArray = ls at hl ⊢
  have hl : lv_has ls 2 [(0, .ref (ad q)), (1, .int (6588 : Int32))] := hl
  refine lv_aload_n hx hb d_Row_init_0 rfl (lv_at hl 0 rfl) ?_
  refine W.objInit hx hb hown (hA _ aw_67) (hA _ aw_22) (hA _ aw_23) rfl (by rw [hml]; exact hl.1) rfl d_Row_init_1 (Nat.le_of_ble_eq_true rfl) (Nat.le_of_ble_eq_true rfl) ?_
  refine W.eq (g2 := F0 m 4 ls []) rfl ?_
  refine lv_aload_n hx hb d_Row_init_4 rfl (lv_at hl 0 rfl) ?_
  refine lv_iload_n hx hb d_Row_init_5 rfl (lv_at hl 1 rfl) ?_
  refine cd_le (fun hle => ?_)
  have hz1 : s.heap.size = ad (q + 1) := cd_sz hs hP hsz hle (by omega)
  refine g_newa (atype := .byte) (ty := .byte) (t0 := 0) (a0 := (6588, .inl (fun _ => 0))) hx hb (hA _ aw_44) rfl hK hP hS hz1 hs (hAA _ (cd_adm hs (by omega))) rfl (fun _ h => by cases h) (fun _ => rfl) (by decide) (by decide) (by decide) (Nat.le_of_ble_eq_true rfl) (Nat.le_of_ble_eq_true rfl) d_Row_init_6 (fun H w1 fa2 e1 hP hS _ => ?_)
  have fa3 := (e1 q (by omega)).trans h0
  refine g_putF (ci := 0) (C := R_Row) (T := F_Row) (Nf := 2) (v := .ref (ad (q + 1))) (ty := (.array .byte)) hx hb hA in_Row t_Row t_Row_ok n_Row hown hK hP hS (k := q) (by omega) fa3 rfl 0 (by decide) (hA _ aw_68) (fun _ h9 => h9) rfl hin rfl (by decide +kernel) rfl rfl (Nat.le_of_ble_eq_true rfl) d_Row_init_8 (fun H locs w2 fa4 e2 hP hS => ?_)
  have fa4 : w2 q = .inr (0, [.ref (ad (q + 1)), .int 0]) := fa4
  have fa5 := (e2 (q + 1) (by omega)).trans fa2
  refine lv_aload_n hx hb d_Row_init_11 rfl (lv_at hl 0 rfl) ?_
  refine lv_iconst (v := (0 : Int32)) hx hb d_Row_init_12 (by decide) ?_
  refine g_put (ci := 0) (C := R_Row) (T := F_Row) (Nf := 2) (v := .int (0 : Int32)) (ty := .int) hx hb hA in_Row t_Row t_Row_ok n_Row hown hK hP hS (k := q) (by omega) fa4 rfl 1 (by decide) (hA _ aw_69) (fun _ h9 => h9) rfl (by decide +kernel) rfl rfl (Nat.le_of_ble_eq_true rfl) d_Row_init_13 (fun H locs w3 fa6 e3 hP hS => ?_)
  have fa6 : w3 q = .inr (0, [.ref (ad (q + 1)), .int (0 : Int32)]) := fa6
  have fa7 := (e3 (q + 1) (by omega)).trans fa5
  refine cd_le (fun hle => ?_)
  have hz8 : H.size = ad (q + 2) := cd_sz hs hP hsz hle (by omega)
  exact W.vret hx hb hr (fun tE ht _ => ⟨⟨w3, rfl, ⟨fa6, fa7, fun k hk => ((e3 k (by omega)).trans ((e2 k (by omega)).trans (e1 k (by omega))))⟩, ⟨cd_Pt ht hP, by rw [ht]; exact hz8⟩⟩, hS.F ht⟩) hS.2.2 d_Row_init_16
set_option maxHeartbeats 4000000 in
set_option maxRecDepth 100000 in
theorem i_Row8192 (l : Launch) (D : va_G) (tt : Nat → ClassId) (ad : Nat → Nat) (A : Nat → Prop) (zs : Nat → Nat) (w0 : Nat → va_E) (q : Nat) (hs : ∀ k, ad (k + 1) = ad k + 1) (hAA : ∀ k, ad q ≤ k → A k) (h0 : w0 q = .inr (0, [.null, .int 0])) : Met l y_Row_init w_Row_init ({ frames := 1, cells := 1, slots := 8192, locals := 12 }) (va_Pc [.ref (ad q), .int (8192 : Int32)] (cd_UN D tt ad (q + 1) A zs w0)) (va_Qv (fun w' => w' q = .inr (0, [.ref (ad (q + 1)), .int (0 : Int32)]) ∧ w' (q + 1) = .inl (tt 0, 8192, .inl (fun _ => 0)) ∧ (∀ k : Nat, (k < q ∨ q + 2 ≤ k) → w' k = w0 k)) (fun w' t => cd_PN D ad (q + 2) A w' t) A) 1 8192 A := by
  refine Met.ofW (cc := b_Row_init) (maxL := 2) (ret := none) (by decide) rfl ?_
  intro p e s m args below meth c s₁ B hml hv
  obtain ⟨rfl, ⟨hP, hK, hZ⟩, hsz, hO⟩ := hv
  have hx := B.exec
  have hb := B.bytes
  have hr := B.returns
  have hA : ∀ w ∈ cd_AW, w.before _ s = true := fun w h => atoms_spec (ws := w_Row_init) B.pre w (List.mem_cons_of_mem _ h)
  have hown : s.vm.findClass R_Row = some m.cls := findClass_of_methodNamed B.named
  have hlocks := B.notSynchronized
  have hin : meth.name = "<init>" := (name_of_methodNamed B.named B.method).1
  have hS : va_S A s.heap s.heap [] := va_S.rf
  have hl := lv_entry ([.ref (ad q), .int (8192 : Int32)]) (n := 2) (Nat.le_of_ble_eq_true rfl)
  rw [lg_entry_eq]
  generalize (lg_sl ([.ref (ad q), .int (8192 : Int32)]) ++ List.replicate (2 - (lg_sl ([.ref (ad q), .int (8192 : Int32)])).length) Slot.unset).toArray = ls at hl ⊢
  have hl : lv_has ls 2 [(0, .ref (ad q)), (1, .int (8192 : Int32))] := hl
  refine lv_aload_n hx hb d_Row_init_0 rfl (lv_at hl 0 rfl) ?_
  refine W.objInit hx hb hown (hA _ aw_67) (hA _ aw_22) (hA _ aw_23) rfl (by rw [hml]; exact hl.1) rfl d_Row_init_1 (Nat.le_of_ble_eq_true rfl) (Nat.le_of_ble_eq_true rfl) ?_
  refine W.eq (g2 := F0 m 4 ls []) rfl ?_
  refine lv_aload_n hx hb d_Row_init_4 rfl (lv_at hl 0 rfl) ?_
  refine lv_iload_n hx hb d_Row_init_5 rfl (lv_at hl 1 rfl) ?_
  refine cd_le (fun hle => ?_)
  have hz1 : s.heap.size = ad (q + 1) := cd_sz hs hP hsz hle (by omega)
  refine g_newa (atype := .byte) (ty := .byte) (t0 := 0) (a0 := (8192, .inl (fun _ => 0))) hx hb (hA _ aw_44) rfl hK hP hS hz1 hs (hAA _ (cd_adm hs (by omega))) rfl (fun _ h => by cases h) (fun _ => rfl) (by decide) (by decide) (by decide) (Nat.le_of_ble_eq_true rfl) (Nat.le_of_ble_eq_true rfl) d_Row_init_6 (fun H w1 fa2 e1 hP hS _ => ?_)
  have fa3 := (e1 q (by omega)).trans h0
  refine g_putF (ci := 0) (C := R_Row) (T := F_Row) (Nf := 2) (v := .ref (ad (q + 1))) (ty := (.array .byte)) hx hb hA in_Row t_Row t_Row_ok n_Row hown hK hP hS (k := q) (by omega) fa3 rfl 0 (by decide) (hA _ aw_68) (fun _ h9 => h9) rfl hin rfl (by decide +kernel) rfl rfl (Nat.le_of_ble_eq_true rfl) d_Row_init_8 (fun H locs w2 fa4 e2 hP hS => ?_)
  have fa4 : w2 q = .inr (0, [.ref (ad (q + 1)), .int 0]) := fa4
  have fa5 := (e2 (q + 1) (by omega)).trans fa2
  refine lv_aload_n hx hb d_Row_init_11 rfl (lv_at hl 0 rfl) ?_
  refine lv_iconst (v := (0 : Int32)) hx hb d_Row_init_12 (by decide) ?_
  refine g_put (ci := 0) (C := R_Row) (T := F_Row) (Nf := 2) (v := .int (0 : Int32)) (ty := .int) hx hb hA in_Row t_Row t_Row_ok n_Row hown hK hP hS (k := q) (by omega) fa4 rfl 1 (by decide) (hA _ aw_69) (fun _ h9 => h9) rfl (by decide +kernel) rfl rfl (Nat.le_of_ble_eq_true rfl) d_Row_init_13 (fun H locs w3 fa6 e3 hP hS => ?_)
  have fa6 : w3 q = .inr (0, [.ref (ad (q + 1)), .int (0 : Int32)]) := fa6
  have fa7 := (e3 (q + 1) (by omega)).trans fa5
  refine cd_le (fun hle => ?_)
  have hz8 : H.size = ad (q + 2) := cd_sz hs hP hsz hle (by omega)
  exact W.vret hx hb hr (fun tE ht _ => ⟨⟨w3, rfl, ⟨fa6, fa7, fun k hk => ((e3 k (by omega)).trans ((e2 k (by omega)).trans (e1 k (by omega))))⟩, ⟨cd_Pt ht hP, by rw [ht]; exact hz8⟩⟩, hS.F ht⟩) hS.2.2 d_Row_init_16
set_option maxHeartbeats 4000000 in
set_option maxRecDepth 100000 in
theorem i_Reg (l : Launch) (D : va_G) (tt : Nat → ClassId) (ad : Nat → Nat) (A : Nat → Prop) (zs : Nat → Nat) (w0 : Nat → va_E) (q : Nat) (hs : ∀ k, ad (k + 1) = ad k + 1) (hAA : ∀ k, ad q ≤ k → A k) (h0 : w0 q = .inr (1, [.null, .int 0, .int 0, .int 0])) : Met l y_Reg_init w_Reg_init ({ frames := 1, cells := 1, slots := 1024, locals := 12 }) (va_Pc [.ref (ad q)] (cd_UN D tt ad (q + 1) A zs w0)) (va_Qv (fun w' => w' q = .inr (1, [.ref (ad (q + 1)), .int (0 : Int32), .int (0 : Int32), .int (0 : Int32)]) ∧ w' (q + 1) = .inl (tt 0, 1024, .inl (fun _ => 0)) ∧ (∀ k : Nat, (k < q ∨ q + 2 ≤ k) → w' k = w0 k)) (fun w' t => cd_PN D ad (q + 2) A w' t) A) 1 1024 A := by
  refine Met.ofW (cc := b_Reg_init) (maxL := 1) (ret := none) (by decide) rfl ?_
  intro p e s m args below meth c s₁ B hml hv
  obtain ⟨rfl, ⟨hP, hK, hZ⟩, hsz, hO⟩ := hv
  have hx := B.exec
  have hb := B.bytes
  have hr := B.returns
  have hA : ∀ w ∈ cd_AW, w.before _ s = true := fun w h => atoms_spec (ws := w_Reg_init) B.pre w (List.mem_cons_of_mem _ h)
  have hown : s.vm.findClass R_Reg = some m.cls := findClass_of_methodNamed B.named
  have hlocks := B.notSynchronized
  have hin : meth.name = "<init>" := (name_of_methodNamed B.named B.method).1
  have hS : va_S A s.heap s.heap [] := va_S.rf
  have hl := lv_entry ([.ref (ad q)]) (n := 1) (Nat.le_of_ble_eq_true rfl)
  rw [lg_entry_eq]
  generalize (lg_sl ([.ref (ad q)]) ++ List.replicate (1 - (lg_sl ([.ref (ad q)])).length) Slot.unset).toArray = ls at hl ⊢
  have hl : lv_has ls 1 [(0, .ref (ad q))] := hl
  refine lv_aload_n hx hb d_Reg_init_0 rfl (lv_at hl 0 rfl) ?_
  refine W.objInit hx hb hown (hA _ aw_35) (hA _ aw_22) (hA _ aw_23) rfl (by rw [hml]; exact hl.1) rfl d_Reg_init_1 (Nat.le_of_ble_eq_true rfl) (Nat.le_of_ble_eq_true rfl) ?_
  refine W.eq (g2 := F0 m 4 ls []) rfl ?_
  refine lv_aload_n hx hb d_Reg_init_4 rfl (lv_at hl 0 rfl) ?_
  refine lv_sipush (v := (1024 : Int32)) hx hb d_Reg_init_5 (by decide) ?_
  refine cd_le (fun hle => ?_)
  have hz1 : s.heap.size = ad (q + 1) := cd_sz hs hP hsz hle (by omega)
  refine g_newa (atype := .byte) (ty := .byte) (t0 := 0) (a0 := (1024, .inl (fun _ => 0))) hx hb (hA _ aw_44) rfl hK hP hS hz1 hs (hAA _ (cd_adm hs (by omega))) rfl (fun _ h => by cases h) (fun _ => rfl) (by decide) (by decide) (by decide) (Nat.le_of_ble_eq_true rfl) (Nat.le_of_ble_eq_true rfl) d_Reg_init_8 (fun H w1 fa2 e1 hP hS _ => ?_)
  have fa3 := (e1 q (by omega)).trans h0
  refine g_putF (ci := 1) (C := R_Reg) (T := F_Reg) (Nf := 4) (v := .ref (ad (q + 1))) (ty := (.array .byte)) hx hb hA in_Reg t_Reg t_Reg_ok n_Reg hown hK hP hS (k := q) (by omega) fa3 rfl 0 (by decide) (hA _ aw_36) (fun _ h9 => h9) rfl hin rfl (by decide +kernel) rfl rfl (Nat.le_of_ble_eq_true rfl) d_Reg_init_10 (fun H locs w2 fa4 e2 hP hS => ?_)
  have fa4 : w2 q = .inr (1, [.ref (ad (q + 1)), .int 0, .int 0, .int 0]) := fa4
  have fa5 := (e2 (q + 1) (by omega)).trans fa2
  refine lv_aload_n hx hb d_Reg_init_13 rfl (lv_at hl 0 rfl) ?_
  refine lv_iconst (v := (0 : Int32)) hx hb d_Reg_init_14 (by decide) ?_
  refine g_put (ci := 1) (C := R_Reg) (T := F_Reg) (Nf := 4) (v := .int (0 : Int32)) (ty := .int) hx hb hA in_Reg t_Reg t_Reg_ok n_Reg hown hK hP hS (k := q) (by omega) fa4 rfl 1 (by decide) (hA _ aw_37) (fun _ h9 => h9) rfl (by decide +kernel) rfl rfl (Nat.le_of_ble_eq_true rfl) d_Reg_init_15 (fun H locs w3 fa6 e3 hP hS => ?_)
  have fa6 : w3 q = .inr (1, [.ref (ad (q + 1)), .int (0 : Int32), .int 0, .int 0]) := fa6
  have fa7 := (e3 (q + 1) (by omega)).trans fa5
  refine lv_aload_n hx hb d_Reg_init_18 rfl (lv_at hl 0 rfl) ?_
  refine lv_iconst (v := (0 : Int32)) hx hb d_Reg_init_19 (by decide) ?_
  refine g_put (ci := 1) (C := R_Reg) (T := F_Reg) (Nf := 4) (v := .int (0 : Int32)) (ty := .int) hx hb hA in_Reg t_Reg t_Reg_ok n_Reg hown hK hP hS (k := q) (by omega) fa6 rfl 2 (by decide) (hA _ aw_38) (fun _ h9 => h9) rfl (by decide +kernel) rfl rfl (Nat.le_of_ble_eq_true rfl) d_Reg_init_20 (fun H locs w4 fa8 e4 hP hS => ?_)
  have fa8 : w4 q = .inr (1, [.ref (ad (q + 1)), .int (0 : Int32), .int (0 : Int32), .int 0]) := fa8
  have fa9 := (e4 (q + 1) (by omega)).trans fa7
  refine lv_aload_n hx hb d_Reg_init_23 rfl (lv_at hl 0 rfl) ?_
  refine lv_iconst (v := (0 : Int32)) hx hb d_Reg_init_24 (by decide) ?_
  refine g_put (ci := 1) (C := R_Reg) (T := F_Reg) (Nf := 4) (v := .int (0 : Int32)) (ty := .int) hx hb hA in_Reg t_Reg t_Reg_ok n_Reg hown hK hP hS (k := q) (by omega) fa8 rfl 3 (by decide) (hA _ aw_39) (fun _ h9 => h9) rfl (by decide +kernel) rfl rfl (Nat.le_of_ble_eq_true rfl) d_Reg_init_25 (fun H locs w5 fa10 e5 hP hS => ?_)
  have fa10 : w5 q = .inr (1, [.ref (ad (q + 1)), .int (0 : Int32), .int (0 : Int32), .int (0 : Int32)]) := fa10
  have fa11 := (e5 (q + 1) (by omega)).trans fa9
  refine cd_le (fun hle => ?_)
  have hz12 : H.size = ad (q + 2) := cd_sz hs hP hsz hle (by omega)
  exact W.vret hx hb hr (fun tE ht _ => ⟨⟨w5, rfl, ⟨fa10, fa11, fun k hk => ((e5 k (by omega)).trans ((e4 k (by omega)).trans ((e3 k (by omega)).trans ((e2 k (by omega)).trans (e1 k (by omega))))))⟩, ⟨cd_Pt ht hP, by rw [ht]; exact hz12⟩⟩, hS.F ht⟩) hS.2.2 d_Reg_init_28
set_option maxHeartbeats 4000000 in
set_option maxRecDepth 100000 in
theorem i_Tt (l : Launch) (D : va_G) (tt : Nat → ClassId) (ad : Nat → Nat) (A : Nat → Prop) (zs : Nat → Nat) (w0 : Nat → va_E) (q : Nat) (hs : ∀ k, ad (k + 1) = ad k + 1) (hAA : ∀ k, ad q ≤ k → A k) (h0 : w0 q = .inr (2, [.null, .null, .int 0])) : Met l y_Tt_init w_Tt_init ({ frames := 1, cells := 2, slots := 27, locals := 12 }) (va_Pc [.ref (ad q)] (cd_UN D tt ad (q + 1) A zs w0)) (va_Qv (fun w' => w' q = .inr (2, [.ref (ad (q + 1)), .ref (ad (q + 2)), .int (0 : Int32)]) ∧ w' (q + 1) = .inl (tt 1, 3, .inl (fun _ => 0)) ∧ w' (q + 2) = .inl (tt 1, 24, .inl (fun _ => 0)) ∧ (∀ k : Nat, (k < q ∨ q + 3 ≤ k) → w' k = w0 k)) (fun w' t => cd_PN D ad (q + 3) A w' t) A) 2 27 A := by
  refine Met.ofW (cc := b_Tt_init) (maxL := 1) (ret := none) (by decide) rfl ?_
  intro p e s m args below meth c s₁ B hml hv
  obtain ⟨rfl, ⟨hP, hK, hZ⟩, hsz, hO⟩ := hv
  have hx := B.exec
  have hb := B.bytes
  have hr := B.returns
  have hA : ∀ w ∈ cd_AW, w.before _ s = true := fun w h => atoms_spec (ws := w_Tt_init) B.pre w (List.mem_cons_of_mem _ h)
  have hown : s.vm.findClass R_Tt = some m.cls := findClass_of_methodNamed B.named
  have hlocks := B.notSynchronized
  have hin : meth.name = "<init>" := (name_of_methodNamed B.named B.method).1
  have hS : va_S A s.heap s.heap [] := va_S.rf
  have hl := lv_entry ([.ref (ad q)]) (n := 1) (Nat.le_of_ble_eq_true rfl)
  rw [lg_entry_eq]
  generalize (lg_sl ([.ref (ad q)]) ++ List.replicate (1 - (lg_sl ([.ref (ad q)])).length) Slot.unset).toArray = ls at hl ⊢
  have hl : lv_has ls 1 [(0, .ref (ad q))] := hl
  refine lv_aload_n hx hb d_Tt_init_0 rfl (lv_at hl 0 rfl) ?_
  refine W.objInit hx hb hown (hA _ aw_54) (hA _ aw_22) (hA _ aw_23) rfl (by rw [hml]; exact hl.1) rfl d_Tt_init_1 (Nat.le_of_ble_eq_true rfl) (Nat.le_of_ble_eq_true rfl) ?_
  refine W.eq (g2 := F0 m 4 ls []) rfl ?_
  refine lv_aload_n hx hb d_Tt_init_4 rfl (lv_at hl 0 rfl) ?_
  refine lv_iconst (v := (3 : Int32)) hx hb d_Tt_init_5 (by decide) ?_
  refine cd_le (fun hle => ?_)
  have hz1 : s.heap.size = ad (q + 1) := cd_sz hs hP hsz hle (by omega)
  refine g_newa (atype := .int) (ty := .int) (t0 := 1) (a0 := (3, .inl (fun _ => 0))) hx hb (hA _ aw_61) rfl hK hP hS hz1 hs (hAA _ (cd_adm hs (by omega))) rfl (fun _ h => by cases h) (fun _ => rfl) (by decide) (by decide) (by decide) (Nat.le_of_ble_eq_true rfl) (Nat.le_of_ble_eq_true rfl) d_Tt_init_6 (fun H w1 fa2 e1 hP hS _ => ?_)
  have fa3 := (e1 q (by omega)).trans h0
  refine g_putF (ci := 2) (C := R_Tt) (T := F_Tt) (Nf := 3) (v := .ref (ad (q + 1))) (ty := (.array .int)) hx hb hA in_Tt t_Tt t_Tt_ok n_Tt hown hK hP hS (k := q) (by omega) fa3 rfl 0 (by decide) (hA _ aw_55) (fun _ h9 => h9) rfl hin rfl (by decide +kernel) rfl rfl (Nat.le_of_ble_eq_true rfl) d_Tt_init_8 (fun H locs w2 fa4 e2 hP hS => ?_)
  have fa4 : w2 q = .inr (2, [.ref (ad (q + 1)), .null, .int 0]) := fa4
  have fa5 := (e2 (q + 1) (by omega)).trans fa2
  refine lv_aload_n hx hb d_Tt_init_11 rfl (lv_at hl 0 rfl) ?_
  refine lv_bipush (v := (24 : Int32)) hx hb d_Tt_init_12 (by decide) ?_
  refine cd_le (fun hle => ?_)
  have hz6 : H.size = ad (q + 2) := cd_sz hs hP hsz hle (by omega)
  refine g_newa (atype := .int) (ty := .int) (t0 := 1) (a0 := (24, .inl (fun _ => 0))) hx hb (hA _ aw_61) rfl hK hP hS hz6 hs (hAA _ (cd_adm hs (by omega))) rfl (fun _ h => by cases h) (fun _ => rfl) (by decide) (by decide) (by decide) (Nat.le_of_ble_eq_true rfl) (Nat.le_of_ble_eq_true rfl) d_Tt_init_14 (fun H w3 fa7 e3 hP hS _ => ?_)
  have fa8 := (e3 q (by omega)).trans fa4
  have fa9 := (e3 (q + 1) (by omega)).trans fa5
  refine g_putF (ci := 2) (C := R_Tt) (T := F_Tt) (Nf := 3) (v := .ref (ad (q + 2))) (ty := (.array .int)) hx hb hA in_Tt t_Tt t_Tt_ok n_Tt hown hK hP hS (k := q) (by omega) fa8 rfl 1 (by decide) (hA _ aw_56) (fun _ h9 => h9) rfl hin rfl (by decide +kernel) rfl rfl (Nat.le_of_ble_eq_true rfl) d_Tt_init_16 (fun H locs w4 fa10 e4 hP hS => ?_)
  have fa10 : w4 q = .inr (2, [.ref (ad (q + 1)), .ref (ad (q + 2)), .int 0]) := fa10
  have fa11 := (e4 (q + 1) (by omega)).trans fa9
  have fa12 := (e4 (q + 2) (by omega)).trans fa7
  refine lv_aload_n hx hb d_Tt_init_19 rfl (lv_at hl 0 rfl) ?_
  refine lv_iconst (v := (0 : Int32)) hx hb d_Tt_init_20 (by decide) ?_
  refine g_put (ci := 2) (C := R_Tt) (T := F_Tt) (Nf := 3) (v := .int (0 : Int32)) (ty := .int) hx hb hA in_Tt t_Tt t_Tt_ok n_Tt hown hK hP hS (k := q) (by omega) fa10 rfl 2 (by decide) (hA _ aw_57) (fun _ h9 => h9) rfl (by decide +kernel) rfl rfl (Nat.le_of_ble_eq_true rfl) d_Tt_init_21 (fun H locs w5 fa13 e5 hP hS => ?_)
  have fa13 : w5 q = .inr (2, [.ref (ad (q + 1)), .ref (ad (q + 2)), .int (0 : Int32)]) := fa13
  have fa14 := (e5 (q + 1) (by omega)).trans fa11
  have fa15 := (e5 (q + 2) (by omega)).trans fa12
  refine cd_le (fun hle => ?_)
  have hz16 : H.size = ad (q + 3) := cd_sz hs hP hsz hle (by omega)
  exact W.vret hx hb hr (fun tE ht _ => ⟨⟨w5, rfl, ⟨fa13, fa14, fa15, fun k hk => ((e5 k (by omega)).trans ((e4 k (by omega)).trans ((e3 k (by omega)).trans ((e2 k (by omega)).trans (e1 k (by omega))))))⟩, ⟨cd_Pt ht hP, by rw [ht]; exact hz16⟩⟩, hS.F ht⟩) hS.2.2 d_Tt_init_24
set_option maxHeartbeats 4000000 in
set_option maxRecDepth 100000 in
theorem i_Mem (l : Launch) (D : va_G) (tt : Nat → ClassId) (ad : Nat → Nat) (A : Nat → Prop) (zs : Nat → Nat) (w0 : Nat → va_E) (q : Nat) (hs : ∀ k, ad (k + 1) = ad k + 1) (hAA : ∀ k, ad q ≤ k → A k) (h0 : w0 q = .inr (3, [.null, .int 0])) : Met l y_Mem_init w_Mem_init ({ frames := 2, cells := 13, slots := 6174, locals := 32 }) (va_Pc [.ref (ad q)] (cd_UN D tt ad (q + 1) A zs w0)) (va_Qv (fun w' => w' q = .inr (3, [.ref (ad (q + 1)), .int (0 : Int32)]) ∧ w' (q + 1) = .inl (tt 3, 6, .inr (.inr (.inr (.inr (va_up (va_up (va_up (va_up (va_up (va_up (fun _ => none) (0 : Int32).toNatClampNeg (some (ad (q + 2)))) (1 : Int32).toNatClampNeg (some (ad (q + 4)))) (2 : Int32).toNatClampNeg (some (ad (q + 6)))) (3 : Int32).toNatClampNeg (some (ad (q + 8)))) (4 : Int32).toNatClampNeg (some (ad (q + 10)))) (5 : Int32).toNatClampNeg (some (ad (q + 12)))))))) ∧ w' (q + 2) = .inr (1, [.ref (ad (q + 3)), .int (0 : Int32), .int (0 : Int32), .int (0 : Int32)]) ∧ w' (q + 3) = .inl (tt 0, 1024, .inl (fun _ => 0)) ∧ w' (q + 4) = .inr (1, [.ref (ad (q + 5)), .int (0 : Int32), .int (0 : Int32), .int (0 : Int32)]) ∧ w' (q + 5) = .inl (tt 0, 1024, .inl (fun _ => 0)) ∧ w' (q + 6) = .inr (1, [.ref (ad (q + 7)), .int (0 : Int32), .int (0 : Int32), .int (0 : Int32)]) ∧ w' (q + 7) = .inl (tt 0, 1024, .inl (fun _ => 0)) ∧ w' (q + 8) = .inr (1, [.ref (ad (q + 9)), .int (0 : Int32), .int (0 : Int32), .int (0 : Int32)]) ∧ w' (q + 9) = .inl (tt 0, 1024, .inl (fun _ => 0)) ∧ w' (q + 10) = .inr (1, [.ref (ad (q + 11)), .int (0 : Int32), .int (0 : Int32), .int (0 : Int32)]) ∧ w' (q + 11) = .inl (tt 0, 1024, .inl (fun _ => 0)) ∧ w' (q + 12) = .inr (1, [.ref (ad (q + 13)), .int (0 : Int32), .int (0 : Int32), .int (0 : Int32)]) ∧ w' (q + 13) = .inl (tt 0, 1024, .inl (fun _ => 0)) ∧ (∀ k : Nat, (k < q ∨ q + 14 ≤ k) → w' k = w0 k)) (fun w' t => cd_PN D ad (q + 14) A w' t) A) 13 6174 A := by
  refine Met.ofW (cc := b_Mem_init) (maxL := 2) (ret := none) (by decide) rfl ?_
  intro p e s m args below meth c s₁ B hml hv
  obtain ⟨rfl, ⟨hP, hK, hZ⟩, hsz, hO⟩ := hv
  have hx := B.exec
  have hb := B.bytes
  have hr := B.returns
  have hA : ∀ w ∈ cd_AW, w.before _ s = true := fun w h => atoms_spec (ws := w_Mem_init) B.pre w (List.mem_cons_of_mem _ h)
  have hown : s.vm.findClass R_Mem = some m.cls := findClass_of_methodNamed B.named
  have hlocks := B.notSynchronized
  have hin : meth.name = "<init>" := (name_of_methodNamed B.named B.method).1
  have hS : va_S A s.heap s.heap [] := va_S.rf
  have hl := lv_entry ([.ref (ad q)]) (n := 2) (Nat.le_of_ble_eq_true rfl)
  rw [lg_entry_eq]
  generalize (lg_sl ([.ref (ad q)]) ++ List.replicate (2 - (lg_sl ([.ref (ad q)])).length) Slot.unset).toArray = ls at hl ⊢
  have hl : lv_has ls 2 [(0, .ref (ad q))] := hl
  refine lv_aload_n hx hb d_Mem_init_0 rfl (lv_at hl 0 rfl) ?_
  refine W.objInit hx hb hown (hA _ aw_29) (hA _ aw_22) (hA _ aw_23) rfl (by rw [hml]; exact hl.1) rfl d_Mem_init_1 (Nat.le_of_ble_eq_true rfl) (Nat.le_of_ble_eq_true rfl) ?_
  refine W.eq (g2 := F0 m 4 ls []) rfl ?_
  refine lv_aload_n hx hb d_Mem_init_4 rfl (lv_at hl 0 rfl) ?_
  refine lv_bipush (v := (6 : Int32)) hx hb d_Mem_init_5 (by decide) ?_
  refine cd_le (fun hle => ?_)
  have hz1 : s.heap.size = ad (q + 1) := cd_sz hs hP hsz hle (by omega)
  refine g_newq (t0 := 3) (N' := 6) hx hb hown (hA _ aw_30) hO hK hP hS hz1 hs (hAA _ (cd_adm hs (by omega))) rfl (by decide) (by decide) (by decide) (Nat.le_of_ble_eq_true rfl) (Nat.le_of_ble_eq_true rfl) d_Mem_init_7 (fun H w1 fa2 e1 hP hS _ => ?_)
  have fa3 := (e1 q (by omega)).trans h0
  refine g_putF (ci := 3) (C := R_Mem) (T := F_Mem) (Nf := 2) (v := .ref (ad (q + 1))) (ty := (.array (.object "CoreDesk$Region"))) hx hb hA in_Mem t_Mem t_Mem_ok n_Mem hown hK hP hS (k := q) (by omega) fa3 rfl 0 (by decide) (hA _ aw_45) (fun _ h9 => h9) rfl hin rfl (by decide +kernel) rfl rfl (Nat.le_of_ble_eq_true rfl) d_Mem_init_10 (fun H locs w2 fa4 e2 hP hS => ?_)
  have fa4 : w2 q = .inr (3, [.ref (ad (q + 1)), .int 0]) := fa4
  have fa5 := (e2 (q + 1) (by omega)).trans fa2
  refine lv_iconst (v := (0 : Int32)) hx hb d_Mem_init_13 (by decide) ?_
  refine lv_istore_n (lv' := [(1, .int (0 : Int32)), (0, .ref (ad q))]) hx hb d_Mem_init_14 rfl hl (by decide) rfl (fun ls hl => ?_)
  refine lv_iload_n hx hb d_Mem_init_15 rfl (lv_at hl 0 rfl) ?_
  refine lv_bipush (v := (6 : Int32)) hx hb d_Mem_init_16 (by decide) ?_
  refine lv_icmp_ge (tgt := 40) hx hb d_Mem_init_18 (by decide) (fun h9 => absurd h9 (by decide)) (fun _ => ?_)
  refine lv_aload_n hx hb d_Mem_init_21 rfl (lv_at hl 1 rfl) ?_
  refine g_get (ci := 3) (C := R_Mem) (T := F_Mem) (Nf := 2) (v := .ref (ad (q + 1))) hx hb hA in_Mem hown hK hP (k := q) (by omega) fa4 rfl 0 (by decide) (hA _ aw_45) (fun _ h9 => h9) rfl d_Mem_init_22 ?_
  refine lv_iload_n hx hb d_Mem_init_25 rfl (lv_at hl 0 rfl) ?_
  refine cd_le (fun hle => ?_)
  have hz6 : H.size = ad (q + 2) := cd_sz hs hP hsz hle (by omega)
  refine g_new (ci := 1) (C := R_Reg) (T := F_Reg) (Nf := 4) (fs := [.null, .int 0, .int 0, .int 0]) hx hb hA in_Reg t_Reg t_Reg_ok hown (hA _ aw_30) (hA _ aw_31) (hA _ aw_3) hK hP hS hz6 hs (hAA _ (cd_adm hs (by omega))) rfl (by decide) (Nat.le_of_ble_eq_true rfl) (Nat.le_of_ble_eq_true rfl) d_Mem_init_26 (fun H w3 fa7 e3 hP hS _ => ?_)
  have fa8 := (e3 q (by omega)).trans fa4
  have fa9 := (e3 (q + 1) (by omega)).trans fa5
  refine lv_dup hx hb d_Mem_init_29 rfl ?_
  refine cd_le (fun hle => ?_)
  have hz10 : H.size = ad (q + 3) := cd_sz hs hP hsz hle (by omega)
  refine va_callv (va_runI (As := []) (rest := [.ref (ad (q + 2)), .int (0 : Int32), .ref (ad (q + 1))]) ⟨hx, hb, hml, hown, hA⟩ (i_Reg l D tt ad A zs w3 (q + 2) hs (fun k hk => hAA k (Nat.le_trans (cd_adm hs (by omega)) hk)) fa7) (cwI 0 hA (cd_good aw_34) rfl rfl rfl (hA _ aw_3) (hA _ aw_32) (hA _ aw_33) rfl (by decide +kernel) ⟨Nat.le_of_ble_eq_true rfl, Nat.le_of_ble_eq_true rfl⟩) ⟨cd_blindN, fun U hU hW => ⟨rfl, cd_preN hK hP hZ hS hz10 hO U hU hW⟩⟩ rfl rfl hl.1 rfl (lv_room (Nat.le_of_ble_eq_true rfl)) d_Mem_init_30 ⟨Nat.le_of_ble_eq_true rfl, Nat.le_of_ble_eq_true rfl⟩) hS (fun _ _ h => h) (fun _ h => h) (fun w4 tE H locs ht hvm hp11 hPN hz1 hk1 hS => ?_)
  obtain ⟨fa13, fa14, e4⟩ := hp11
  have hP := cd_Pf ht hPN.1
  have fa13 : w4 (q + 2) = .inr (1, [.ref (ad (q + 3)), .int (0 : Int32), .int (0 : Int32), .int (0 : Int32)]) := fa13
  have fa14 : w4 (q + 3) = .inl (tt 0, 1024, .inl (fun _ => 0)) := fa14
  have fa15 := (e4 q (by omega)).trans fa8
  have fa16 := (e4 (q + 1) (by omega)).trans fa9
  refine g_aast (ci := 1) hx hb hK hP hS (k := (q + 1)) (kv := (q + 2)) (by omega) (by omega) fa16 fa13 rfl rfl (by unfold vp_in; decide) d_Mem_init_33 (fun H locs w5 fa17 e5 hP hS => ?_)
  have fa18 := (e5 q (by omega)).trans fa15
  have fa19 := (e5 (q + 2) (by omega)).trans fa13
  have fa20 := (e5 (q + 3) (by omega)).trans fa14
  refine lv_iinc (k := 0) (v := (1 : Int32)) (lv' := [(1, .int (1 : Int32)), (0, .ref (ad q))]) hx hb d_Mem_init_34 hl rfl (by decide) (by decide) rfl (fun ls hl => ?_)
  refine lv_goto (tgt := 15) hx hb d_Mem_init_37 (by decide) ?_
  refine lv_iload_n hx hb d_Mem_init_15 rfl (lv_at hl 0 rfl) ?_
  refine lv_bipush (v := (6 : Int32)) hx hb d_Mem_init_16 (by decide) ?_
  refine lv_icmp_ge (tgt := 40) hx hb d_Mem_init_18 (by decide) (fun h9 => absurd h9 (by decide)) (fun _ => ?_)
  refine lv_aload_n hx hb d_Mem_init_21 rfl (lv_at hl 1 rfl) ?_
  refine g_get (ci := 3) (C := R_Mem) (T := F_Mem) (Nf := 2) (v := .ref (ad (q + 1))) hx hb hA in_Mem hown hK hP (k := q) (by omega) fa18 rfl 0 (by decide) (hA _ aw_45) (fun _ h9 => h9) rfl d_Mem_init_22 ?_
  refine lv_iload_n hx hb d_Mem_init_25 rfl (lv_at hl 0 rfl) ?_
  refine cd_le (fun hle => ?_)
  have hz21 : H.size = ad (q + 4) := cd_sz hs hP hsz hle (by omega)
  refine g_new (ci := 1) (C := R_Reg) (T := F_Reg) (Nf := 4) (fs := [.null, .int 0, .int 0, .int 0]) hx hb hA in_Reg t_Reg t_Reg_ok hown (hA _ aw_30) (hA _ aw_31) (hA _ aw_3) hK hP hS hz21 hs (hAA _ (cd_adm hs (by omega))) rfl (by decide) (Nat.le_of_ble_eq_true rfl) (Nat.le_of_ble_eq_true rfl) d_Mem_init_26 (fun H w6 fa22 e6 hP hS _ => ?_)
  have fa23 := (e6 q (by omega)).trans fa18
  have fa24 := (e6 (q + 1) (by omega)).trans fa17
  have fa25 := (e6 (q + 2) (by omega)).trans fa19
  have fa26 := (e6 (q + 3) (by omega)).trans fa20
  refine lv_dup hx hb d_Mem_init_29 rfl ?_
  refine cd_le (fun hle => ?_)
  have hz27 : H.size = ad (q + 5) := cd_sz hs hP hsz hle (by omega)
  refine va_callv (va_runI (As := []) (rest := [.ref (ad (q + 4)), .int (1 : Int32), .ref (ad (q + 1))]) ⟨hx, hb, hml, hown, hA⟩ (i_Reg l D tt ad A zs w6 (q + 4) hs (fun k hk => hAA k (Nat.le_trans (cd_adm hs (by omega)) hk)) fa22) (cwI 0 hA (cd_good aw_34) rfl rfl rfl (hA _ aw_3) (hA _ aw_32) (hA _ aw_33) rfl (by decide +kernel) ⟨Nat.le_of_ble_eq_true rfl, Nat.le_of_ble_eq_true rfl⟩) ⟨cd_blindN, fun U hU hW => ⟨rfl, cd_preN hK hP hZ hS hz27 hO U hU hW⟩⟩ rfl rfl hl.1 rfl (lv_room (Nat.le_of_ble_eq_true rfl)) d_Mem_init_30 ⟨Nat.le_of_ble_eq_true rfl, Nat.le_of_ble_eq_true rfl⟩) hS (fun _ _ h => h) (fun _ h => h) (fun w7 tE H locs ht hvm hp28 hPN hz1 hk1 hS => ?_)
  obtain ⟨fa30, fa31, e7⟩ := hp28
  have hP := cd_Pf ht hPN.1
  have fa30 : w7 (q + 4) = .inr (1, [.ref (ad (q + 5)), .int (0 : Int32), .int (0 : Int32), .int (0 : Int32)]) := fa30
  have fa31 : w7 (q + 5) = .inl (tt 0, 1024, .inl (fun _ => 0)) := fa31
  have fa32 := (e7 q (by omega)).trans fa23
  have fa33 := (e7 (q + 1) (by omega)).trans fa24
  have fa34 := (e7 (q + 2) (by omega)).trans fa25
  have fa35 := (e7 (q + 3) (by omega)).trans fa26
  refine g_aast (ci := 1) hx hb hK hP hS (k := (q + 1)) (kv := (q + 4)) (by omega) (by omega) fa33 fa30 rfl rfl (by unfold vp_in; decide) d_Mem_init_33 (fun H locs w8 fa36 e8 hP hS => ?_)
  have fa37 := (e8 q (by omega)).trans fa32
  have fa38 := (e8 (q + 2) (by omega)).trans fa34
  have fa39 := (e8 (q + 3) (by omega)).trans fa35
  have fa40 := (e8 (q + 4) (by omega)).trans fa30
  have fa41 := (e8 (q + 5) (by omega)).trans fa31
  refine lv_iinc (k := 0) (v := (2 : Int32)) (lv' := [(1, .int (2 : Int32)), (0, .ref (ad q))]) hx hb d_Mem_init_34 hl rfl (by decide) (by decide) rfl (fun ls hl => ?_)
  refine lv_goto (tgt := 15) hx hb d_Mem_init_37 (by decide) ?_
  refine lv_iload_n hx hb d_Mem_init_15 rfl (lv_at hl 0 rfl) ?_
  refine lv_bipush (v := (6 : Int32)) hx hb d_Mem_init_16 (by decide) ?_
  refine lv_icmp_ge (tgt := 40) hx hb d_Mem_init_18 (by decide) (fun h9 => absurd h9 (by decide)) (fun _ => ?_)
  refine lv_aload_n hx hb d_Mem_init_21 rfl (lv_at hl 1 rfl) ?_
  refine g_get (ci := 3) (C := R_Mem) (T := F_Mem) (Nf := 2) (v := .ref (ad (q + 1))) hx hb hA in_Mem hown hK hP (k := q) (by omega) fa37 rfl 0 (by decide) (hA _ aw_45) (fun _ h9 => h9) rfl d_Mem_init_22 ?_
  refine lv_iload_n hx hb d_Mem_init_25 rfl (lv_at hl 0 rfl) ?_
  refine cd_le (fun hle => ?_)
  have hz42 : H.size = ad (q + 6) := cd_sz hs hP hsz hle (by omega)
  refine g_new (ci := 1) (C := R_Reg) (T := F_Reg) (Nf := 4) (fs := [.null, .int 0, .int 0, .int 0]) hx hb hA in_Reg t_Reg t_Reg_ok hown (hA _ aw_30) (hA _ aw_31) (hA _ aw_3) hK hP hS hz42 hs (hAA _ (cd_adm hs (by omega))) rfl (by decide) (Nat.le_of_ble_eq_true rfl) (Nat.le_of_ble_eq_true rfl) d_Mem_init_26 (fun H w9 fa43 e9 hP hS _ => ?_)
  have fa44 := (e9 q (by omega)).trans fa37
  have fa45 := (e9 (q + 1) (by omega)).trans fa36
  have fa46 := (e9 (q + 2) (by omega)).trans fa38
  have fa47 := (e9 (q + 3) (by omega)).trans fa39
  have fa48 := (e9 (q + 4) (by omega)).trans fa40
  have fa49 := (e9 (q + 5) (by omega)).trans fa41
  refine lv_dup hx hb d_Mem_init_29 rfl ?_
  refine cd_le (fun hle => ?_)
  have hz50 : H.size = ad (q + 7) := cd_sz hs hP hsz hle (by omega)
  refine va_callv (va_runI (As := []) (rest := [.ref (ad (q + 6)), .int (2 : Int32), .ref (ad (q + 1))]) ⟨hx, hb, hml, hown, hA⟩ (i_Reg l D tt ad A zs w9 (q + 6) hs (fun k hk => hAA k (Nat.le_trans (cd_adm hs (by omega)) hk)) fa43) (cwI 0 hA (cd_good aw_34) rfl rfl rfl (hA _ aw_3) (hA _ aw_32) (hA _ aw_33) rfl (by decide +kernel) ⟨Nat.le_of_ble_eq_true rfl, Nat.le_of_ble_eq_true rfl⟩) ⟨cd_blindN, fun U hU hW => ⟨rfl, cd_preN hK hP hZ hS hz50 hO U hU hW⟩⟩ rfl rfl hl.1 rfl (lv_room (Nat.le_of_ble_eq_true rfl)) d_Mem_init_30 ⟨Nat.le_of_ble_eq_true rfl, Nat.le_of_ble_eq_true rfl⟩) hS (fun _ _ h => h) (fun _ h => h) (fun w10 tE H locs ht hvm hp51 hPN hz1 hk1 hS => ?_)
  obtain ⟨fa53, fa54, e10⟩ := hp51
  have hP := cd_Pf ht hPN.1
  have fa53 : w10 (q + 6) = .inr (1, [.ref (ad (q + 7)), .int (0 : Int32), .int (0 : Int32), .int (0 : Int32)]) := fa53
  have fa54 : w10 (q + 7) = .inl (tt 0, 1024, .inl (fun _ => 0)) := fa54
  have fa55 := (e10 q (by omega)).trans fa44
  have fa56 := (e10 (q + 1) (by omega)).trans fa45
  have fa57 := (e10 (q + 2) (by omega)).trans fa46
  have fa58 := (e10 (q + 3) (by omega)).trans fa47
  have fa59 := (e10 (q + 4) (by omega)).trans fa48
  have fa60 := (e10 (q + 5) (by omega)).trans fa49
  refine g_aast (ci := 1) hx hb hK hP hS (k := (q + 1)) (kv := (q + 6)) (by omega) (by omega) fa56 fa53 rfl rfl (by unfold vp_in; decide) d_Mem_init_33 (fun H locs w11 fa61 e11 hP hS => ?_)
  have fa62 := (e11 q (by omega)).trans fa55
  have fa63 := (e11 (q + 2) (by omega)).trans fa57
  have fa64 := (e11 (q + 3) (by omega)).trans fa58
  have fa65 := (e11 (q + 4) (by omega)).trans fa59
  have fa66 := (e11 (q + 5) (by omega)).trans fa60
  have fa67 := (e11 (q + 6) (by omega)).trans fa53
  have fa68 := (e11 (q + 7) (by omega)).trans fa54
  refine lv_iinc (k := 0) (v := (3 : Int32)) (lv' := [(1, .int (3 : Int32)), (0, .ref (ad q))]) hx hb d_Mem_init_34 hl rfl (by decide) (by decide) rfl (fun ls hl => ?_)
  refine lv_goto (tgt := 15) hx hb d_Mem_init_37 (by decide) ?_
  refine lv_iload_n hx hb d_Mem_init_15 rfl (lv_at hl 0 rfl) ?_
  refine lv_bipush (v := (6 : Int32)) hx hb d_Mem_init_16 (by decide) ?_
  refine lv_icmp_ge (tgt := 40) hx hb d_Mem_init_18 (by decide) (fun h9 => absurd h9 (by decide)) (fun _ => ?_)
  refine lv_aload_n hx hb d_Mem_init_21 rfl (lv_at hl 1 rfl) ?_
  refine g_get (ci := 3) (C := R_Mem) (T := F_Mem) (Nf := 2) (v := .ref (ad (q + 1))) hx hb hA in_Mem hown hK hP (k := q) (by omega) fa62 rfl 0 (by decide) (hA _ aw_45) (fun _ h9 => h9) rfl d_Mem_init_22 ?_
  refine lv_iload_n hx hb d_Mem_init_25 rfl (lv_at hl 0 rfl) ?_
  refine cd_le (fun hle => ?_)
  have hz69 : H.size = ad (q + 8) := cd_sz hs hP hsz hle (by omega)
  refine g_new (ci := 1) (C := R_Reg) (T := F_Reg) (Nf := 4) (fs := [.null, .int 0, .int 0, .int 0]) hx hb hA in_Reg t_Reg t_Reg_ok hown (hA _ aw_30) (hA _ aw_31) (hA _ aw_3) hK hP hS hz69 hs (hAA _ (cd_adm hs (by omega))) rfl (by decide) (Nat.le_of_ble_eq_true rfl) (Nat.le_of_ble_eq_true rfl) d_Mem_init_26 (fun H w12 fa70 e12 hP hS _ => ?_)
  have fa71 := (e12 q (by omega)).trans fa62
  have fa72 := (e12 (q + 1) (by omega)).trans fa61
  have fa73 := (e12 (q + 2) (by omega)).trans fa63
  have fa74 := (e12 (q + 3) (by omega)).trans fa64
  have fa75 := (e12 (q + 4) (by omega)).trans fa65
  have fa76 := (e12 (q + 5) (by omega)).trans fa66
  have fa77 := (e12 (q + 6) (by omega)).trans fa67
  have fa78 := (e12 (q + 7) (by omega)).trans fa68
  refine lv_dup hx hb d_Mem_init_29 rfl ?_
  refine cd_le (fun hle => ?_)
  have hz79 : H.size = ad (q + 9) := cd_sz hs hP hsz hle (by omega)
  refine va_callv (va_runI (As := []) (rest := [.ref (ad (q + 8)), .int (3 : Int32), .ref (ad (q + 1))]) ⟨hx, hb, hml, hown, hA⟩ (i_Reg l D tt ad A zs w12 (q + 8) hs (fun k hk => hAA k (Nat.le_trans (cd_adm hs (by omega)) hk)) fa70) (cwI 0 hA (cd_good aw_34) rfl rfl rfl (hA _ aw_3) (hA _ aw_32) (hA _ aw_33) rfl (by decide +kernel) ⟨Nat.le_of_ble_eq_true rfl, Nat.le_of_ble_eq_true rfl⟩) ⟨cd_blindN, fun U hU hW => ⟨rfl, cd_preN hK hP hZ hS hz79 hO U hU hW⟩⟩ rfl rfl hl.1 rfl (lv_room (Nat.le_of_ble_eq_true rfl)) d_Mem_init_30 ⟨Nat.le_of_ble_eq_true rfl, Nat.le_of_ble_eq_true rfl⟩) hS (fun _ _ h => h) (fun _ h => h) (fun w13 tE H locs ht hvm hp80 hPN hz1 hk1 hS => ?_)
  obtain ⟨fa82, fa83, e13⟩ := hp80
  have hP := cd_Pf ht hPN.1
  have fa82 : w13 (q + 8) = .inr (1, [.ref (ad (q + 9)), .int (0 : Int32), .int (0 : Int32), .int (0 : Int32)]) := fa82
  have fa83 : w13 (q + 9) = .inl (tt 0, 1024, .inl (fun _ => 0)) := fa83
  have fa84 := (e13 q (by omega)).trans fa71
  have fa85 := (e13 (q + 1) (by omega)).trans fa72
  have fa86 := (e13 (q + 2) (by omega)).trans fa73
  have fa87 := (e13 (q + 3) (by omega)).trans fa74
  have fa88 := (e13 (q + 4) (by omega)).trans fa75
  have fa89 := (e13 (q + 5) (by omega)).trans fa76
  have fa90 := (e13 (q + 6) (by omega)).trans fa77
  have fa91 := (e13 (q + 7) (by omega)).trans fa78
  refine g_aast (ci := 1) hx hb hK hP hS (k := (q + 1)) (kv := (q + 8)) (by omega) (by omega) fa85 fa82 rfl rfl (by unfold vp_in; decide) d_Mem_init_33 (fun H locs w14 fa92 e14 hP hS => ?_)
  have fa93 := (e14 q (by omega)).trans fa84
  have fa94 := (e14 (q + 2) (by omega)).trans fa86
  have fa95 := (e14 (q + 3) (by omega)).trans fa87
  have fa96 := (e14 (q + 4) (by omega)).trans fa88
  have fa97 := (e14 (q + 5) (by omega)).trans fa89
  have fa98 := (e14 (q + 6) (by omega)).trans fa90
  have fa99 := (e14 (q + 7) (by omega)).trans fa91
  have fa100 := (e14 (q + 8) (by omega)).trans fa82
  have fa101 := (e14 (q + 9) (by omega)).trans fa83
  refine lv_iinc (k := 0) (v := (4 : Int32)) (lv' := [(1, .int (4 : Int32)), (0, .ref (ad q))]) hx hb d_Mem_init_34 hl rfl (by decide) (by decide) rfl (fun ls hl => ?_)
  refine lv_goto (tgt := 15) hx hb d_Mem_init_37 (by decide) ?_
  refine lv_iload_n hx hb d_Mem_init_15 rfl (lv_at hl 0 rfl) ?_
  refine lv_bipush (v := (6 : Int32)) hx hb d_Mem_init_16 (by decide) ?_
  refine lv_icmp_ge (tgt := 40) hx hb d_Mem_init_18 (by decide) (fun h9 => absurd h9 (by decide)) (fun _ => ?_)
  refine lv_aload_n hx hb d_Mem_init_21 rfl (lv_at hl 1 rfl) ?_
  refine g_get (ci := 3) (C := R_Mem) (T := F_Mem) (Nf := 2) (v := .ref (ad (q + 1))) hx hb hA in_Mem hown hK hP (k := q) (by omega) fa93 rfl 0 (by decide) (hA _ aw_45) (fun _ h9 => h9) rfl d_Mem_init_22 ?_
  refine lv_iload_n hx hb d_Mem_init_25 rfl (lv_at hl 0 rfl) ?_
  refine cd_le (fun hle => ?_)
  have hz102 : H.size = ad (q + 10) := cd_sz hs hP hsz hle (by omega)
  refine g_new (ci := 1) (C := R_Reg) (T := F_Reg) (Nf := 4) (fs := [.null, .int 0, .int 0, .int 0]) hx hb hA in_Reg t_Reg t_Reg_ok hown (hA _ aw_30) (hA _ aw_31) (hA _ aw_3) hK hP hS hz102 hs (hAA _ (cd_adm hs (by omega))) rfl (by decide) (Nat.le_of_ble_eq_true rfl) (Nat.le_of_ble_eq_true rfl) d_Mem_init_26 (fun H w15 fa103 e15 hP hS _ => ?_)
  have fa104 := (e15 q (by omega)).trans fa93
  have fa105 := (e15 (q + 1) (by omega)).trans fa92
  have fa106 := (e15 (q + 2) (by omega)).trans fa94
  have fa107 := (e15 (q + 3) (by omega)).trans fa95
  have fa108 := (e15 (q + 4) (by omega)).trans fa96
  have fa109 := (e15 (q + 5) (by omega)).trans fa97
  have fa110 := (e15 (q + 6) (by omega)).trans fa98
  have fa111 := (e15 (q + 7) (by omega)).trans fa99
  have fa112 := (e15 (q + 8) (by omega)).trans fa100
  have fa113 := (e15 (q + 9) (by omega)).trans fa101
  refine lv_dup hx hb d_Mem_init_29 rfl ?_
  refine cd_le (fun hle => ?_)
  have hz114 : H.size = ad (q + 11) := cd_sz hs hP hsz hle (by omega)
  refine va_callv (va_runI (As := []) (rest := [.ref (ad (q + 10)), .int (4 : Int32), .ref (ad (q + 1))]) ⟨hx, hb, hml, hown, hA⟩ (i_Reg l D tt ad A zs w15 (q + 10) hs (fun k hk => hAA k (Nat.le_trans (cd_adm hs (by omega)) hk)) fa103) (cwI 0 hA (cd_good aw_34) rfl rfl rfl (hA _ aw_3) (hA _ aw_32) (hA _ aw_33) rfl (by decide +kernel) ⟨Nat.le_of_ble_eq_true rfl, Nat.le_of_ble_eq_true rfl⟩) ⟨cd_blindN, fun U hU hW => ⟨rfl, cd_preN hK hP hZ hS hz114 hO U hU hW⟩⟩ rfl rfl hl.1 rfl (lv_room (Nat.le_of_ble_eq_true rfl)) d_Mem_init_30 ⟨Nat.le_of_ble_eq_true rfl, Nat.le_of_ble_eq_true rfl⟩) hS (fun _ _ h => h) (fun _ h => h) (fun w16 tE H locs ht hvm hp115 hPN hz1 hk1 hS => ?_)
  obtain ⟨fa117, fa118, e16⟩ := hp115
  have hP := cd_Pf ht hPN.1
  have fa117 : w16 (q + 10) = .inr (1, [.ref (ad (q + 11)), .int (0 : Int32), .int (0 : Int32), .int (0 : Int32)]) := fa117
  have fa118 : w16 (q + 11) = .inl (tt 0, 1024, .inl (fun _ => 0)) := fa118
  have fa119 := (e16 q (by omega)).trans fa104
  have fa120 := (e16 (q + 1) (by omega)).trans fa105
  have fa121 := (e16 (q + 2) (by omega)).trans fa106
  have fa122 := (e16 (q + 3) (by omega)).trans fa107
  have fa123 := (e16 (q + 4) (by omega)).trans fa108
  have fa124 := (e16 (q + 5) (by omega)).trans fa109
  have fa125 := (e16 (q + 6) (by omega)).trans fa110
  have fa126 := (e16 (q + 7) (by omega)).trans fa111
  have fa127 := (e16 (q + 8) (by omega)).trans fa112
  have fa128 := (e16 (q + 9) (by omega)).trans fa113
  refine g_aast (ci := 1) hx hb hK hP hS (k := (q + 1)) (kv := (q + 10)) (by omega) (by omega) fa120 fa117 rfl rfl (by unfold vp_in; decide) d_Mem_init_33 (fun H locs w17 fa129 e17 hP hS => ?_)
  have fa130 := (e17 q (by omega)).trans fa119
  have fa131 := (e17 (q + 2) (by omega)).trans fa121
  have fa132 := (e17 (q + 3) (by omega)).trans fa122
  have fa133 := (e17 (q + 4) (by omega)).trans fa123
  have fa134 := (e17 (q + 5) (by omega)).trans fa124
  have fa135 := (e17 (q + 6) (by omega)).trans fa125
  have fa136 := (e17 (q + 7) (by omega)).trans fa126
  have fa137 := (e17 (q + 8) (by omega)).trans fa127
  have fa138 := (e17 (q + 9) (by omega)).trans fa128
  have fa139 := (e17 (q + 10) (by omega)).trans fa117
  have fa140 := (e17 (q + 11) (by omega)).trans fa118
  refine lv_iinc (k := 0) (v := (5 : Int32)) (lv' := [(1, .int (5 : Int32)), (0, .ref (ad q))]) hx hb d_Mem_init_34 hl rfl (by decide) (by decide) rfl (fun ls hl => ?_)
  refine lv_goto (tgt := 15) hx hb d_Mem_init_37 (by decide) ?_
  refine lv_iload_n hx hb d_Mem_init_15 rfl (lv_at hl 0 rfl) ?_
  refine lv_bipush (v := (6 : Int32)) hx hb d_Mem_init_16 (by decide) ?_
  refine lv_icmp_ge (tgt := 40) hx hb d_Mem_init_18 (by decide) (fun h9 => absurd h9 (by decide)) (fun _ => ?_)
  refine lv_aload_n hx hb d_Mem_init_21 rfl (lv_at hl 1 rfl) ?_
  refine g_get (ci := 3) (C := R_Mem) (T := F_Mem) (Nf := 2) (v := .ref (ad (q + 1))) hx hb hA in_Mem hown hK hP (k := q) (by omega) fa130 rfl 0 (by decide) (hA _ aw_45) (fun _ h9 => h9) rfl d_Mem_init_22 ?_
  refine lv_iload_n hx hb d_Mem_init_25 rfl (lv_at hl 0 rfl) ?_
  refine cd_le (fun hle => ?_)
  have hz141 : H.size = ad (q + 12) := cd_sz hs hP hsz hle (by omega)
  refine g_new (ci := 1) (C := R_Reg) (T := F_Reg) (Nf := 4) (fs := [.null, .int 0, .int 0, .int 0]) hx hb hA in_Reg t_Reg t_Reg_ok hown (hA _ aw_30) (hA _ aw_31) (hA _ aw_3) hK hP hS hz141 hs (hAA _ (cd_adm hs (by omega))) rfl (by decide) (Nat.le_of_ble_eq_true rfl) (Nat.le_of_ble_eq_true rfl) d_Mem_init_26 (fun H w18 fa142 e18 hP hS _ => ?_)
  have fa143 := (e18 q (by omega)).trans fa130
  have fa144 := (e18 (q + 1) (by omega)).trans fa129
  have fa145 := (e18 (q + 2) (by omega)).trans fa131
  have fa146 := (e18 (q + 3) (by omega)).trans fa132
  have fa147 := (e18 (q + 4) (by omega)).trans fa133
  have fa148 := (e18 (q + 5) (by omega)).trans fa134
  have fa149 := (e18 (q + 6) (by omega)).trans fa135
  have fa150 := (e18 (q + 7) (by omega)).trans fa136
  have fa151 := (e18 (q + 8) (by omega)).trans fa137
  have fa152 := (e18 (q + 9) (by omega)).trans fa138
  have fa153 := (e18 (q + 10) (by omega)).trans fa139
  have fa154 := (e18 (q + 11) (by omega)).trans fa140
  refine lv_dup hx hb d_Mem_init_29 rfl ?_
  refine cd_le (fun hle => ?_)
  have hz155 : H.size = ad (q + 13) := cd_sz hs hP hsz hle (by omega)
  refine va_callv (va_runI (As := []) (rest := [.ref (ad (q + 12)), .int (5 : Int32), .ref (ad (q + 1))]) ⟨hx, hb, hml, hown, hA⟩ (i_Reg l D tt ad A zs w18 (q + 12) hs (fun k hk => hAA k (Nat.le_trans (cd_adm hs (by omega)) hk)) fa142) (cwI 0 hA (cd_good aw_34) rfl rfl rfl (hA _ aw_3) (hA _ aw_32) (hA _ aw_33) rfl (by decide +kernel) ⟨Nat.le_of_ble_eq_true rfl, Nat.le_of_ble_eq_true rfl⟩) ⟨cd_blindN, fun U hU hW => ⟨rfl, cd_preN hK hP hZ hS hz155 hO U hU hW⟩⟩ rfl rfl hl.1 rfl (lv_room (Nat.le_of_ble_eq_true rfl)) d_Mem_init_30 ⟨Nat.le_of_ble_eq_true rfl, Nat.le_of_ble_eq_true rfl⟩) hS (fun _ _ h => h) (fun _ h => h) (fun w19 tE H locs ht hvm hp156 hPN hz1 hk1 hS => ?_)
  obtain ⟨fa158, fa159, e19⟩ := hp156
  have hP := cd_Pf ht hPN.1
  have fa158 : w19 (q + 12) = .inr (1, [.ref (ad (q + 13)), .int (0 : Int32), .int (0 : Int32), .int (0 : Int32)]) := fa158
  have fa159 : w19 (q + 13) = .inl (tt 0, 1024, .inl (fun _ => 0)) := fa159
  have fa160 := (e19 q (by omega)).trans fa143
  have fa161 := (e19 (q + 1) (by omega)).trans fa144
  have fa162 := (e19 (q + 2) (by omega)).trans fa145
  have fa163 := (e19 (q + 3) (by omega)).trans fa146
  have fa164 := (e19 (q + 4) (by omega)).trans fa147
  have fa165 := (e19 (q + 5) (by omega)).trans fa148
  have fa166 := (e19 (q + 6) (by omega)).trans fa149
  have fa167 := (e19 (q + 7) (by omega)).trans fa150
  have fa168 := (e19 (q + 8) (by omega)).trans fa151
  have fa169 := (e19 (q + 9) (by omega)).trans fa152
  have fa170 := (e19 (q + 10) (by omega)).trans fa153
  have fa171 := (e19 (q + 11) (by omega)).trans fa154
  refine g_aast (ci := 1) hx hb hK hP hS (k := (q + 1)) (kv := (q + 12)) (by omega) (by omega) fa161 fa158 rfl rfl (by unfold vp_in; decide) d_Mem_init_33 (fun H locs w20 fa172 e20 hP hS => ?_)
  have fa173 := (e20 q (by omega)).trans fa160
  have fa174 := (e20 (q + 2) (by omega)).trans fa162
  have fa175 := (e20 (q + 3) (by omega)).trans fa163
  have fa176 := (e20 (q + 4) (by omega)).trans fa164
  have fa177 := (e20 (q + 5) (by omega)).trans fa165
  have fa178 := (e20 (q + 6) (by omega)).trans fa166
  have fa179 := (e20 (q + 7) (by omega)).trans fa167
  have fa180 := (e20 (q + 8) (by omega)).trans fa168
  have fa181 := (e20 (q + 9) (by omega)).trans fa169
  have fa182 := (e20 (q + 10) (by omega)).trans fa170
  have fa183 := (e20 (q + 11) (by omega)).trans fa171
  have fa184 := (e20 (q + 12) (by omega)).trans fa158
  have fa185 := (e20 (q + 13) (by omega)).trans fa159
  refine lv_iinc (k := 0) (v := (6 : Int32)) (lv' := [(1, .int (6 : Int32)), (0, .ref (ad q))]) hx hb d_Mem_init_34 hl rfl (by decide) (by decide) rfl (fun ls hl => ?_)
  refine lv_goto (tgt := 15) hx hb d_Mem_init_37 (by decide) ?_
  refine lv_iload_n hx hb d_Mem_init_15 rfl (lv_at hl 0 rfl) ?_
  refine lv_bipush (v := (6 : Int32)) hx hb d_Mem_init_16 (by decide) ?_
  refine lv_icmp_ge (tgt := 40) hx hb d_Mem_init_18 (by decide) (fun _ => ?_) (fun h9 => absurd (by decide) h9)
  refine lv_aload_n hx hb d_Mem_init_40 rfl (lv_at hl 1 rfl) ?_
  refine lv_iconst (v := (0 : Int32)) hx hb d_Mem_init_41 (by decide) ?_
  refine g_put (ci := 3) (C := R_Mem) (T := F_Mem) (Nf := 2) (v := .int (0 : Int32)) (ty := .int) hx hb hA in_Mem t_Mem t_Mem_ok n_Mem hown hK hP hS (k := q) (by omega) fa173 rfl 1 (by decide) (hA _ aw_46) (fun _ h9 => h9) rfl (by decide +kernel) rfl rfl (Nat.le_of_ble_eq_true rfl) d_Mem_init_42 (fun H locs w21 fa186 e21 hP hS => ?_)
  have fa186 : w21 q = .inr (3, [.ref (ad (q + 1)), .int (0 : Int32)]) := fa186
  have fa187 := (e21 (q + 1) (by omega)).trans fa172
  have fa188 := (e21 (q + 2) (by omega)).trans fa174
  have fa189 := (e21 (q + 3) (by omega)).trans fa175
  have fa190 := (e21 (q + 4) (by omega)).trans fa176
  have fa191 := (e21 (q + 5) (by omega)).trans fa177
  have fa192 := (e21 (q + 6) (by omega)).trans fa178
  have fa193 := (e21 (q + 7) (by omega)).trans fa179
  have fa194 := (e21 (q + 8) (by omega)).trans fa180
  have fa195 := (e21 (q + 9) (by omega)).trans fa181
  have fa196 := (e21 (q + 10) (by omega)).trans fa182
  have fa197 := (e21 (q + 11) (by omega)).trans fa183
  have fa198 := (e21 (q + 12) (by omega)).trans fa184
  have fa199 := (e21 (q + 13) (by omega)).trans fa185
  refine cd_le (fun hle => ?_)
  have hz200 : H.size = ad (q + 14) := cd_sz hs hP hsz hle (by omega)
  exact W.vret hx hb hr (fun tE ht _ => ⟨⟨w21, rfl, ⟨fa186, fa187, fa188, fa189, fa190, fa191, fa192, fa193, fa194, fa195, fa196, fa197, fa198, fa199, fun k hk => ((e21 k (by omega)).trans ((e20 k (by omega)).trans ((e19 k (by omega)).trans ((e18 k (by omega)).trans ((e17 k (by omega)).trans ((e16 k (by omega)).trans ((e15 k (by omega)).trans ((e14 k (by omega)).trans ((e13 k (by omega)).trans ((e12 k (by omega)).trans ((e11 k (by omega)).trans ((e10 k (by omega)).trans ((e9 k (by omega)).trans ((e8 k (by omega)).trans ((e7 k (by omega)).trans ((e6 k (by omega)).trans ((e5 k (by omega)).trans ((e4 k (by omega)).trans ((e3 k (by omega)).trans ((e2 k (by omega)).trans (e1 k (by omega))))))))))))))))))))))⟩, ⟨cd_Pt ht hP, by rw [ht]; exact hz200⟩⟩, hS.F ht⟩) hS.2.2 d_Mem_init_45
set_option maxHeartbeats 4000000 in
set_option maxRecDepth 100000 in
theorem i_Fw (l : Launch) (D : va_G) (tt : Nat → ClassId) (ad : Nat → Nat) (A : Nat → Prop) (zs : Nat → Nat) (w0 : Nat → va_E) (q qf qm qt : Nat) (hs : ∀ k, ad (k + 1) = ad k + 1) (hAA : ∀ k, ad q ≤ k → A k) (h0 : w0 q = .inr (4, [.null, .null, .null])) : Met l y_Fw_init w_Fw_init ({ frames := 1, cells := 0, slots := 0, locals := 12 }) (va_Pc [.ref (ad q), .ref (ad qf), .ref (ad qm), .ref (ad qt)] (cd_UN D tt ad (q + 1) A zs w0)) (va_Qv (fun w' => w' q = .inr (4, [.ref (ad qf), .ref (ad qm), .ref (ad qt)]) ∧ (∀ k : Nat, (k < q ∨ q + 1 ≤ k) → w' k = w0 k)) (fun w' t => cd_PN D ad (q + 1) A w' t) A) 0 0 A := by
  refine Met.ofW (cc := b_Fw_init) (maxL := 4) (ret := none) (by decide) rfl ?_
  intro p e s m args below meth c s₁ B hml hv
  obtain ⟨rfl, ⟨hP, hK, hZ⟩, hsz, hO⟩ := hv
  have hx := B.exec
  have hb := B.bytes
  have hr := B.returns
  have hA : ∀ w ∈ cd_AW, w.before _ s = true := fun w h => atoms_spec (ws := w_Fw_init) B.pre w (List.mem_cons_of_mem _ h)
  have hown : s.vm.findClass R_Fw = some m.cls := findClass_of_methodNamed B.named
  have hlocks := B.notSynchronized
  have hin : meth.name = "<init>" := (name_of_methodNamed B.named B.method).1
  have hS : va_S A s.heap s.heap [] := va_S.rf
  have hl := lv_entry ([.ref (ad q), .ref (ad qf), .ref (ad qm), .ref (ad qt)]) (n := 4) (Nat.le_of_ble_eq_true rfl)
  rw [lg_entry_eq]
  generalize (lg_sl ([.ref (ad q), .ref (ad qf), .ref (ad qm), .ref (ad qt)]) ++ List.replicate (4 - (lg_sl ([.ref (ad q), .ref (ad qf), .ref (ad qm), .ref (ad qt)])).length) Slot.unset).toArray = ls at hl ⊢
  have hl : lv_has ls 4 [(0, .ref (ad q)), (1, .ref (ad qf)), (2, .ref (ad qm)), (3, .ref (ad qt))] := hl
  refine lv_aload_n hx hb d_Fw_init_0 rfl (lv_at hl 0 rfl) ?_
  refine W.objInit hx hb hown (hA _ aw_77) (hA _ aw_22) (hA _ aw_23) rfl (by rw [hml]; exact hl.1) rfl d_Fw_init_1 (Nat.le_of_ble_eq_true rfl) (Nat.le_of_ble_eq_true rfl) ?_
  refine W.eq (g2 := F0 m 4 ls []) rfl ?_
  refine lv_aload_n hx hb d_Fw_init_4 rfl (lv_at hl 0 rfl) ?_
  refine lv_aload_n hx hb d_Fw_init_5 rfl (lv_at hl 1 rfl) ?_
  refine g_putF (ci := 4) (C := R_Fw) (T := F_Fw) (Nf := 3) (v := .ref (ad qf)) (ty := (.object "CoreDesk$Row")) hx hb hA in_Fw t_Fw t_Fw_ok n_Fw hown hK hP hS (k := q) (by omega) h0 rfl 0 (by decide) (hA _ aw_78) (fun _ h9 => h9) rfl hin rfl (by decide +kernel) rfl rfl (Nat.le_of_ble_eq_true rfl) d_Fw_init_6 (fun H locs w1 fa1 e1 hP hS => ?_)
  have fa1 : w1 q = .inr (4, [.ref (ad qf), .null, .null]) := fa1
  refine lv_aload_n hx hb d_Fw_init_9 rfl (lv_at hl 0 rfl) ?_
  refine lv_aload_n hx hb d_Fw_init_10 rfl (lv_at hl 2 rfl) ?_
  refine g_putF (ci := 4) (C := R_Fw) (T := F_Fw) (Nf := 3) (v := .ref (ad qm)) (ty := (.object "CoreDesk$Memory")) hx hb hA in_Fw t_Fw t_Fw_ok n_Fw hown hK hP hS (k := q) (by omega) fa1 rfl 1 (by decide) (hA _ aw_79) (fun _ h9 => h9) rfl hin rfl (by decide +kernel) rfl rfl (Nat.le_of_ble_eq_true rfl) d_Fw_init_11 (fun H locs w2 fa2 e2 hP hS => ?_)
  have fa2 : w2 q = .inr (4, [.ref (ad qf), .ref (ad qm), .null]) := fa2
  refine lv_aload_n hx hb d_Fw_init_14 rfl (lv_at hl 0 rfl) ?_
  refine lv_aload_n hx hb d_Fw_init_15 rfl (lv_at hl 3 rfl) ?_
  refine g_putF (ci := 4) (C := R_Fw) (T := F_Fw) (Nf := 3) (v := .ref (ad qt)) (ty := (.object "CoreDesk$ThreadTable")) hx hb hA in_Fw t_Fw t_Fw_ok n_Fw hown hK hP hS (k := q) (by omega) fa2 rfl 2 (by decide) (hA _ aw_80) (fun _ h9 => h9) rfl hin rfl (by decide +kernel) rfl rfl (Nat.le_of_ble_eq_true rfl) d_Fw_init_16 (fun H locs w3 fa3 e3 hP hS => ?_)
  have fa3 : w3 q = .inr (4, [.ref (ad qf), .ref (ad qm), .ref (ad qt)]) := fa3
  refine cd_le (fun hle => ?_)
  have hz4 : H.size = ad (q + 1) := cd_sz hs hP hsz hle (by omega)
  exact W.vret hx hb hr (fun tE ht _ => ⟨⟨w3, rfl, ⟨fa3, fun k hk => ((e3 k (by omega)).trans ((e2 k (by omega)).trans (e1 k (by omega))))⟩, ⟨cd_Pt ht hP, by rw [ht]; exact hz4⟩⟩, hS.F ht⟩) hS.2.2 d_Fw_init_19
set_option maxHeartbeats 4000000 in
set_option maxRecDepth 100000 in
theorem i_Tc (l : Launch) (D : va_G) (tt : Nat → ClassId) (ad : Nat → Nat) (A : Nat → Prop) (zs : Nat → Nat) (w0 : Nat → va_E) (q qp : Nat) (hs : ∀ k, ad (k + 1) = ad k + 1) (hAA : ∀ k, ad q ≤ k → A k) (h0 : w0 q = .inr (5, [.null, .null, .int 0, .int 0])) : Met l y_Tc_init w_Tc_init ({ frames := 2, cells := 3, slots := 30, locals := 32 }) (va_Pc [.ref (ad q), .ref (ad qp)] (cd_UN D tt ad (q + 1) A zs w0)) (va_Qv (fun w' => w' q = .inr (5, [.ref (ad qp), .ref (ad (q + 1)), .int (0 : Int32), .int (0 : Int32)]) ∧ w' (q + 1) = .inr (2, [.ref (ad (q + 2)), .ref (ad (q + 3)), .int (0 : Int32)]) ∧ w' (q + 2) = .inl (tt 1, 3, .inl (fun _ => 0)) ∧ w' (q + 3) = .inl (tt 1, 24, .inl (fun _ => 0)) ∧ (∀ k : Nat, (k < q ∨ q + 4 ≤ k) → w' k = w0 k)) (fun w' t => cd_PN D ad (q + 4) A w' t) A) 3 30 A := by
  refine Met.ofW (cc := b_Tc_init) (maxL := 2) (ret := none) (by decide) rfl ?_
  intro p e s m args below meth c s₁ B hml hv
  obtain ⟨rfl, ⟨hP, hK, hZ⟩, hsz, hO⟩ := hv
  have hx := B.exec
  have hb := B.bytes
  have hr := B.returns
  have hA : ∀ w ∈ cd_AW, w.before _ s = true := fun w h => atoms_spec (ws := w_Tc_init) B.pre w (List.mem_cons_of_mem _ h)
  have hown : s.vm.findClass R_Tc = some m.cls := findClass_of_methodNamed B.named
  have hlocks := B.notSynchronized
  have hin : meth.name = "<init>" := (name_of_methodNamed B.named B.method).1
  have hS : va_S A s.heap s.heap [] := va_S.rf
  have hl := lv_entry ([.ref (ad q), .ref (ad qp)]) (n := 2) (Nat.le_of_ble_eq_true rfl)
  rw [lg_entry_eq]
  generalize (lg_sl ([.ref (ad q), .ref (ad qp)]) ++ List.replicate (2 - (lg_sl ([.ref (ad q), .ref (ad qp)])).length) Slot.unset).toArray = ls at hl ⊢
  have hl : lv_has ls 2 [(0, .ref (ad q)), (1, .ref (ad qp))] := hl
  refine lv_aload_n hx hb d_Tc_init_0 rfl (lv_at hl 0 rfl) ?_
  refine W.objInit hx hb hown (hA _ aw_89) (hA _ aw_22) (hA _ aw_23) rfl (by rw [hml]; exact hl.1) rfl d_Tc_init_1 (Nat.le_of_ble_eq_true rfl) (Nat.le_of_ble_eq_true rfl) ?_
  refine W.eq (g2 := F0 m 4 ls []) rfl ?_
  refine lv_aload_n hx hb d_Tc_init_4 rfl (lv_at hl 0 rfl) ?_
  refine lv_aload_n hx hb d_Tc_init_5 rfl (lv_at hl 1 rfl) ?_
  refine g_putF (ci := 5) (C := R_Tc) (T := F_Tc) (Nf := 4) (v := .ref (ad qp)) (ty := (.object "CoreDesk$Row")) hx hb hA in_Tc t_Tc t_Tc_ok n_Tc hown hK hP hS (k := q) (by omega) h0 rfl 0 (by decide) (hA _ aw_92) (fun _ h9 => h9) rfl hin rfl (by decide +kernel) rfl rfl (Nat.le_of_ble_eq_true rfl) d_Tc_init_6 (fun H locs w1 fa1 e1 hP hS => ?_)
  have fa1 : w1 q = .inr (5, [.ref (ad qp), .null, .int 0, .int 0]) := fa1
  refine lv_aload_n hx hb d_Tc_init_9 rfl (lv_at hl 0 rfl) ?_
  refine cd_le (fun hle => ?_)
  have hz2 : H.size = ad (q + 1) := cd_sz hs hP hsz hle (by omega)
  refine g_new (ci := 2) (C := R_Tt) (T := F_Tt) (Nf := 3) (fs := [.null, .null, .int 0]) hx hb hA in_Tt t_Tt t_Tt_ok hown (hA _ aw_90) (hA _ aw_50) (hA _ aw_4) hK hP hS hz2 hs (hAA _ (cd_adm hs (by omega))) rfl (by decide) (Nat.le_of_ble_eq_true rfl) (Nat.le_of_ble_eq_true rfl) d_Tc_init_10 (fun H w2 fa3 e2 hP hS _ => ?_)
  have fa4 := (e2 q (by omega)).trans fa1
  refine lv_dup hx hb d_Tc_init_13 rfl ?_
  refine cd_le (fun hle => ?_)
  have hz5 : H.size = ad (q + 2) := cd_sz hs hP hsz hle (by omega)
  refine va_callv (va_runI (As := []) (rest := [.ref (ad (q + 1)), .ref (ad q)]) ⟨hx, hb, hml, hown, hA⟩ (i_Tt l D tt ad A zs w2 (q + 1) hs (fun k hk => hAA k (Nat.le_trans (cd_adm hs (by omega)) hk)) fa3) (cwI 0 hA (cd_good aw_53) rfl rfl rfl (hA _ aw_4) (hA _ aw_91) (hA _ aw_52) rfl (by decide +kernel) ⟨Nat.le_of_ble_eq_true rfl, Nat.le_of_ble_eq_true rfl⟩) ⟨cd_blindN, fun U hU hW => ⟨rfl, cd_preN hK hP hZ hS hz5 hO U hU hW⟩⟩ rfl rfl hl.1 rfl (lv_room (Nat.le_of_ble_eq_true rfl)) d_Tc_init_14 ⟨Nat.le_of_ble_eq_true rfl, Nat.le_of_ble_eq_true rfl⟩) hS (fun _ _ h => h) (fun _ h => h) (fun w3 tE H locs ht hvm hp6 hPN hz1 hk1 hS => ?_)
  obtain ⟨fa8, fa9, fa10, e3⟩ := hp6
  have hP := cd_Pf ht hPN.1
  have fa8 : w3 (q + 1) = .inr (2, [.ref (ad (q + 2)), .ref (ad (q + 3)), .int (0 : Int32)]) := fa8
  have fa9 : w3 (q + 2) = .inl (tt 1, 3, .inl (fun _ => 0)) := fa9
  have fa10 : w3 (q + 3) = .inl (tt 1, 24, .inl (fun _ => 0)) := fa10
  have fa11 := (e3 q (by omega)).trans fa4
  refine g_putF (ci := 5) (C := R_Tc) (T := F_Tc) (Nf := 4) (v := .ref (ad (q + 1))) (ty := (.object "CoreDesk$ThreadTable")) hx hb hA in_Tc t_Tc t_Tc_ok n_Tc hown hK hP hS (k := q) (by omega) fa11 rfl 1 (by decide) (hA _ aw_93) (fun _ h9 => h9) rfl hin rfl (by decide +kernel) rfl rfl (Nat.le_of_ble_eq_true rfl) d_Tc_init_17 (fun H locs w4 fa12 e4 hP hS => ?_)
  have fa12 : w4 q = .inr (5, [.ref (ad qp), .ref (ad (q + 1)), .int 0, .int 0]) := fa12
  have fa13 := (e4 (q + 1) (by omega)).trans fa8
  have fa14 := (e4 (q + 2) (by omega)).trans fa9
  have fa15 := (e4 (q + 3) (by omega)).trans fa10
  refine lv_aload_n hx hb d_Tc_init_20 rfl (lv_at hl 0 rfl) ?_
  refine lv_iconst (v := (0 : Int32)) hx hb d_Tc_init_21 (by decide) ?_
  refine g_put (ci := 5) (C := R_Tc) (T := F_Tc) (Nf := 4) (v := .int (0 : Int32)) (ty := .int) hx hb hA in_Tc t_Tc t_Tc_ok n_Tc hown hK hP hS (k := q) (by omega) fa12 rfl 2 (by decide) (hA _ aw_94) (fun _ h9 => h9) rfl (by decide +kernel) rfl rfl (Nat.le_of_ble_eq_true rfl) d_Tc_init_22 (fun H locs w5 fa16 e5 hP hS => ?_)
  have fa16 : w5 q = .inr (5, [.ref (ad qp), .ref (ad (q + 1)), .int (0 : Int32), .int 0]) := fa16
  have fa17 := (e5 (q + 1) (by omega)).trans fa13
  have fa18 := (e5 (q + 2) (by omega)).trans fa14
  have fa19 := (e5 (q + 3) (by omega)).trans fa15
  refine lv_aload_n hx hb d_Tc_init_25 rfl (lv_at hl 0 rfl) ?_
  refine lv_iconst (v := (0 : Int32)) hx hb d_Tc_init_26 (by decide) ?_
  refine g_put (ci := 5) (C := R_Tc) (T := F_Tc) (Nf := 4) (v := .int (0 : Int32)) (ty := .int) hx hb hA in_Tc t_Tc t_Tc_ok n_Tc hown hK hP hS (k := q) (by omega) fa16 rfl 3 (by decide) (hA _ aw_95) (fun _ h9 => h9) rfl (by decide +kernel) rfl rfl (Nat.le_of_ble_eq_true rfl) d_Tc_init_27 (fun H locs w6 fa20 e6 hP hS => ?_)
  have fa20 : w6 q = .inr (5, [.ref (ad qp), .ref (ad (q + 1)), .int (0 : Int32), .int (0 : Int32)]) := fa20
  have fa21 := (e6 (q + 1) (by omega)).trans fa17
  have fa22 := (e6 (q + 2) (by omega)).trans fa18
  have fa23 := (e6 (q + 3) (by omega)).trans fa19
  refine cd_le (fun hle => ?_)
  have hz24 : H.size = ad (q + 4) := cd_sz hs hP hsz hle (by omega)
  exact W.vret hx hb hr (fun tE ht _ => ⟨⟨w6, rfl, ⟨fa20, fa21, fa22, fa23, fun k hk => ((e6 k (by omega)).trans ((e5 k (by omega)).trans ((e4 k (by omega)).trans ((e3 k (by omega)).trans ((e2 k (by omega)).trans (e1 k (by omega)))))))⟩, ⟨cd_Pt ht hP, by rw [ht]; exact hz24⟩⟩, hS.F ht⟩) hS.2.2 d_Tc_init_30
set_option maxHeartbeats 4000000 in
set_option maxRecDepth 100000 in
theorem i_Mo (l : Launch) (D : va_G) (tt : Nat → ClassId) (ad : Nat → Nat) (A : Nat → Prop) (zs : Nat → Nat) (w0 : Nat → va_E) (q : Nat) (hs : ∀ k, ad (k + 1) = ad k + 1) (hAA : ∀ k, ad q ≤ k → A k) (h0 : w0 q = .inr (7, [.int 0, .null, .null, .null, .null, .null, .null, .null, .null, .null, .int 0, .null, .int 0, .int 0, .int 0, .int 0])) : Met l y_Mo_init w_Mo_init ({ frames := 1, cells := 10, slots := 34957, locals := 12 }) (va_Pc [.ref (ad q)] (cd_UN D tt ad (q + 1) A zs w0)) (va_Qv (fun w' => w' q = .inr (7, [.int 0, .ref (ad (q + 1)), .ref (ad (q + 2)), .ref (ad (q + 3)), .ref (ad (q + 4)), .ref (ad (q + 5)), .ref (ad (q + 6)), .ref (ad (q + 7)), .ref (ad (q + 8)), .ref (ad (q + 9)), .int (-1 : Int32), .ref (ad (q + 10)), .int 0, .int 0, .int 0, .int 0]) ∧ w' (q + 1) = .inl (tt 1, 18, .inl (fun _ => 0)) ∧ w' (q + 2) = .inl (tt 1, 18, .inl (fun _ => 0)) ∧ w' (q + 3) = .inl (tt 1, 18, .inl (fun _ => 0)) ∧ w' (q + 4) = .inl (tt 0, 18432, .inl (fun _ => 0)) ∧ w' (q + 5) = .inl (tt 1, 3, .inl (fun _ => 0)) ∧ w' (q + 6) = .inl (tt 1, 3, .inl (fun _ => 0)) ∧ w' (q + 7) = .inl (tt 1, 9, .inl (fun _ => 0)) ∧ w' (q + 8) = .inl (tt 1, 72, .inl (fun _ => 0)) ∧ w' (q + 9) = .inl (tt 0, 8192, .inl (fun _ => 0)) ∧ w' (q + 10) = .inl (tt 0, 8192, .inl (fun _ => 0)) ∧ (∀ k : Nat, (k < q ∨ q + 11 ≤ k) → w' k = w0 k)) (fun w' t => cd_PN D ad (q + 11) A w' t) A) 10 34957 A := by
  refine Met.ofW (cc := b_Mo_init) (maxL := 1) (ret := none) (by decide) rfl ?_
  intro p e s m args below meth c s₁ B hml hv
  obtain ⟨rfl, ⟨hP, hK, hZ⟩, hsz, hO⟩ := hv
  have hx := B.exec
  have hb := B.bytes
  have hr := B.returns
  have hA : ∀ w ∈ cd_AW, w.before _ s = true := fun w h => atoms_spec (ws := w_Mo_init) B.pre w (List.mem_cons_of_mem _ h)
  have hown : s.vm.findClass R_Mo = some m.cls := findClass_of_methodNamed B.named
  have hlocks := B.notSynchronized
  have hin : meth.name = "<init>" := (name_of_methodNamed B.named B.method).1
  have hS : va_S A s.heap s.heap [] := va_S.rf
  have hl := lv_entry ([.ref (ad q)]) (n := 1) (Nat.le_of_ble_eq_true rfl)
  rw [lg_entry_eq]
  generalize (lg_sl ([.ref (ad q)]) ++ List.replicate (1 - (lg_sl ([.ref (ad q)])).length) Slot.unset).toArray = ls at hl ⊢
  have hl : lv_has ls 1 [(0, .ref (ad q))] := hl
  refine lv_aload_n hx hb d_Mo_init_0 rfl (lv_at hl 0 rfl) ?_
  refine W.objInit hx hb hown (hA _ aw_559) (hA _ aw_22) (hA _ aw_23) rfl (by rw [hml]; exact hl.1) rfl d_Mo_init_1 (Nat.le_of_ble_eq_true rfl) (Nat.le_of_ble_eq_true rfl) ?_
  refine W.eq (g2 := F0 m 4 ls []) rfl ?_
  refine lv_aload_n hx hb d_Mo_init_4 rfl (lv_at hl 0 rfl) ?_
  refine lv_bipush (v := (18 : Int32)) hx hb d_Mo_init_5 (by decide) ?_
  refine cd_le (fun hle => ?_)
  have hz1 : s.heap.size = ad (q + 1) := cd_sz hs hP hsz hle (by omega)
  refine g_newa (atype := .int) (ty := .int) (t0 := 1) (a0 := (18, .inl (fun _ => 0))) hx hb (hA _ aw_61) rfl hK hP hS hz1 hs (hAA _ (cd_adm hs (by omega))) rfl (fun _ h => by cases h) (fun _ => rfl) (by decide) (by decide) (by decide) (Nat.le_of_ble_eq_true rfl) (Nat.le_of_ble_eq_true rfl) d_Mo_init_7 (fun H w1 fa2 e1 hP hS _ => ?_)
  have fa3 := (e1 q (by omega)).trans h0
  refine g_putF (ci := 7) (C := R_Mo) (T := F_Mo) (Nf := 16) (v := .ref (ad (q + 1))) (ty := (.array .int)) hx hb hA in_Mo t_Mo t_Mo_ok n_Mo hown hK hP hS (k := q) (by omega) fa3 rfl 1 (by decide) (hA _ aw_561) (fun _ h9 => h9) rfl hin rfl (by decide +kernel) rfl rfl (Nat.le_of_ble_eq_true rfl) d_Mo_init_9 (fun H locs w2 fa4 e2 hP hS => ?_)
  have fa4 : w2 q = .inr (7, [.int 0, .ref (ad (q + 1)), .null, .null, .null, .null, .null, .null, .null, .null, .int 0, .null, .int 0, .int 0, .int 0, .int 0]) := fa4
  have fa5 := (e2 (q + 1) (by omega)).trans fa2
  refine lv_aload_n hx hb d_Mo_init_12 rfl (lv_at hl 0 rfl) ?_
  refine lv_bipush (v := (18 : Int32)) hx hb d_Mo_init_13 (by decide) ?_
  refine cd_le (fun hle => ?_)
  have hz6 : H.size = ad (q + 2) := cd_sz hs hP hsz hle (by omega)
  refine g_newa (atype := .int) (ty := .int) (t0 := 1) (a0 := (18, .inl (fun _ => 0))) hx hb (hA _ aw_61) rfl hK hP hS hz6 hs (hAA _ (cd_adm hs (by omega))) rfl (fun _ h => by cases h) (fun _ => rfl) (by decide) (by decide) (by decide) (Nat.le_of_ble_eq_true rfl) (Nat.le_of_ble_eq_true rfl) d_Mo_init_15 (fun H w3 fa7 e3 hP hS _ => ?_)
  have fa8 := (e3 q (by omega)).trans fa4
  have fa9 := (e3 (q + 1) (by omega)).trans fa5
  refine g_putF (ci := 7) (C := R_Mo) (T := F_Mo) (Nf := 16) (v := .ref (ad (q + 2))) (ty := (.array .int)) hx hb hA in_Mo t_Mo t_Mo_ok n_Mo hown hK hP hS (k := q) (by omega) fa8 rfl 2 (by decide) (hA _ aw_562) (fun _ h9 => h9) rfl hin rfl (by decide +kernel) rfl rfl (Nat.le_of_ble_eq_true rfl) d_Mo_init_17 (fun H locs w4 fa10 e4 hP hS => ?_)
  have fa10 : w4 q = .inr (7, [.int 0, .ref (ad (q + 1)), .ref (ad (q + 2)), .null, .null, .null, .null, .null, .null, .null, .int 0, .null, .int 0, .int 0, .int 0, .int 0]) := fa10
  have fa11 := (e4 (q + 1) (by omega)).trans fa9
  have fa12 := (e4 (q + 2) (by omega)).trans fa7
  refine lv_aload_n hx hb d_Mo_init_20 rfl (lv_at hl 0 rfl) ?_
  refine lv_bipush (v := (18 : Int32)) hx hb d_Mo_init_21 (by decide) ?_
  refine cd_le (fun hle => ?_)
  have hz13 : H.size = ad (q + 3) := cd_sz hs hP hsz hle (by omega)
  refine g_newa (atype := .int) (ty := .int) (t0 := 1) (a0 := (18, .inl (fun _ => 0))) hx hb (hA _ aw_61) rfl hK hP hS hz13 hs (hAA _ (cd_adm hs (by omega))) rfl (fun _ h => by cases h) (fun _ => rfl) (by decide) (by decide) (by decide) (Nat.le_of_ble_eq_true rfl) (Nat.le_of_ble_eq_true rfl) d_Mo_init_23 (fun H w5 fa14 e5 hP hS _ => ?_)
  have fa15 := (e5 q (by omega)).trans fa10
  have fa16 := (e5 (q + 1) (by omega)).trans fa11
  have fa17 := (e5 (q + 2) (by omega)).trans fa12
  refine g_putF (ci := 7) (C := R_Mo) (T := F_Mo) (Nf := 16) (v := .ref (ad (q + 3))) (ty := (.array .int)) hx hb hA in_Mo t_Mo t_Mo_ok n_Mo hown hK hP hS (k := q) (by omega) fa15 rfl 3 (by decide) (hA _ aw_563) (fun _ h9 => h9) rfl hin rfl (by decide +kernel) rfl rfl (Nat.le_of_ble_eq_true rfl) d_Mo_init_25 (fun H locs w6 fa18 e6 hP hS => ?_)
  have fa18 : w6 q = .inr (7, [.int 0, .ref (ad (q + 1)), .ref (ad (q + 2)), .ref (ad (q + 3)), .null, .null, .null, .null, .null, .null, .int 0, .null, .int 0, .int 0, .int 0, .int 0]) := fa18
  have fa19 := (e6 (q + 1) (by omega)).trans fa16
  have fa20 := (e6 (q + 2) (by omega)).trans fa17
  have fa21 := (e6 (q + 3) (by omega)).trans fa14
  refine lv_aload_n hx hb d_Mo_init_28 rfl (lv_at hl 0 rfl) ?_
  refine lv_sipush (v := (18432 : Int32)) hx hb d_Mo_init_29 (by decide) ?_
  refine cd_le (fun hle => ?_)
  have hz22 : H.size = ad (q + 4) := cd_sz hs hP hsz hle (by omega)
  refine g_newa (atype := .byte) (ty := .byte) (t0 := 0) (a0 := (18432, .inl (fun _ => 0))) hx hb (hA _ aw_44) rfl hK hP hS hz22 hs (hAA _ (cd_adm hs (by omega))) rfl (fun _ h => by cases h) (fun _ => rfl) (by decide) (by decide) (by decide) (Nat.le_of_ble_eq_true rfl) (Nat.le_of_ble_eq_true rfl) d_Mo_init_32 (fun H w7 fa23 e7 hP hS _ => ?_)
  have fa24 := (e7 q (by omega)).trans fa18
  have fa25 := (e7 (q + 1) (by omega)).trans fa19
  have fa26 := (e7 (q + 2) (by omega)).trans fa20
  have fa27 := (e7 (q + 3) (by omega)).trans fa21
  refine g_putF (ci := 7) (C := R_Mo) (T := F_Mo) (Nf := 16) (v := .ref (ad (q + 4))) (ty := (.array .byte)) hx hb hA in_Mo t_Mo t_Mo_ok n_Mo hown hK hP hS (k := q) (by omega) fa24 rfl 4 (by decide) (hA _ aw_564) (fun _ h9 => h9) rfl hin rfl (by decide +kernel) rfl rfl (Nat.le_of_ble_eq_true rfl) d_Mo_init_34 (fun H locs w8 fa28 e8 hP hS => ?_)
  have fa28 : w8 q = .inr (7, [.int 0, .ref (ad (q + 1)), .ref (ad (q + 2)), .ref (ad (q + 3)), .ref (ad (q + 4)), .null, .null, .null, .null, .null, .int 0, .null, .int 0, .int 0, .int 0, .int 0]) := fa28
  have fa29 := (e8 (q + 1) (by omega)).trans fa25
  have fa30 := (e8 (q + 2) (by omega)).trans fa26
  have fa31 := (e8 (q + 3) (by omega)).trans fa27
  have fa32 := (e8 (q + 4) (by omega)).trans fa23
  refine lv_aload_n hx hb d_Mo_init_37 rfl (lv_at hl 0 rfl) ?_
  refine lv_iconst (v := (3 : Int32)) hx hb d_Mo_init_38 (by decide) ?_
  refine cd_le (fun hle => ?_)
  have hz33 : H.size = ad (q + 5) := cd_sz hs hP hsz hle (by omega)
  refine g_newa (atype := .int) (ty := .int) (t0 := 1) (a0 := (3, .inl (fun _ => 0))) hx hb (hA _ aw_61) rfl hK hP hS hz33 hs (hAA _ (cd_adm hs (by omega))) rfl (fun _ h => by cases h) (fun _ => rfl) (by decide) (by decide) (by decide) (Nat.le_of_ble_eq_true rfl) (Nat.le_of_ble_eq_true rfl) d_Mo_init_39 (fun H w9 fa34 e9 hP hS _ => ?_)
  have fa35 := (e9 q (by omega)).trans fa28
  have fa36 := (e9 (q + 1) (by omega)).trans fa29
  have fa37 := (e9 (q + 2) (by omega)).trans fa30
  have fa38 := (e9 (q + 3) (by omega)).trans fa31
  have fa39 := (e9 (q + 4) (by omega)).trans fa32
  refine g_putF (ci := 7) (C := R_Mo) (T := F_Mo) (Nf := 16) (v := .ref (ad (q + 5))) (ty := (.array .int)) hx hb hA in_Mo t_Mo t_Mo_ok n_Mo hown hK hP hS (k := q) (by omega) fa35 rfl 5 (by decide) (hA _ aw_565) (fun _ h9 => h9) rfl hin rfl (by decide +kernel) rfl rfl (Nat.le_of_ble_eq_true rfl) d_Mo_init_41 (fun H locs w10 fa40 e10 hP hS => ?_)
  have fa40 : w10 q = .inr (7, [.int 0, .ref (ad (q + 1)), .ref (ad (q + 2)), .ref (ad (q + 3)), .ref (ad (q + 4)), .ref (ad (q + 5)), .null, .null, .null, .null, .int 0, .null, .int 0, .int 0, .int 0, .int 0]) := fa40
  have fa41 := (e10 (q + 1) (by omega)).trans fa36
  have fa42 := (e10 (q + 2) (by omega)).trans fa37
  have fa43 := (e10 (q + 3) (by omega)).trans fa38
  have fa44 := (e10 (q + 4) (by omega)).trans fa39
  have fa45 := (e10 (q + 5) (by omega)).trans fa34
  refine lv_aload_n hx hb d_Mo_init_44 rfl (lv_at hl 0 rfl) ?_
  refine lv_iconst (v := (3 : Int32)) hx hb d_Mo_init_45 (by decide) ?_
  refine cd_le (fun hle => ?_)
  have hz46 : H.size = ad (q + 6) := cd_sz hs hP hsz hle (by omega)
  refine g_newa (atype := .int) (ty := .int) (t0 := 1) (a0 := (3, .inl (fun _ => 0))) hx hb (hA _ aw_61) rfl hK hP hS hz46 hs (hAA _ (cd_adm hs (by omega))) rfl (fun _ h => by cases h) (fun _ => rfl) (by decide) (by decide) (by decide) (Nat.le_of_ble_eq_true rfl) (Nat.le_of_ble_eq_true rfl) d_Mo_init_46 (fun H w11 fa47 e11 hP hS _ => ?_)
  have fa48 := (e11 q (by omega)).trans fa40
  have fa49 := (e11 (q + 1) (by omega)).trans fa41
  have fa50 := (e11 (q + 2) (by omega)).trans fa42
  have fa51 := (e11 (q + 3) (by omega)).trans fa43
  have fa52 := (e11 (q + 4) (by omega)).trans fa44
  have fa53 := (e11 (q + 5) (by omega)).trans fa45
  refine g_putF (ci := 7) (C := R_Mo) (T := F_Mo) (Nf := 16) (v := .ref (ad (q + 6))) (ty := (.array .int)) hx hb hA in_Mo t_Mo t_Mo_ok n_Mo hown hK hP hS (k := q) (by omega) fa48 rfl 6 (by decide) (hA _ aw_566) (fun _ h9 => h9) rfl hin rfl (by decide +kernel) rfl rfl (Nat.le_of_ble_eq_true rfl) d_Mo_init_48 (fun H locs w12 fa54 e12 hP hS => ?_)
  have fa54 : w12 q = .inr (7, [.int 0, .ref (ad (q + 1)), .ref (ad (q + 2)), .ref (ad (q + 3)), .ref (ad (q + 4)), .ref (ad (q + 5)), .ref (ad (q + 6)), .null, .null, .null, .int 0, .null, .int 0, .int 0, .int 0, .int 0]) := fa54
  have fa55 := (e12 (q + 1) (by omega)).trans fa49
  have fa56 := (e12 (q + 2) (by omega)).trans fa50
  have fa57 := (e12 (q + 3) (by omega)).trans fa51
  have fa58 := (e12 (q + 4) (by omega)).trans fa52
  have fa59 := (e12 (q + 5) (by omega)).trans fa53
  have fa60 := (e12 (q + 6) (by omega)).trans fa47
  refine lv_aload_n hx hb d_Mo_init_51 rfl (lv_at hl 0 rfl) ?_
  refine lv_bipush (v := (9 : Int32)) hx hb d_Mo_init_52 (by decide) ?_
  refine cd_le (fun hle => ?_)
  have hz61 : H.size = ad (q + 7) := cd_sz hs hP hsz hle (by omega)
  refine g_newa (atype := .int) (ty := .int) (t0 := 1) (a0 := (9, .inl (fun _ => 0))) hx hb (hA _ aw_61) rfl hK hP hS hz61 hs (hAA _ (cd_adm hs (by omega))) rfl (fun _ h => by cases h) (fun _ => rfl) (by decide) (by decide) (by decide) (Nat.le_of_ble_eq_true rfl) (Nat.le_of_ble_eq_true rfl) d_Mo_init_54 (fun H w13 fa62 e13 hP hS _ => ?_)
  have fa63 := (e13 q (by omega)).trans fa54
  have fa64 := (e13 (q + 1) (by omega)).trans fa55
  have fa65 := (e13 (q + 2) (by omega)).trans fa56
  have fa66 := (e13 (q + 3) (by omega)).trans fa57
  have fa67 := (e13 (q + 4) (by omega)).trans fa58
  have fa68 := (e13 (q + 5) (by omega)).trans fa59
  have fa69 := (e13 (q + 6) (by omega)).trans fa60
  refine g_putF (ci := 7) (C := R_Mo) (T := F_Mo) (Nf := 16) (v := .ref (ad (q + 7))) (ty := (.array .int)) hx hb hA in_Mo t_Mo t_Mo_ok n_Mo hown hK hP hS (k := q) (by omega) fa63 rfl 7 (by decide) (hA _ aw_567) (fun _ h9 => h9) rfl hin rfl (by decide +kernel) rfl rfl (Nat.le_of_ble_eq_true rfl) d_Mo_init_56 (fun H locs w14 fa70 e14 hP hS => ?_)
  have fa70 : w14 q = .inr (7, [.int 0, .ref (ad (q + 1)), .ref (ad (q + 2)), .ref (ad (q + 3)), .ref (ad (q + 4)), .ref (ad (q + 5)), .ref (ad (q + 6)), .ref (ad (q + 7)), .null, .null, .int 0, .null, .int 0, .int 0, .int 0, .int 0]) := fa70
  have fa71 := (e14 (q + 1) (by omega)).trans fa64
  have fa72 := (e14 (q + 2) (by omega)).trans fa65
  have fa73 := (e14 (q + 3) (by omega)).trans fa66
  have fa74 := (e14 (q + 4) (by omega)).trans fa67
  have fa75 := (e14 (q + 5) (by omega)).trans fa68
  have fa76 := (e14 (q + 6) (by omega)).trans fa69
  have fa77 := (e14 (q + 7) (by omega)).trans fa62
  refine lv_aload_n hx hb d_Mo_init_59 rfl (lv_at hl 0 rfl) ?_
  refine lv_bipush (v := (72 : Int32)) hx hb d_Mo_init_60 (by decide) ?_
  refine cd_le (fun hle => ?_)
  have hz78 : H.size = ad (q + 8) := cd_sz hs hP hsz hle (by omega)
  refine g_newa (atype := .int) (ty := .int) (t0 := 1) (a0 := (72, .inl (fun _ => 0))) hx hb (hA _ aw_61) rfl hK hP hS hz78 hs (hAA _ (cd_adm hs (by omega))) rfl (fun _ h => by cases h) (fun _ => rfl) (by decide) (by decide) (by decide) (Nat.le_of_ble_eq_true rfl) (Nat.le_of_ble_eq_true rfl) d_Mo_init_62 (fun H w15 fa79 e15 hP hS _ => ?_)
  have fa80 := (e15 q (by omega)).trans fa70
  have fa81 := (e15 (q + 1) (by omega)).trans fa71
  have fa82 := (e15 (q + 2) (by omega)).trans fa72
  have fa83 := (e15 (q + 3) (by omega)).trans fa73
  have fa84 := (e15 (q + 4) (by omega)).trans fa74
  have fa85 := (e15 (q + 5) (by omega)).trans fa75
  have fa86 := (e15 (q + 6) (by omega)).trans fa76
  have fa87 := (e15 (q + 7) (by omega)).trans fa77
  refine g_putF (ci := 7) (C := R_Mo) (T := F_Mo) (Nf := 16) (v := .ref (ad (q + 8))) (ty := (.array .int)) hx hb hA in_Mo t_Mo t_Mo_ok n_Mo hown hK hP hS (k := q) (by omega) fa80 rfl 8 (by decide) (hA _ aw_568) (fun _ h9 => h9) rfl hin rfl (by decide +kernel) rfl rfl (Nat.le_of_ble_eq_true rfl) d_Mo_init_64 (fun H locs w16 fa88 e16 hP hS => ?_)
  have fa88 : w16 q = .inr (7, [.int 0, .ref (ad (q + 1)), .ref (ad (q + 2)), .ref (ad (q + 3)), .ref (ad (q + 4)), .ref (ad (q + 5)), .ref (ad (q + 6)), .ref (ad (q + 7)), .ref (ad (q + 8)), .null, .int 0, .null, .int 0, .int 0, .int 0, .int 0]) := fa88
  have fa89 := (e16 (q + 1) (by omega)).trans fa81
  have fa90 := (e16 (q + 2) (by omega)).trans fa82
  have fa91 := (e16 (q + 3) (by omega)).trans fa83
  have fa92 := (e16 (q + 4) (by omega)).trans fa84
  have fa93 := (e16 (q + 5) (by omega)).trans fa85
  have fa94 := (e16 (q + 6) (by omega)).trans fa86
  have fa95 := (e16 (q + 7) (by omega)).trans fa87
  have fa96 := (e16 (q + 8) (by omega)).trans fa79
  refine lv_aload_n hx hb d_Mo_init_67 rfl (lv_at hl 0 rfl) ?_
  refine lv_sipush (v := (8192 : Int32)) hx hb d_Mo_init_68 (by decide) ?_
  refine cd_le (fun hle => ?_)
  have hz97 : H.size = ad (q + 9) := cd_sz hs hP hsz hle (by omega)
  refine g_newa (atype := .byte) (ty := .byte) (t0 := 0) (a0 := (8192, .inl (fun _ => 0))) hx hb (hA _ aw_44) rfl hK hP hS hz97 hs (hAA _ (cd_adm hs (by omega))) rfl (fun _ h => by cases h) (fun _ => rfl) (by decide) (by decide) (by decide) (Nat.le_of_ble_eq_true rfl) (Nat.le_of_ble_eq_true rfl) d_Mo_init_71 (fun H w17 fa98 e17 hP hS _ => ?_)
  have fa99 := (e17 q (by omega)).trans fa88
  have fa100 := (e17 (q + 1) (by omega)).trans fa89
  have fa101 := (e17 (q + 2) (by omega)).trans fa90
  have fa102 := (e17 (q + 3) (by omega)).trans fa91
  have fa103 := (e17 (q + 4) (by omega)).trans fa92
  have fa104 := (e17 (q + 5) (by omega)).trans fa93
  have fa105 := (e17 (q + 6) (by omega)).trans fa94
  have fa106 := (e17 (q + 7) (by omega)).trans fa95
  have fa107 := (e17 (q + 8) (by omega)).trans fa96
  refine g_putF (ci := 7) (C := R_Mo) (T := F_Mo) (Nf := 16) (v := .ref (ad (q + 9))) (ty := (.array .byte)) hx hb hA in_Mo t_Mo t_Mo_ok n_Mo hown hK hP hS (k := q) (by omega) fa99 rfl 9 (by decide) (hA _ aw_569) (fun _ h9 => h9) rfl hin rfl (by decide +kernel) rfl rfl (Nat.le_of_ble_eq_true rfl) d_Mo_init_73 (fun H locs w18 fa108 e18 hP hS => ?_)
  have fa108 : w18 q = .inr (7, [.int 0, .ref (ad (q + 1)), .ref (ad (q + 2)), .ref (ad (q + 3)), .ref (ad (q + 4)), .ref (ad (q + 5)), .ref (ad (q + 6)), .ref (ad (q + 7)), .ref (ad (q + 8)), .ref (ad (q + 9)), .int 0, .null, .int 0, .int 0, .int 0, .int 0]) := fa108
  have fa109 := (e18 (q + 1) (by omega)).trans fa100
  have fa110 := (e18 (q + 2) (by omega)).trans fa101
  have fa111 := (e18 (q + 3) (by omega)).trans fa102
  have fa112 := (e18 (q + 4) (by omega)).trans fa103
  have fa113 := (e18 (q + 5) (by omega)).trans fa104
  have fa114 := (e18 (q + 6) (by omega)).trans fa105
  have fa115 := (e18 (q + 7) (by omega)).trans fa106
  have fa116 := (e18 (q + 8) (by omega)).trans fa107
  have fa117 := (e18 (q + 9) (by omega)).trans fa98
  refine lv_aload_n hx hb d_Mo_init_76 rfl (lv_at hl 0 rfl) ?_
  refine lv_iconst (v := (-1 : Int32)) hx hb d_Mo_init_77 (by decide) ?_
  refine g_put (ci := 7) (C := R_Mo) (T := F_Mo) (Nf := 16) (v := .int (-1 : Int32)) (ty := .int) hx hb hA in_Mo t_Mo t_Mo_ok n_Mo hown hK hP hS (k := q) (by omega) fa108 rfl 10 (by decide) (hA _ aw_570) (fun _ h9 => h9) rfl (by decide +kernel) rfl rfl (Nat.le_of_ble_eq_true rfl) d_Mo_init_78 (fun H locs w19 fa118 e19 hP hS => ?_)
  have fa118 : w19 q = .inr (7, [.int 0, .ref (ad (q + 1)), .ref (ad (q + 2)), .ref (ad (q + 3)), .ref (ad (q + 4)), .ref (ad (q + 5)), .ref (ad (q + 6)), .ref (ad (q + 7)), .ref (ad (q + 8)), .ref (ad (q + 9)), .int (-1 : Int32), .null, .int 0, .int 0, .int 0, .int 0]) := fa118
  have fa119 := (e19 (q + 1) (by omega)).trans fa109
  have fa120 := (e19 (q + 2) (by omega)).trans fa110
  have fa121 := (e19 (q + 3) (by omega)).trans fa111
  have fa122 := (e19 (q + 4) (by omega)).trans fa112
  have fa123 := (e19 (q + 5) (by omega)).trans fa113
  have fa124 := (e19 (q + 6) (by omega)).trans fa114
  have fa125 := (e19 (q + 7) (by omega)).trans fa115
  have fa126 := (e19 (q + 8) (by omega)).trans fa116
  have fa127 := (e19 (q + 9) (by omega)).trans fa117
  refine lv_aload_n hx hb d_Mo_init_81 rfl (lv_at hl 0 rfl) ?_
  refine lv_sipush (v := (8192 : Int32)) hx hb d_Mo_init_82 (by decide) ?_
  refine cd_le (fun hle => ?_)
  have hz128 : H.size = ad (q + 10) := cd_sz hs hP hsz hle (by omega)
  refine g_newa (atype := .byte) (ty := .byte) (t0 := 0) (a0 := (8192, .inl (fun _ => 0))) hx hb (hA _ aw_44) rfl hK hP hS hz128 hs (hAA _ (cd_adm hs (by omega))) rfl (fun _ h => by cases h) (fun _ => rfl) (by decide) (by decide) (by decide) (Nat.le_of_ble_eq_true rfl) (Nat.le_of_ble_eq_true rfl) d_Mo_init_85 (fun H w20 fa129 e20 hP hS _ => ?_)
  have fa130 := (e20 q (by omega)).trans fa118
  have fa131 := (e20 (q + 1) (by omega)).trans fa119
  have fa132 := (e20 (q + 2) (by omega)).trans fa120
  have fa133 := (e20 (q + 3) (by omega)).trans fa121
  have fa134 := (e20 (q + 4) (by omega)).trans fa122
  have fa135 := (e20 (q + 5) (by omega)).trans fa123
  have fa136 := (e20 (q + 6) (by omega)).trans fa124
  have fa137 := (e20 (q + 7) (by omega)).trans fa125
  have fa138 := (e20 (q + 8) (by omega)).trans fa126
  have fa139 := (e20 (q + 9) (by omega)).trans fa127
  refine g_putF (ci := 7) (C := R_Mo) (T := F_Mo) (Nf := 16) (v := .ref (ad (q + 10))) (ty := (.array .byte)) hx hb hA in_Mo t_Mo t_Mo_ok n_Mo hown hK hP hS (k := q) (by omega) fa130 rfl 11 (by decide) (hA _ aw_571) (fun _ h9 => h9) rfl hin rfl (by decide +kernel) rfl rfl (Nat.le_of_ble_eq_true rfl) d_Mo_init_87 (fun H locs w21 fa140 e21 hP hS => ?_)
  have fa140 : w21 q = .inr (7, [.int 0, .ref (ad (q + 1)), .ref (ad (q + 2)), .ref (ad (q + 3)), .ref (ad (q + 4)), .ref (ad (q + 5)), .ref (ad (q + 6)), .ref (ad (q + 7)), .ref (ad (q + 8)), .ref (ad (q + 9)), .int (-1 : Int32), .ref (ad (q + 10)), .int 0, .int 0, .int 0, .int 0]) := fa140
  have fa141 := (e21 (q + 1) (by omega)).trans fa131
  have fa142 := (e21 (q + 2) (by omega)).trans fa132
  have fa143 := (e21 (q + 3) (by omega)).trans fa133
  have fa144 := (e21 (q + 4) (by omega)).trans fa134
  have fa145 := (e21 (q + 5) (by omega)).trans fa135
  have fa146 := (e21 (q + 6) (by omega)).trans fa136
  have fa147 := (e21 (q + 7) (by omega)).trans fa137
  have fa148 := (e21 (q + 8) (by omega)).trans fa138
  have fa149 := (e21 (q + 9) (by omega)).trans fa139
  have fa150 := (e21 (q + 10) (by omega)).trans fa129
  refine cd_le (fun hle => ?_)
  have hz151 : H.size = ad (q + 11) := cd_sz hs hP hsz hle (by omega)
  exact W.vret hx hb hr (fun tE ht _ => ⟨⟨w21, rfl, ⟨fa140, fa141, fa142, fa143, fa144, fa145, fa146, fa147, fa148, fa149, fa150, fun k hk => ((e21 k (by omega)).trans ((e20 k (by omega)).trans ((e19 k (by omega)).trans ((e18 k (by omega)).trans ((e17 k (by omega)).trans ((e16 k (by omega)).trans ((e15 k (by omega)).trans ((e14 k (by omega)).trans ((e13 k (by omega)).trans ((e12 k (by omega)).trans ((e11 k (by omega)).trans ((e10 k (by omega)).trans ((e9 k (by omega)).trans ((e8 k (by omega)).trans ((e7 k (by omega)).trans ((e6 k (by omega)).trans ((e5 k (by omega)).trans ((e4 k (by omega)).trans ((e3 k (by omega)).trans ((e2 k (by omega)).trans (e1 k (by omega))))))))))))))))))))))⟩, ⟨cd_Pt ht hP, by rw [ht]; exact hz151⟩⟩, hS.F ht⟩) hS.2.2 d_Mo_init_90
set_option maxHeartbeats 4000000 in
set_option maxRecDepth 100000 in
theorem i_Desk (l : Launch) (D : va_G) (tt : Nat → ClassId) (ad : Nat → Nat) (A : Nat → Prop) (zs : Nat → Nat) (w0 : Nat → va_E) (q : Nat) (hs : ∀ k, ad (k + 1) = ad k + 1) (hAA : ∀ k, ad q ≤ k → A k) (h0 : w0 q = .inr (6, [.null, .null, .null, .null, .null, .null, .null, .null, .int 0])) : Met l y_Desk_init w_Desk_init ({ frames := 3, cells := 43, slots := 27233, locals := 53 }) (va_Pc [.ref (ad q)] (cd_UN D tt ad (q + 1) A zs w0)) (va_Qv (fun w' => w' q = .inr (6, [.ref (ad (q + 1)), .ref (ad (q + 15)), .ref (ad (q + 18)), .ref (ad (q + 20)), .ref (ad (q + 21)), .ref (ad (q + 23)), .ref (ad (q + 27)), .ref (ad (q + 41)), .int (0 : Int32)]) ∧ w' (q + 1) = .inr (3, [.ref (ad (q + 2)), .int (0 : Int32)]) ∧ w' (q + 2) = .inl (tt 3, 6, .inr (.inr (.inr (.inr (va_up (va_up (va_up (va_up (va_up (va_up (fun _ => none) (0 : Int32).toNatClampNeg (some (ad (q + 3)))) (1 : Int32).toNatClampNeg (some (ad (q + 5)))) (2 : Int32).toNatClampNeg (some (ad (q + 7)))) (3 : Int32).toNatClampNeg (some (ad (q + 9)))) (4 : Int32).toNatClampNeg (some (ad (q + 11)))) (5 : Int32).toNatClampNeg (some (ad (q + 13)))))))) ∧ w' (q + 3) = .inr (1, [.ref (ad (q + 4)), .int (0 : Int32), .int (0 : Int32), .int (0 : Int32)]) ∧ w' (q + 4) = .inl (tt 0, 1024, .inl (fun _ => 0)) ∧ w' (q + 5) = .inr (1, [.ref (ad (q + 6)), .int (0 : Int32), .int (0 : Int32), .int (0 : Int32)]) ∧ w' (q + 6) = .inl (tt 0, 1024, .inl (fun _ => 0)) ∧ w' (q + 7) = .inr (1, [.ref (ad (q + 8)), .int (0 : Int32), .int (0 : Int32), .int (0 : Int32)]) ∧ w' (q + 8) = .inl (tt 0, 1024, .inl (fun _ => 0)) ∧ w' (q + 9) = .inr (1, [.ref (ad (q + 10)), .int (0 : Int32), .int (0 : Int32), .int (0 : Int32)]) ∧ w' (q + 10) = .inl (tt 0, 1024, .inl (fun _ => 0)) ∧ w' (q + 11) = .inr (1, [.ref (ad (q + 12)), .int (0 : Int32), .int (0 : Int32), .int (0 : Int32)]) ∧ w' (q + 12) = .inl (tt 0, 1024, .inl (fun _ => 0)) ∧ w' (q + 13) = .inr (1, [.ref (ad (q + 14)), .int (0 : Int32), .int (0 : Int32), .int (0 : Int32)]) ∧ w' (q + 14) = .inl (tt 0, 1024, .inl (fun _ => 0)) ∧ w' (q + 15) = .inr (2, [.ref (ad (q + 16)), .ref (ad (q + 17)), .int (0 : Int32)]) ∧ w' (q + 16) = .inl (tt 1, 3, .inl (fun _ => 0)) ∧ w' (q + 17) = .inl (tt 1, 24, .inl (fun _ => 0)) ∧ w' (q + 18) = .inr (0, [.ref (ad (q + 19)), .int (0 : Int32)]) ∧ w' (q + 19) = .inl (tt 0, 6588, .inl (fun _ => 0)) ∧ w' (q + 20) = .inr (4, [.ref (ad (q + 18)), .ref (ad (q + 1)), .ref (ad (q + 15))]) ∧ w' (q + 21) = .inr (0, [.ref (ad (q + 22)), .int (0 : Int32)]) ∧ w' (q + 22) = .inl (tt 0, 8192, .inl (fun _ => 0)) ∧ w' (q + 23) = .inr (5, [.ref (ad (q + 21)), .ref (ad (q + 24)), .int (0 : Int32), .int (0 : Int32)]) ∧ w' (q + 24) = .inr (2, [.ref (ad (q + 25)), .ref (ad (q + 26)), .int (0 : Int32)]) ∧ w' (q + 25) = .inl (tt 1, 3, .inl (fun _ => 0)) ∧ w' (q + 26) = .inl (tt 1, 24, .inl (fun _ => 0)) ∧ w' (q + 27) = .inr (3, [.ref (ad (q + 28)), .int (0 : Int32)]) ∧ w' (q + 28) = .inl (tt 3, 6, .inr (.inr (.inr (.inr (va_up (va_up (va_up (va_up (va_up (va_up (fun _ => none) (0 : Int32).toNatClampNeg (some (ad (q + 29)))) (1 : Int32).toNatClampNeg (some (ad (q + 31)))) (2 : Int32).toNatClampNeg (some (ad (q + 33)))) (3 : Int32).toNatClampNeg (some (ad (q + 35)))) (4 : Int32).toNatClampNeg (some (ad (q + 37)))) (5 : Int32).toNatClampNeg (some (ad (q + 39)))))))) ∧ w' (q + 29) = .inr (1, [.ref (ad (q + 30)), .int (0 : Int32), .int (0 : Int32), .int (0 : Int32)]) ∧ w' (q + 30) = .inl (tt 0, 1024, .inl (fun _ => 0)) ∧ w' (q + 31) = .inr (1, [.ref (ad (q + 32)), .int (0 : Int32), .int (0 : Int32), .int (0 : Int32)]) ∧ w' (q + 32) = .inl (tt 0, 1024, .inl (fun _ => 0)) ∧ w' (q + 33) = .inr (1, [.ref (ad (q + 34)), .int (0 : Int32), .int (0 : Int32), .int (0 : Int32)]) ∧ w' (q + 34) = .inl (tt 0, 1024, .inl (fun _ => 0)) ∧ w' (q + 35) = .inr (1, [.ref (ad (q + 36)), .int (0 : Int32), .int (0 : Int32), .int (0 : Int32)]) ∧ w' (q + 36) = .inl (tt 0, 1024, .inl (fun _ => 0)) ∧ w' (q + 37) = .inr (1, [.ref (ad (q + 38)), .int (0 : Int32), .int (0 : Int32), .int (0 : Int32)]) ∧ w' (q + 38) = .inl (tt 0, 1024, .inl (fun _ => 0)) ∧ w' (q + 39) = .inr (1, [.ref (ad (q + 40)), .int (0 : Int32), .int (0 : Int32), .int (0 : Int32)]) ∧ w' (q + 40) = .inl (tt 0, 1024, .inl (fun _ => 0)) ∧ w' (q + 41) = .inr (2, [.ref (ad (q + 42)), .ref (ad (q + 43)), .int (0 : Int32)]) ∧ w' (q + 42) = .inl (tt 1, 3, .inl (fun _ => 0)) ∧ w' (q + 43) = .inl (tt 1, 24, .inl (fun _ => 0)) ∧ (∀ k : Nat, (k < q ∨ q + 44 ≤ k) → w' k = w0 k)) (fun w' t => cd_PN D ad (q + 44) A w' t) A) 43 27233 A := by
  refine Met.ofW (cc := b_Desk_init) (maxL := 1) (ret := none) (by decide) rfl ?_
  intro p e s m args below meth c s₁ B hml hv
  obtain ⟨rfl, ⟨hP, hK, hZ⟩, hsz, hO⟩ := hv
  have hx := B.exec
  have hb := B.bytes
  have hr := B.returns
  have hA : ∀ w ∈ cd_AW, w.before _ s = true := fun w h => atoms_spec (ws := w_Desk_init) B.pre w (List.mem_cons_of_mem _ h)
  have hown : s.vm.findClass R_Desk = some m.cls := findClass_of_methodNamed B.named
  have hlocks := B.notSynchronized
  have hin : meth.name = "<init>" := (name_of_methodNamed B.named B.method).1
  have hS : va_S A s.heap s.heap [] := va_S.rf
  have hl := lv_entry ([.ref (ad q)]) (n := 1) (Nat.le_of_ble_eq_true rfl)
  rw [lg_entry_eq]
  generalize (lg_sl ([.ref (ad q)]) ++ List.replicate (1 - (lg_sl ([.ref (ad q)])).length) Slot.unset).toArray = ls at hl ⊢
  have hl : lv_has ls 1 [(0, .ref (ad q))] := hl
  refine lv_aload_n hx hb d_Desk_init_0 rfl (lv_at hl 0 rfl) ?_
  refine W.objInit hx hb hown (hA _ aw_21) (hA _ aw_22) (hA _ aw_23) rfl (by rw [hml]; exact hl.1) rfl d_Desk_init_1 (Nat.le_of_ble_eq_true rfl) (Nat.le_of_ble_eq_true rfl) ?_
  refine W.eq (g2 := F0 m 4 ls []) rfl ?_
  refine lv_aload_n hx hb d_Desk_init_4 rfl (lv_at hl 0 rfl) ?_
  refine cd_le (fun hle => ?_)
  have hz1 : s.heap.size = ad (q + 1) := cd_sz hs hP hsz hle (by omega)
  refine g_new (ci := 3) (C := R_Mem) (T := F_Mem) (Nf := 2) (fs := [.null, .int 0]) hx hb hA in_Mem t_Mem t_Mem_ok hown (hA _ aw_24) (hA _ aw_25) (hA _ aw_2) hK hP hS hz1 hs (hAA _ (cd_adm hs (by omega))) rfl (by decide) (Nat.le_of_ble_eq_true rfl) (Nat.le_of_ble_eq_true rfl) d_Desk_init_5 (fun H w1 fa2 e1 hP hS _ => ?_)
  have fa3 := (e1 q (by omega)).trans h0
  refine lv_dup hx hb d_Desk_init_8 rfl ?_
  refine cd_le (fun hle => ?_)
  have hz4 : H.size = ad (q + 2) := cd_sz hs hP hsz hle (by omega)
  refine va_callv (va_runI (As := []) (rest := [.ref (ad (q + 1)), .ref (ad q)]) ⟨hx, hb, hml, hown, hA⟩ (i_Mem l D tt ad A zs w1 (q + 1) hs (fun k hk => hAA k (Nat.le_trans (cd_adm hs (by omega)) hk)) fa2) (cwI 0 hA (cd_good aw_28) rfl rfl rfl (hA _ aw_2) (hA _ aw_26) (hA _ aw_27) rfl (by decide +kernel) ⟨Nat.le_of_ble_eq_true rfl, Nat.le_of_ble_eq_true rfl⟩) ⟨cd_blindN, fun U hU hW => ⟨rfl, cd_preN hK hP hZ hS hz4 hO U hU hW⟩⟩ rfl rfl hl.1 rfl (lv_room (Nat.le_of_ble_eq_true rfl)) d_Desk_init_9 ⟨Nat.le_of_ble_eq_true rfl, Nat.le_of_ble_eq_true rfl⟩) hS (fun _ _ h => h) (fun _ h => h) (fun w2 tE H locs ht hvm hp5 hPN hz1 hk1 hS => ?_)
  obtain ⟨fa7, fa8, fa9, fa10, fa11, fa12, fa13, fa14, fa15, fa16, fa17, fa18, fa19, fa20, e2⟩ := hp5
  have hP := cd_Pf ht hPN.1
  have fa7 : w2 (q + 1) = .inr (3, [.ref (ad (q + 2)), .int (0 : Int32)]) := fa7
  have fa8 : w2 (q + 2) = .inl (tt 3, 6, .inr (.inr (.inr (.inr (va_up (va_up (va_up (va_up (va_up (va_up (fun _ => none) (0 : Int32).toNatClampNeg (some (ad (q + 3)))) (1 : Int32).toNatClampNeg (some (ad (q + 5)))) (2 : Int32).toNatClampNeg (some (ad (q + 7)))) (3 : Int32).toNatClampNeg (some (ad (q + 9)))) (4 : Int32).toNatClampNeg (some (ad (q + 11)))) (5 : Int32).toNatClampNeg (some (ad (q + 13)))))))) := fa8
  have fa9 : w2 (q + 3) = .inr (1, [.ref (ad (q + 4)), .int (0 : Int32), .int (0 : Int32), .int (0 : Int32)]) := fa9
  have fa10 : w2 (q + 4) = .inl (tt 0, 1024, .inl (fun _ => 0)) := fa10
  have fa11 : w2 (q + 5) = .inr (1, [.ref (ad (q + 6)), .int (0 : Int32), .int (0 : Int32), .int (0 : Int32)]) := fa11
  have fa12 : w2 (q + 6) = .inl (tt 0, 1024, .inl (fun _ => 0)) := fa12
  have fa13 : w2 (q + 7) = .inr (1, [.ref (ad (q + 8)), .int (0 : Int32), .int (0 : Int32), .int (0 : Int32)]) := fa13
  have fa14 : w2 (q + 8) = .inl (tt 0, 1024, .inl (fun _ => 0)) := fa14
  have fa15 : w2 (q + 9) = .inr (1, [.ref (ad (q + 10)), .int (0 : Int32), .int (0 : Int32), .int (0 : Int32)]) := fa15
  have fa16 : w2 (q + 10) = .inl (tt 0, 1024, .inl (fun _ => 0)) := fa16
  have fa17 : w2 (q + 11) = .inr (1, [.ref (ad (q + 12)), .int (0 : Int32), .int (0 : Int32), .int (0 : Int32)]) := fa17
  have fa18 : w2 (q + 12) = .inl (tt 0, 1024, .inl (fun _ => 0)) := fa18
  have fa19 : w2 (q + 13) = .inr (1, [.ref (ad (q + 14)), .int (0 : Int32), .int (0 : Int32), .int (0 : Int32)]) := fa19
  have fa20 : w2 (q + 14) = .inl (tt 0, 1024, .inl (fun _ => 0)) := fa20
  have fa21 := (e2 q (by omega)).trans fa3
  refine g_putF (ci := 6) (C := R_Desk) (T := F_Desk) (Nf := 9) (v := .ref (ad (q + 1))) (ty := (.object "CoreDesk$Memory")) hx hb hA in_Desk t_Desk t_Desk_ok n_Desk hown hK hP hS (k := q) (by omega) fa21 rfl 0 (by decide) (hA _ aw_100) (fun _ h9 => h9) rfl hin rfl (by decide +kernel) rfl rfl (Nat.le_of_ble_eq_true rfl) d_Desk_init_12 (fun H locs w3 fa22 e3 hP hS => ?_)
  have fa22 : w3 q = .inr (6, [.ref (ad (q + 1)), .null, .null, .null, .null, .null, .null, .null, .int 0]) := fa22
  have fa23 := (e3 (q + 1) (by omega)).trans fa7
  have fa24 := (e3 (q + 2) (by omega)).trans fa8
  have fa25 := (e3 (q + 3) (by omega)).trans fa9
  have fa26 := (e3 (q + 4) (by omega)).trans fa10
  have fa27 := (e3 (q + 5) (by omega)).trans fa11
  have fa28 := (e3 (q + 6) (by omega)).trans fa12
  have fa29 := (e3 (q + 7) (by omega)).trans fa13
  have fa30 := (e3 (q + 8) (by omega)).trans fa14
  have fa31 := (e3 (q + 9) (by omega)).trans fa15
  have fa32 := (e3 (q + 10) (by omega)).trans fa16
  have fa33 := (e3 (q + 11) (by omega)).trans fa17
  have fa34 := (e3 (q + 12) (by omega)).trans fa18
  have fa35 := (e3 (q + 13) (by omega)).trans fa19
  have fa36 := (e3 (q + 14) (by omega)).trans fa20
  refine lv_aload_n hx hb d_Desk_init_15 rfl (lv_at hl 0 rfl) ?_
  refine cd_le (fun hle => ?_)
  have hz37 : H.size = ad (q + 15) := cd_sz hs hP hsz hle (by omega)
  refine g_new (ci := 2) (C := R_Tt) (T := F_Tt) (Nf := 3) (fs := [.null, .null, .int 0]) hx hb hA in_Tt t_Tt t_Tt_ok hown (hA _ aw_49) (hA _ aw_50) (hA _ aw_4) hK hP hS hz37 hs (hAA _ (cd_adm hs (by omega))) rfl (by decide) (Nat.le_of_ble_eq_true rfl) (Nat.le_of_ble_eq_true rfl) d_Desk_init_16 (fun H w4 fa38 e4 hP hS _ => ?_)
  have fa39 := (e4 q (by omega)).trans fa22
  have fa40 := (e4 (q + 1) (by omega)).trans fa23
  have fa41 := (e4 (q + 2) (by omega)).trans fa24
  have fa42 := (e4 (q + 3) (by omega)).trans fa25
  have fa43 := (e4 (q + 4) (by omega)).trans fa26
  have fa44 := (e4 (q + 5) (by omega)).trans fa27
  have fa45 := (e4 (q + 6) (by omega)).trans fa28
  have fa46 := (e4 (q + 7) (by omega)).trans fa29
  have fa47 := (e4 (q + 8) (by omega)).trans fa30
  have fa48 := (e4 (q + 9) (by omega)).trans fa31
  have fa49 := (e4 (q + 10) (by omega)).trans fa32
  have fa50 := (e4 (q + 11) (by omega)).trans fa33
  have fa51 := (e4 (q + 12) (by omega)).trans fa34
  have fa52 := (e4 (q + 13) (by omega)).trans fa35
  have fa53 := (e4 (q + 14) (by omega)).trans fa36
  refine lv_dup hx hb d_Desk_init_19 rfl ?_
  refine cd_le (fun hle => ?_)
  have hz54 : H.size = ad (q + 16) := cd_sz hs hP hsz hle (by omega)
  refine va_callv (va_runI (As := []) (rest := [.ref (ad (q + 15)), .ref (ad q)]) ⟨hx, hb, hml, hown, hA⟩ (i_Tt l D tt ad A zs w4 (q + 15) hs (fun k hk => hAA k (Nat.le_trans (cd_adm hs (by omega)) hk)) fa38) (cwI 0 hA (cd_good aw_53) rfl rfl rfl (hA _ aw_4) (hA _ aw_51) (hA _ aw_52) rfl (by decide +kernel) ⟨Nat.le_of_ble_eq_true rfl, Nat.le_of_ble_eq_true rfl⟩) ⟨cd_blindN, fun U hU hW => ⟨rfl, cd_preN hK hP hZ hS hz54 hO U hU hW⟩⟩ rfl rfl hl.1 rfl (lv_room (Nat.le_of_ble_eq_true rfl)) d_Desk_init_20 ⟨Nat.le_of_ble_eq_true rfl, Nat.le_of_ble_eq_true rfl⟩) hS (fun _ _ h => h) (fun _ h => h) (fun w5 tE H locs ht hvm hp55 hPN hz1 hk1 hS => ?_)
  obtain ⟨fa57, fa58, fa59, e5⟩ := hp55
  have hP := cd_Pf ht hPN.1
  have fa57 : w5 (q + 15) = .inr (2, [.ref (ad (q + 16)), .ref (ad (q + 17)), .int (0 : Int32)]) := fa57
  have fa58 : w5 (q + 16) = .inl (tt 1, 3, .inl (fun _ => 0)) := fa58
  have fa59 : w5 (q + 17) = .inl (tt 1, 24, .inl (fun _ => 0)) := fa59
  have fa60 := (e5 q (by omega)).trans fa39
  have fa61 := (e5 (q + 1) (by omega)).trans fa40
  have fa62 := (e5 (q + 2) (by omega)).trans fa41
  have fa63 := (e5 (q + 3) (by omega)).trans fa42
  have fa64 := (e5 (q + 4) (by omega)).trans fa43
  have fa65 := (e5 (q + 5) (by omega)).trans fa44
  have fa66 := (e5 (q + 6) (by omega)).trans fa45
  have fa67 := (e5 (q + 7) (by omega)).trans fa46
  have fa68 := (e5 (q + 8) (by omega)).trans fa47
  have fa69 := (e5 (q + 9) (by omega)).trans fa48
  have fa70 := (e5 (q + 10) (by omega)).trans fa49
  have fa71 := (e5 (q + 11) (by omega)).trans fa50
  have fa72 := (e5 (q + 12) (by omega)).trans fa51
  have fa73 := (e5 (q + 13) (by omega)).trans fa52
  have fa74 := (e5 (q + 14) (by omega)).trans fa53
  refine g_putF (ci := 6) (C := R_Desk) (T := F_Desk) (Nf := 9) (v := .ref (ad (q + 15))) (ty := (.object "CoreDesk$ThreadTable")) hx hb hA in_Desk t_Desk t_Desk_ok n_Desk hown hK hP hS (k := q) (by omega) fa60 rfl 1 (by decide) (hA _ aw_101) (fun _ h9 => h9) rfl hin rfl (by decide +kernel) rfl rfl (Nat.le_of_ble_eq_true rfl) d_Desk_init_23 (fun H locs w6 fa75 e6 hP hS => ?_)
  have fa75 : w6 q = .inr (6, [.ref (ad (q + 1)), .ref (ad (q + 15)), .null, .null, .null, .null, .null, .null, .int 0]) := fa75
  have fa76 := (e6 (q + 1) (by omega)).trans fa61
  have fa77 := (e6 (q + 2) (by omega)).trans fa62
  have fa78 := (e6 (q + 3) (by omega)).trans fa63
  have fa79 := (e6 (q + 4) (by omega)).trans fa64
  have fa80 := (e6 (q + 5) (by omega)).trans fa65
  have fa81 := (e6 (q + 6) (by omega)).trans fa66
  have fa82 := (e6 (q + 7) (by omega)).trans fa67
  have fa83 := (e6 (q + 8) (by omega)).trans fa68
  have fa84 := (e6 (q + 9) (by omega)).trans fa69
  have fa85 := (e6 (q + 10) (by omega)).trans fa70
  have fa86 := (e6 (q + 11) (by omega)).trans fa71
  have fa87 := (e6 (q + 12) (by omega)).trans fa72
  have fa88 := (e6 (q + 13) (by omega)).trans fa73
  have fa89 := (e6 (q + 14) (by omega)).trans fa74
  have fa90 := (e6 (q + 15) (by omega)).trans fa57
  have fa91 := (e6 (q + 16) (by omega)).trans fa58
  have fa92 := (e6 (q + 17) (by omega)).trans fa59
  refine lv_aload_n hx hb d_Desk_init_26 rfl (lv_at hl 0 rfl) ?_
  refine cd_le (fun hle => ?_)
  have hz93 : H.size = ad (q + 18) := cd_sz hs hP hsz hle (by omega)
  refine g_new (ci := 0) (C := R_Row) (T := F_Row) (Nf := 2) (fs := [.null, .int 0]) hx hb hA in_Row t_Row t_Row_ok hown (hA _ aw_62) (hA _ aw_63) (hA _ aw_5) hK hP hS hz93 hs (hAA _ (cd_adm hs (by omega))) rfl (by decide) (Nat.le_of_ble_eq_true rfl) (Nat.le_of_ble_eq_true rfl) d_Desk_init_27 (fun H w7 fa94 e7 hP hS _ => ?_)
  have fa95 := (e7 q (by omega)).trans fa75
  have fa96 := (e7 (q + 1) (by omega)).trans fa76
  have fa97 := (e7 (q + 2) (by omega)).trans fa77
  have fa98 := (e7 (q + 3) (by omega)).trans fa78
  have fa99 := (e7 (q + 4) (by omega)).trans fa79
  have fa100 := (e7 (q + 5) (by omega)).trans fa80
  have fa101 := (e7 (q + 6) (by omega)).trans fa81
  have fa102 := (e7 (q + 7) (by omega)).trans fa82
  have fa103 := (e7 (q + 8) (by omega)).trans fa83
  have fa104 := (e7 (q + 9) (by omega)).trans fa84
  have fa105 := (e7 (q + 10) (by omega)).trans fa85
  have fa106 := (e7 (q + 11) (by omega)).trans fa86
  have fa107 := (e7 (q + 12) (by omega)).trans fa87
  have fa108 := (e7 (q + 13) (by omega)).trans fa88
  have fa109 := (e7 (q + 14) (by omega)).trans fa89
  have fa110 := (e7 (q + 15) (by omega)).trans fa90
  have fa111 := (e7 (q + 16) (by omega)).trans fa91
  have fa112 := (e7 (q + 17) (by omega)).trans fa92
  refine lv_dup hx hb d_Desk_init_30 rfl ?_
  refine lv_sipush (v := (6588 : Int32)) hx hb d_Desk_init_31 (by decide) ?_
  refine cd_le (fun hle => ?_)
  have hz113 : H.size = ad (q + 19) := cd_sz hs hP hsz hle (by omega)
  refine va_callv (va_runI (As := [.int (6588 : Int32)]) (rest := [.ref (ad (q + 18)), .ref (ad q)]) ⟨hx, hb, hml, hown, hA⟩ (i_Row6588 l D tt ad A zs w7 (q + 18) hs (fun k hk => hAA k (Nat.le_trans (cd_adm hs (by omega)) hk)) fa94) (cwI 1 hA (cd_good aw_66) rfl rfl rfl (hA _ aw_5) (hA _ aw_64) (hA _ aw_65) rfl (by decide +kernel) ⟨Nat.le_of_ble_eq_true rfl, Nat.le_of_ble_eq_true rfl⟩) ⟨cd_blindN, fun U hU hW => ⟨rfl, cd_preN hK hP hZ hS hz113 hO U hU hW⟩⟩ rfl rfl hl.1 rfl (lv_room (Nat.le_of_ble_eq_true rfl)) d_Desk_init_34 ⟨Nat.le_of_ble_eq_true rfl, Nat.le_of_ble_eq_true rfl⟩) hS (fun _ _ h => h) (fun _ h => h) (fun w8 tE H locs ht hvm hp114 hPN hz1 hk1 hS => ?_)
  obtain ⟨fa116, fa117, e8⟩ := hp114
  have hP := cd_Pf ht hPN.1
  have fa116 : w8 (q + 18) = .inr (0, [.ref (ad (q + 19)), .int (0 : Int32)]) := fa116
  have fa117 : w8 (q + 19) = .inl (tt 0, 6588, .inl (fun _ => 0)) := fa117
  have fa118 := (e8 q (by omega)).trans fa95
  have fa119 := (e8 (q + 1) (by omega)).trans fa96
  have fa120 := (e8 (q + 2) (by omega)).trans fa97
  have fa121 := (e8 (q + 3) (by omega)).trans fa98
  have fa122 := (e8 (q + 4) (by omega)).trans fa99
  have fa123 := (e8 (q + 5) (by omega)).trans fa100
  have fa124 := (e8 (q + 6) (by omega)).trans fa101
  have fa125 := (e8 (q + 7) (by omega)).trans fa102
  have fa126 := (e8 (q + 8) (by omega)).trans fa103
  have fa127 := (e8 (q + 9) (by omega)).trans fa104
  have fa128 := (e8 (q + 10) (by omega)).trans fa105
  have fa129 := (e8 (q + 11) (by omega)).trans fa106
  have fa130 := (e8 (q + 12) (by omega)).trans fa107
  have fa131 := (e8 (q + 13) (by omega)).trans fa108
  have fa132 := (e8 (q + 14) (by omega)).trans fa109
  have fa133 := (e8 (q + 15) (by omega)).trans fa110
  have fa134 := (e8 (q + 16) (by omega)).trans fa111
  have fa135 := (e8 (q + 17) (by omega)).trans fa112
  refine g_putF (ci := 6) (C := R_Desk) (T := F_Desk) (Nf := 9) (v := .ref (ad (q + 18))) (ty := (.object "CoreDesk$Row")) hx hb hA in_Desk t_Desk t_Desk_ok n_Desk hown hK hP hS (k := q) (by omega) fa118 rfl 2 (by decide) (hA _ aw_102) (fun _ h9 => h9) rfl hin rfl (by decide +kernel) rfl rfl (Nat.le_of_ble_eq_true rfl) d_Desk_init_37 (fun H locs w9 fa136 e9 hP hS => ?_)
  have fa136 : w9 q = .inr (6, [.ref (ad (q + 1)), .ref (ad (q + 15)), .ref (ad (q + 18)), .null, .null, .null, .null, .null, .int 0]) := fa136
  have fa137 := (e9 (q + 1) (by omega)).trans fa119
  have fa138 := (e9 (q + 2) (by omega)).trans fa120
  have fa139 := (e9 (q + 3) (by omega)).trans fa121
  have fa140 := (e9 (q + 4) (by omega)).trans fa122
  have fa141 := (e9 (q + 5) (by omega)).trans fa123
  have fa142 := (e9 (q + 6) (by omega)).trans fa124
  have fa143 := (e9 (q + 7) (by omega)).trans fa125
  have fa144 := (e9 (q + 8) (by omega)).trans fa126
  have fa145 := (e9 (q + 9) (by omega)).trans fa127
  have fa146 := (e9 (q + 10) (by omega)).trans fa128
  have fa147 := (e9 (q + 11) (by omega)).trans fa129
  have fa148 := (e9 (q + 12) (by omega)).trans fa130
  have fa149 := (e9 (q + 13) (by omega)).trans fa131
  have fa150 := (e9 (q + 14) (by omega)).trans fa132
  have fa151 := (e9 (q + 15) (by omega)).trans fa133
  have fa152 := (e9 (q + 16) (by omega)).trans fa134
  have fa153 := (e9 (q + 17) (by omega)).trans fa135
  have fa154 := (e9 (q + 18) (by omega)).trans fa116
  have fa155 := (e9 (q + 19) (by omega)).trans fa117
  refine lv_aload_n hx hb d_Desk_init_40 rfl (lv_at hl 0 rfl) ?_
  refine cd_le (fun hle => ?_)
  have hz156 : H.size = ad (q + 20) := cd_sz hs hP hsz hle (by omega)
  refine g_new (ci := 4) (C := R_Fw) (T := F_Fw) (Nf := 3) (fs := [.null, .null, .null]) hx hb hA in_Fw t_Fw t_Fw_ok hown (hA _ aw_72) (hA _ aw_73) (hA _ aw_6) hK hP hS hz156 hs (hAA _ (cd_adm hs (by omega))) rfl (by decide) (Nat.le_of_ble_eq_true rfl) (Nat.le_of_ble_eq_true rfl) d_Desk_init_41 (fun H w10 fa157 e10 hP hS _ => ?_)
  have fa158 := (e10 q (by omega)).trans fa136
  have fa159 := (e10 (q + 1) (by omega)).trans fa137
  have fa160 := (e10 (q + 2) (by omega)).trans fa138
  have fa161 := (e10 (q + 3) (by omega)).trans fa139
  have fa162 := (e10 (q + 4) (by omega)).trans fa140
  have fa163 := (e10 (q + 5) (by omega)).trans fa141
  have fa164 := (e10 (q + 6) (by omega)).trans fa142
  have fa165 := (e10 (q + 7) (by omega)).trans fa143
  have fa166 := (e10 (q + 8) (by omega)).trans fa144
  have fa167 := (e10 (q + 9) (by omega)).trans fa145
  have fa168 := (e10 (q + 10) (by omega)).trans fa146
  have fa169 := (e10 (q + 11) (by omega)).trans fa147
  have fa170 := (e10 (q + 12) (by omega)).trans fa148
  have fa171 := (e10 (q + 13) (by omega)).trans fa149
  have fa172 := (e10 (q + 14) (by omega)).trans fa150
  have fa173 := (e10 (q + 15) (by omega)).trans fa151
  have fa174 := (e10 (q + 16) (by omega)).trans fa152
  have fa175 := (e10 (q + 17) (by omega)).trans fa153
  have fa176 := (e10 (q + 18) (by omega)).trans fa154
  have fa177 := (e10 (q + 19) (by omega)).trans fa155
  refine lv_dup hx hb d_Desk_init_44 rfl ?_
  refine lv_aload_n hx hb d_Desk_init_45 rfl (lv_at hl 0 rfl) ?_
  refine g_get (ci := 6) (C := R_Desk) (T := F_Desk) (Nf := 9) (v := .ref (ad (q + 18))) hx hb hA in_Desk hown hK hP (k := q) (by omega) fa158 rfl 2 (by decide) (hA _ aw_102) (fun _ h9 => h9) rfl d_Desk_init_46 ?_
  refine lv_aload_n hx hb d_Desk_init_49 rfl (lv_at hl 0 rfl) ?_
  refine g_get (ci := 6) (C := R_Desk) (T := F_Desk) (Nf := 9) (v := .ref (ad (q + 1))) hx hb hA in_Desk hown hK hP (k := q) (by omega) fa158 rfl 0 (by decide) (hA _ aw_100) (fun _ h9 => h9) rfl d_Desk_init_50 ?_
  refine lv_aload_n hx hb d_Desk_init_53 rfl (lv_at hl 0 rfl) ?_
  refine g_get (ci := 6) (C := R_Desk) (T := F_Desk) (Nf := 9) (v := .ref (ad (q + 15))) hx hb hA in_Desk hown hK hP (k := q) (by omega) fa158 rfl 1 (by decide) (hA _ aw_101) (fun _ h9 => h9) rfl d_Desk_init_54 ?_
  refine cd_le (fun hle => ?_)
  have hz178 : H.size = ad (q + 21) := cd_sz hs hP hsz hle (by omega)
  refine va_callv (va_runI (As := [.ref (ad (q + 18)), .ref (ad (q + 1)), .ref (ad (q + 15))]) (rest := [.ref (ad (q + 20)), .ref (ad q)]) ⟨hx, hb, hml, hown, hA⟩ (i_Fw l D tt ad A zs w10 (q + 20) (q + 18) (q + 1) (q + 15) hs (fun k hk => hAA k (Nat.le_trans (cd_adm hs (by omega)) hk)) fa157) (cwI 3 hA (cd_good aw_76) rfl rfl rfl (hA _ aw_6) (hA _ aw_74) (hA _ aw_75) rfl (by decide +kernel) ⟨Nat.le_of_ble_eq_true rfl, Nat.le_of_ble_eq_true rfl⟩) ⟨cd_blindN, fun U hU hW => ⟨rfl, cd_preN hK hP hZ hS hz178 hO U hU hW⟩⟩ rfl rfl hl.1 rfl (lv_room (Nat.le_of_ble_eq_true rfl)) d_Desk_init_57 ⟨Nat.le_of_ble_eq_true rfl, Nat.le_of_ble_eq_true rfl⟩) hS (fun _ _ h => h) (fun _ h => h) (fun w11 tE H locs ht hvm hp179 hPN hz1 hk1 hS => ?_)
  obtain ⟨fa181, e11⟩ := hp179
  have hP := cd_Pf ht hPN.1
  have fa181 : w11 (q + 20) = .inr (4, [.ref (ad (q + 18)), .ref (ad (q + 1)), .ref (ad (q + 15))]) := fa181
  have fa182 := (e11 q (by omega)).trans fa158
  have fa183 := (e11 (q + 1) (by omega)).trans fa159
  have fa184 := (e11 (q + 2) (by omega)).trans fa160
  have fa185 := (e11 (q + 3) (by omega)).trans fa161
  have fa186 := (e11 (q + 4) (by omega)).trans fa162
  have fa187 := (e11 (q + 5) (by omega)).trans fa163
  have fa188 := (e11 (q + 6) (by omega)).trans fa164
  have fa189 := (e11 (q + 7) (by omega)).trans fa165
  have fa190 := (e11 (q + 8) (by omega)).trans fa166
  have fa191 := (e11 (q + 9) (by omega)).trans fa167
  have fa192 := (e11 (q + 10) (by omega)).trans fa168
  have fa193 := (e11 (q + 11) (by omega)).trans fa169
  have fa194 := (e11 (q + 12) (by omega)).trans fa170
  have fa195 := (e11 (q + 13) (by omega)).trans fa171
  have fa196 := (e11 (q + 14) (by omega)).trans fa172
  have fa197 := (e11 (q + 15) (by omega)).trans fa173
  have fa198 := (e11 (q + 16) (by omega)).trans fa174
  have fa199 := (e11 (q + 17) (by omega)).trans fa175
  have fa200 := (e11 (q + 18) (by omega)).trans fa176
  have fa201 := (e11 (q + 19) (by omega)).trans fa177
  refine g_putF (ci := 6) (C := R_Desk) (T := F_Desk) (Nf := 9) (v := .ref (ad (q + 20))) (ty := (.object "CoreDesk$FileWriter")) hx hb hA in_Desk t_Desk t_Desk_ok n_Desk hown hK hP hS (k := q) (by omega) fa182 rfl 3 (by decide) (hA _ aw_103) (fun _ h9 => h9) rfl hin rfl (by decide +kernel) rfl rfl (Nat.le_of_ble_eq_true rfl) d_Desk_init_60 (fun H locs w12 fa202 e12 hP hS => ?_)
  have fa202 : w12 q = .inr (6, [.ref (ad (q + 1)), .ref (ad (q + 15)), .ref (ad (q + 18)), .ref (ad (q + 20)), .null, .null, .null, .null, .int 0]) := fa202
  have fa203 := (e12 (q + 1) (by omega)).trans fa183
  have fa204 := (e12 (q + 2) (by omega)).trans fa184
  have fa205 := (e12 (q + 3) (by omega)).trans fa185
  have fa206 := (e12 (q + 4) (by omega)).trans fa186
  have fa207 := (e12 (q + 5) (by omega)).trans fa187
  have fa208 := (e12 (q + 6) (by omega)).trans fa188
  have fa209 := (e12 (q + 7) (by omega)).trans fa189
  have fa210 := (e12 (q + 8) (by omega)).trans fa190
  have fa211 := (e12 (q + 9) (by omega)).trans fa191
  have fa212 := (e12 (q + 10) (by omega)).trans fa192
  have fa213 := (e12 (q + 11) (by omega)).trans fa193
  have fa214 := (e12 (q + 12) (by omega)).trans fa194
  have fa215 := (e12 (q + 13) (by omega)).trans fa195
  have fa216 := (e12 (q + 14) (by omega)).trans fa196
  have fa217 := (e12 (q + 15) (by omega)).trans fa197
  have fa218 := (e12 (q + 16) (by omega)).trans fa198
  have fa219 := (e12 (q + 17) (by omega)).trans fa199
  have fa220 := (e12 (q + 18) (by omega)).trans fa200
  have fa221 := (e12 (q + 19) (by omega)).trans fa201
  have fa222 := (e12 (q + 20) (by omega)).trans fa181
  refine lv_aload_n hx hb d_Desk_init_63 rfl (lv_at hl 0 rfl) ?_
  refine cd_le (fun hle => ?_)
  have hz223 : H.size = ad (q + 21) := cd_sz hs hP hsz hle (by omega)
  refine g_new (ci := 0) (C := R_Row) (T := F_Row) (Nf := 2) (fs := [.null, .int 0]) hx hb hA in_Row t_Row t_Row_ok hown (hA _ aw_62) (hA _ aw_63) (hA _ aw_5) hK hP hS hz223 hs (hAA _ (cd_adm hs (by omega))) rfl (by decide) (Nat.le_of_ble_eq_true rfl) (Nat.le_of_ble_eq_true rfl) d_Desk_init_64 (fun H w13 fa224 e13 hP hS _ => ?_)
  have fa225 := (e13 q (by omega)).trans fa202
  have fa226 := (e13 (q + 1) (by omega)).trans fa203
  have fa227 := (e13 (q + 2) (by omega)).trans fa204
  have fa228 := (e13 (q + 3) (by omega)).trans fa205
  have fa229 := (e13 (q + 4) (by omega)).trans fa206
  have fa230 := (e13 (q + 5) (by omega)).trans fa207
  have fa231 := (e13 (q + 6) (by omega)).trans fa208
  have fa232 := (e13 (q + 7) (by omega)).trans fa209
  have fa233 := (e13 (q + 8) (by omega)).trans fa210
  have fa234 := (e13 (q + 9) (by omega)).trans fa211
  have fa235 := (e13 (q + 10) (by omega)).trans fa212
  have fa236 := (e13 (q + 11) (by omega)).trans fa213
  have fa237 := (e13 (q + 12) (by omega)).trans fa214
  have fa238 := (e13 (q + 13) (by omega)).trans fa215
  have fa239 := (e13 (q + 14) (by omega)).trans fa216
  have fa240 := (e13 (q + 15) (by omega)).trans fa217
  have fa241 := (e13 (q + 16) (by omega)).trans fa218
  have fa242 := (e13 (q + 17) (by omega)).trans fa219
  have fa243 := (e13 (q + 18) (by omega)).trans fa220
  have fa244 := (e13 (q + 19) (by omega)).trans fa221
  have fa245 := (e13 (q + 20) (by omega)).trans fa222
  refine lv_dup hx hb d_Desk_init_67 rfl ?_
  refine lv_sipush (v := (8192 : Int32)) hx hb d_Desk_init_68 (by decide) ?_
  refine cd_le (fun hle => ?_)
  have hz246 : H.size = ad (q + 22) := cd_sz hs hP hsz hle (by omega)
  refine va_callv (va_runI (As := [.int (8192 : Int32)]) (rest := [.ref (ad (q + 21)), .ref (ad q)]) ⟨hx, hb, hml, hown, hA⟩ (i_Row8192 l D tt ad A zs w13 (q + 21) hs (fun k hk => hAA k (Nat.le_trans (cd_adm hs (by omega)) hk)) fa224) (cwI 1 hA (cd_good aw_66) rfl rfl rfl (hA _ aw_5) (hA _ aw_64) (hA _ aw_65) rfl (by decide +kernel) ⟨Nat.le_of_ble_eq_true rfl, Nat.le_of_ble_eq_true rfl⟩) ⟨cd_blindN, fun U hU hW => ⟨rfl, cd_preN hK hP hZ hS hz246 hO U hU hW⟩⟩ rfl rfl hl.1 rfl (lv_room (Nat.le_of_ble_eq_true rfl)) d_Desk_init_71 ⟨Nat.le_of_ble_eq_true rfl, Nat.le_of_ble_eq_true rfl⟩) hS (fun _ _ h => h) (fun _ h => h) (fun w14 tE H locs ht hvm hp247 hPN hz1 hk1 hS => ?_)
  obtain ⟨fa249, fa250, e14⟩ := hp247
  have hP := cd_Pf ht hPN.1
  have fa249 : w14 (q + 21) = .inr (0, [.ref (ad (q + 22)), .int (0 : Int32)]) := fa249
  have fa250 : w14 (q + 22) = .inl (tt 0, 8192, .inl (fun _ => 0)) := fa250
  have fa251 := (e14 q (by omega)).trans fa225
  have fa252 := (e14 (q + 1) (by omega)).trans fa226
  have fa253 := (e14 (q + 2) (by omega)).trans fa227
  have fa254 := (e14 (q + 3) (by omega)).trans fa228
  have fa255 := (e14 (q + 4) (by omega)).trans fa229
  have fa256 := (e14 (q + 5) (by omega)).trans fa230
  have fa257 := (e14 (q + 6) (by omega)).trans fa231
  have fa258 := (e14 (q + 7) (by omega)).trans fa232
  have fa259 := (e14 (q + 8) (by omega)).trans fa233
  have fa260 := (e14 (q + 9) (by omega)).trans fa234
  have fa261 := (e14 (q + 10) (by omega)).trans fa235
  have fa262 := (e14 (q + 11) (by omega)).trans fa236
  have fa263 := (e14 (q + 12) (by omega)).trans fa237
  have fa264 := (e14 (q + 13) (by omega)).trans fa238
  have fa265 := (e14 (q + 14) (by omega)).trans fa239
  have fa266 := (e14 (q + 15) (by omega)).trans fa240
  have fa267 := (e14 (q + 16) (by omega)).trans fa241
  have fa268 := (e14 (q + 17) (by omega)).trans fa242
  have fa269 := (e14 (q + 18) (by omega)).trans fa243
  have fa270 := (e14 (q + 19) (by omega)).trans fa244
  have fa271 := (e14 (q + 20) (by omega)).trans fa245
  refine g_putF (ci := 6) (C := R_Desk) (T := F_Desk) (Nf := 9) (v := .ref (ad (q + 21))) (ty := (.object "CoreDesk$Row")) hx hb hA in_Desk t_Desk t_Desk_ok n_Desk hown hK hP hS (k := q) (by omega) fa251 rfl 4 (by decide) (hA _ aw_104) (fun _ h9 => h9) rfl hin rfl (by decide +kernel) rfl rfl (Nat.le_of_ble_eq_true rfl) d_Desk_init_74 (fun H locs w15 fa272 e15 hP hS => ?_)
  have fa272 : w15 q = .inr (6, [.ref (ad (q + 1)), .ref (ad (q + 15)), .ref (ad (q + 18)), .ref (ad (q + 20)), .ref (ad (q + 21)), .null, .null, .null, .int 0]) := fa272
  have fa273 := (e15 (q + 1) (by omega)).trans fa252
  have fa274 := (e15 (q + 2) (by omega)).trans fa253
  have fa275 := (e15 (q + 3) (by omega)).trans fa254
  have fa276 := (e15 (q + 4) (by omega)).trans fa255
  have fa277 := (e15 (q + 5) (by omega)).trans fa256
  have fa278 := (e15 (q + 6) (by omega)).trans fa257
  have fa279 := (e15 (q + 7) (by omega)).trans fa258
  have fa280 := (e15 (q + 8) (by omega)).trans fa259
  have fa281 := (e15 (q + 9) (by omega)).trans fa260
  have fa282 := (e15 (q + 10) (by omega)).trans fa261
  have fa283 := (e15 (q + 11) (by omega)).trans fa262
  have fa284 := (e15 (q + 12) (by omega)).trans fa263
  have fa285 := (e15 (q + 13) (by omega)).trans fa264
  have fa286 := (e15 (q + 14) (by omega)).trans fa265
  have fa287 := (e15 (q + 15) (by omega)).trans fa266
  have fa288 := (e15 (q + 16) (by omega)).trans fa267
  have fa289 := (e15 (q + 17) (by omega)).trans fa268
  have fa290 := (e15 (q + 18) (by omega)).trans fa269
  have fa291 := (e15 (q + 19) (by omega)).trans fa270
  have fa292 := (e15 (q + 20) (by omega)).trans fa271
  have fa293 := (e15 (q + 21) (by omega)).trans fa249
  have fa294 := (e15 (q + 22) (by omega)).trans fa250
  refine lv_aload_n hx hb d_Desk_init_77 rfl (lv_at hl 0 rfl) ?_
  refine cd_le (fun hle => ?_)
  have hz295 : H.size = ad (q + 23) := cd_sz hs hP hsz hle (by omega)
  refine g_new (ci := 5) (C := R_Tc) (T := F_Tc) (Nf := 4) (fs := [.null, .null, .int 0, .int 0]) hx hb hA in_Tc t_Tc t_Tc_ok hown (hA _ aw_84) (hA _ aw_85) (hA _ aw_7) hK hP hS hz295 hs (hAA _ (cd_adm hs (by omega))) rfl (by decide) (Nat.le_of_ble_eq_true rfl) (Nat.le_of_ble_eq_true rfl) d_Desk_init_78 (fun H w16 fa296 e16 hP hS _ => ?_)
  have fa297 := (e16 q (by omega)).trans fa272
  have fa298 := (e16 (q + 1) (by omega)).trans fa273
  have fa299 := (e16 (q + 2) (by omega)).trans fa274
  have fa300 := (e16 (q + 3) (by omega)).trans fa275
  have fa301 := (e16 (q + 4) (by omega)).trans fa276
  have fa302 := (e16 (q + 5) (by omega)).trans fa277
  have fa303 := (e16 (q + 6) (by omega)).trans fa278
  have fa304 := (e16 (q + 7) (by omega)).trans fa279
  have fa305 := (e16 (q + 8) (by omega)).trans fa280
  have fa306 := (e16 (q + 9) (by omega)).trans fa281
  have fa307 := (e16 (q + 10) (by omega)).trans fa282
  have fa308 := (e16 (q + 11) (by omega)).trans fa283
  have fa309 := (e16 (q + 12) (by omega)).trans fa284
  have fa310 := (e16 (q + 13) (by omega)).trans fa285
  have fa311 := (e16 (q + 14) (by omega)).trans fa286
  have fa312 := (e16 (q + 15) (by omega)).trans fa287
  have fa313 := (e16 (q + 16) (by omega)).trans fa288
  have fa314 := (e16 (q + 17) (by omega)).trans fa289
  have fa315 := (e16 (q + 18) (by omega)).trans fa290
  have fa316 := (e16 (q + 19) (by omega)).trans fa291
  have fa317 := (e16 (q + 20) (by omega)).trans fa292
  have fa318 := (e16 (q + 21) (by omega)).trans fa293
  have fa319 := (e16 (q + 22) (by omega)).trans fa294
  refine lv_dup hx hb d_Desk_init_81 rfl ?_
  refine lv_aload_n hx hb d_Desk_init_82 rfl (lv_at hl 0 rfl) ?_
  refine g_get (ci := 6) (C := R_Desk) (T := F_Desk) (Nf := 9) (v := .ref (ad (q + 21))) hx hb hA in_Desk hown hK hP (k := q) (by omega) fa297 rfl 4 (by decide) (hA _ aw_104) (fun _ h9 => h9) rfl d_Desk_init_83 ?_
  refine cd_le (fun hle => ?_)
  have hz320 : H.size = ad (q + 24) := cd_sz hs hP hsz hle (by omega)
  refine va_callv (va_runI (As := [.ref (ad (q + 21))]) (rest := [.ref (ad (q + 23)), .ref (ad q)]) ⟨hx, hb, hml, hown, hA⟩ (i_Tc l D tt ad A zs w16 (q + 23) (q + 21) hs (fun k hk => hAA k (Nat.le_trans (cd_adm hs (by omega)) hk)) fa296) (cwI 1 hA (cd_good aw_88) rfl rfl rfl (hA _ aw_7) (hA _ aw_86) (hA _ aw_87) rfl (by decide +kernel) ⟨Nat.le_of_ble_eq_true rfl, Nat.le_of_ble_eq_true rfl⟩) ⟨cd_blindN, fun U hU hW => ⟨rfl, cd_preN hK hP hZ hS hz320 hO U hU hW⟩⟩ rfl rfl hl.1 rfl (lv_room (Nat.le_of_ble_eq_true rfl)) d_Desk_init_86 ⟨Nat.le_of_ble_eq_true rfl, Nat.le_of_ble_eq_true rfl⟩) hS (fun _ _ h => h) (fun _ h => h) (fun w17 tE H locs ht hvm hp321 hPN hz1 hk1 hS => ?_)
  obtain ⟨fa323, fa324, fa325, fa326, e17⟩ := hp321
  have hP := cd_Pf ht hPN.1
  have fa323 : w17 (q + 23) = .inr (5, [.ref (ad (q + 21)), .ref (ad (q + 24)), .int (0 : Int32), .int (0 : Int32)]) := fa323
  have fa324 : w17 (q + 24) = .inr (2, [.ref (ad (q + 25)), .ref (ad (q + 26)), .int (0 : Int32)]) := fa324
  have fa325 : w17 (q + 25) = .inl (tt 1, 3, .inl (fun _ => 0)) := fa325
  have fa326 : w17 (q + 26) = .inl (tt 1, 24, .inl (fun _ => 0)) := fa326
  have fa327 := (e17 q (by omega)).trans fa297
  have fa328 := (e17 (q + 1) (by omega)).trans fa298
  have fa329 := (e17 (q + 2) (by omega)).trans fa299
  have fa330 := (e17 (q + 3) (by omega)).trans fa300
  have fa331 := (e17 (q + 4) (by omega)).trans fa301
  have fa332 := (e17 (q + 5) (by omega)).trans fa302
  have fa333 := (e17 (q + 6) (by omega)).trans fa303
  have fa334 := (e17 (q + 7) (by omega)).trans fa304
  have fa335 := (e17 (q + 8) (by omega)).trans fa305
  have fa336 := (e17 (q + 9) (by omega)).trans fa306
  have fa337 := (e17 (q + 10) (by omega)).trans fa307
  have fa338 := (e17 (q + 11) (by omega)).trans fa308
  have fa339 := (e17 (q + 12) (by omega)).trans fa309
  have fa340 := (e17 (q + 13) (by omega)).trans fa310
  have fa341 := (e17 (q + 14) (by omega)).trans fa311
  have fa342 := (e17 (q + 15) (by omega)).trans fa312
  have fa343 := (e17 (q + 16) (by omega)).trans fa313
  have fa344 := (e17 (q + 17) (by omega)).trans fa314
  have fa345 := (e17 (q + 18) (by omega)).trans fa315
  have fa346 := (e17 (q + 19) (by omega)).trans fa316
  have fa347 := (e17 (q + 20) (by omega)).trans fa317
  have fa348 := (e17 (q + 21) (by omega)).trans fa318
  have fa349 := (e17 (q + 22) (by omega)).trans fa319
  refine g_putF (ci := 6) (C := R_Desk) (T := F_Desk) (Nf := 9) (v := .ref (ad (q + 23))) (ty := (.object "CoreDesk$TapeCheck")) hx hb hA in_Desk t_Desk t_Desk_ok n_Desk hown hK hP hS (k := q) (by omega) fa327 rfl 5 (by decide) (hA _ aw_105) (fun _ h9 => h9) rfl hin rfl (by decide +kernel) rfl rfl (Nat.le_of_ble_eq_true rfl) d_Desk_init_89 (fun H locs w18 fa350 e18 hP hS => ?_)
  have fa350 : w18 q = .inr (6, [.ref (ad (q + 1)), .ref (ad (q + 15)), .ref (ad (q + 18)), .ref (ad (q + 20)), .ref (ad (q + 21)), .ref (ad (q + 23)), .null, .null, .int 0]) := fa350
  have fa351 := (e18 (q + 1) (by omega)).trans fa328
  have fa352 := (e18 (q + 2) (by omega)).trans fa329
  have fa353 := (e18 (q + 3) (by omega)).trans fa330
  have fa354 := (e18 (q + 4) (by omega)).trans fa331
  have fa355 := (e18 (q + 5) (by omega)).trans fa332
  have fa356 := (e18 (q + 6) (by omega)).trans fa333
  have fa357 := (e18 (q + 7) (by omega)).trans fa334
  have fa358 := (e18 (q + 8) (by omega)).trans fa335
  have fa359 := (e18 (q + 9) (by omega)).trans fa336
  have fa360 := (e18 (q + 10) (by omega)).trans fa337
  have fa361 := (e18 (q + 11) (by omega)).trans fa338
  have fa362 := (e18 (q + 12) (by omega)).trans fa339
  have fa363 := (e18 (q + 13) (by omega)).trans fa340
  have fa364 := (e18 (q + 14) (by omega)).trans fa341
  have fa365 := (e18 (q + 15) (by omega)).trans fa342
  have fa366 := (e18 (q + 16) (by omega)).trans fa343
  have fa367 := (e18 (q + 17) (by omega)).trans fa344
  have fa368 := (e18 (q + 18) (by omega)).trans fa345
  have fa369 := (e18 (q + 19) (by omega)).trans fa346
  have fa370 := (e18 (q + 20) (by omega)).trans fa347
  have fa371 := (e18 (q + 21) (by omega)).trans fa348
  have fa372 := (e18 (q + 22) (by omega)).trans fa349
  have fa373 := (e18 (q + 23) (by omega)).trans fa323
  have fa374 := (e18 (q + 24) (by omega)).trans fa324
  have fa375 := (e18 (q + 25) (by omega)).trans fa325
  have fa376 := (e18 (q + 26) (by omega)).trans fa326
  refine lv_aload_n hx hb d_Desk_init_92 rfl (lv_at hl 0 rfl) ?_
  refine cd_le (fun hle => ?_)
  have hz377 : H.size = ad (q + 27) := cd_sz hs hP hsz hle (by omega)
  refine g_new (ci := 3) (C := R_Mem) (T := F_Mem) (Nf := 2) (fs := [.null, .int 0]) hx hb hA in_Mem t_Mem t_Mem_ok hown (hA _ aw_24) (hA _ aw_25) (hA _ aw_2) hK hP hS hz377 hs (hAA _ (cd_adm hs (by omega))) rfl (by decide) (Nat.le_of_ble_eq_true rfl) (Nat.le_of_ble_eq_true rfl) d_Desk_init_93 (fun H w19 fa378 e19 hP hS _ => ?_)
  have fa379 := (e19 q (by omega)).trans fa350
  have fa380 := (e19 (q + 1) (by omega)).trans fa351
  have fa381 := (e19 (q + 2) (by omega)).trans fa352
  have fa382 := (e19 (q + 3) (by omega)).trans fa353
  have fa383 := (e19 (q + 4) (by omega)).trans fa354
  have fa384 := (e19 (q + 5) (by omega)).trans fa355
  have fa385 := (e19 (q + 6) (by omega)).trans fa356
  have fa386 := (e19 (q + 7) (by omega)).trans fa357
  have fa387 := (e19 (q + 8) (by omega)).trans fa358
  have fa388 := (e19 (q + 9) (by omega)).trans fa359
  have fa389 := (e19 (q + 10) (by omega)).trans fa360
  have fa390 := (e19 (q + 11) (by omega)).trans fa361
  have fa391 := (e19 (q + 12) (by omega)).trans fa362
  have fa392 := (e19 (q + 13) (by omega)).trans fa363
  have fa393 := (e19 (q + 14) (by omega)).trans fa364
  have fa394 := (e19 (q + 15) (by omega)).trans fa365
  have fa395 := (e19 (q + 16) (by omega)).trans fa366
  have fa396 := (e19 (q + 17) (by omega)).trans fa367
  have fa397 := (e19 (q + 18) (by omega)).trans fa368
  have fa398 := (e19 (q + 19) (by omega)).trans fa369
  have fa399 := (e19 (q + 20) (by omega)).trans fa370
  have fa400 := (e19 (q + 21) (by omega)).trans fa371
  have fa401 := (e19 (q + 22) (by omega)).trans fa372
  have fa402 := (e19 (q + 23) (by omega)).trans fa373
  have fa403 := (e19 (q + 24) (by omega)).trans fa374
  have fa404 := (e19 (q + 25) (by omega)).trans fa375
  have fa405 := (e19 (q + 26) (by omega)).trans fa376
  refine lv_dup hx hb d_Desk_init_96 rfl ?_
  refine cd_le (fun hle => ?_)
  have hz406 : H.size = ad (q + 28) := cd_sz hs hP hsz hle (by omega)
  refine va_callv (va_runI (As := []) (rest := [.ref (ad (q + 27)), .ref (ad q)]) ⟨hx, hb, hml, hown, hA⟩ (i_Mem l D tt ad A zs w19 (q + 27) hs (fun k hk => hAA k (Nat.le_trans (cd_adm hs (by omega)) hk)) fa378) (cwI 0 hA (cd_good aw_28) rfl rfl rfl (hA _ aw_2) (hA _ aw_26) (hA _ aw_27) rfl (by decide +kernel) ⟨Nat.le_of_ble_eq_true rfl, Nat.le_of_ble_eq_true rfl⟩) ⟨cd_blindN, fun U hU hW => ⟨rfl, cd_preN hK hP hZ hS hz406 hO U hU hW⟩⟩ rfl rfl hl.1 rfl (lv_room (Nat.le_of_ble_eq_true rfl)) d_Desk_init_97 ⟨Nat.le_of_ble_eq_true rfl, Nat.le_of_ble_eq_true rfl⟩) hS (fun _ _ h => h) (fun _ h => h) (fun w20 tE H locs ht hvm hp407 hPN hz1 hk1 hS => ?_)
  obtain ⟨fa409, fa410, fa411, fa412, fa413, fa414, fa415, fa416, fa417, fa418, fa419, fa420, fa421, fa422, e20⟩ := hp407
  have hP := cd_Pf ht hPN.1
  have fa409 : w20 (q + 27) = .inr (3, [.ref (ad (q + 28)), .int (0 : Int32)]) := fa409
  have fa410 : w20 (q + 28) = .inl (tt 3, 6, .inr (.inr (.inr (.inr (va_up (va_up (va_up (va_up (va_up (va_up (fun _ => none) (0 : Int32).toNatClampNeg (some (ad (q + 29)))) (1 : Int32).toNatClampNeg (some (ad (q + 31)))) (2 : Int32).toNatClampNeg (some (ad (q + 33)))) (3 : Int32).toNatClampNeg (some (ad (q + 35)))) (4 : Int32).toNatClampNeg (some (ad (q + 37)))) (5 : Int32).toNatClampNeg (some (ad (q + 39)))))))) := fa410
  have fa411 : w20 (q + 29) = .inr (1, [.ref (ad (q + 30)), .int (0 : Int32), .int (0 : Int32), .int (0 : Int32)]) := fa411
  have fa412 : w20 (q + 30) = .inl (tt 0, 1024, .inl (fun _ => 0)) := fa412
  have fa413 : w20 (q + 31) = .inr (1, [.ref (ad (q + 32)), .int (0 : Int32), .int (0 : Int32), .int (0 : Int32)]) := fa413
  have fa414 : w20 (q + 32) = .inl (tt 0, 1024, .inl (fun _ => 0)) := fa414
  have fa415 : w20 (q + 33) = .inr (1, [.ref (ad (q + 34)), .int (0 : Int32), .int (0 : Int32), .int (0 : Int32)]) := fa415
  have fa416 : w20 (q + 34) = .inl (tt 0, 1024, .inl (fun _ => 0)) := fa416
  have fa417 : w20 (q + 35) = .inr (1, [.ref (ad (q + 36)), .int (0 : Int32), .int (0 : Int32), .int (0 : Int32)]) := fa417
  have fa418 : w20 (q + 36) = .inl (tt 0, 1024, .inl (fun _ => 0)) := fa418
  have fa419 : w20 (q + 37) = .inr (1, [.ref (ad (q + 38)), .int (0 : Int32), .int (0 : Int32), .int (0 : Int32)]) := fa419
  have fa420 : w20 (q + 38) = .inl (tt 0, 1024, .inl (fun _ => 0)) := fa420
  have fa421 : w20 (q + 39) = .inr (1, [.ref (ad (q + 40)), .int (0 : Int32), .int (0 : Int32), .int (0 : Int32)]) := fa421
  have fa422 : w20 (q + 40) = .inl (tt 0, 1024, .inl (fun _ => 0)) := fa422
  have fa423 := (e20 q (by omega)).trans fa379
  have fa424 := (e20 (q + 1) (by omega)).trans fa380
  have fa425 := (e20 (q + 2) (by omega)).trans fa381
  have fa426 := (e20 (q + 3) (by omega)).trans fa382
  have fa427 := (e20 (q + 4) (by omega)).trans fa383
  have fa428 := (e20 (q + 5) (by omega)).trans fa384
  have fa429 := (e20 (q + 6) (by omega)).trans fa385
  have fa430 := (e20 (q + 7) (by omega)).trans fa386
  have fa431 := (e20 (q + 8) (by omega)).trans fa387
  have fa432 := (e20 (q + 9) (by omega)).trans fa388
  have fa433 := (e20 (q + 10) (by omega)).trans fa389
  have fa434 := (e20 (q + 11) (by omega)).trans fa390
  have fa435 := (e20 (q + 12) (by omega)).trans fa391
  have fa436 := (e20 (q + 13) (by omega)).trans fa392
  have fa437 := (e20 (q + 14) (by omega)).trans fa393
  have fa438 := (e20 (q + 15) (by omega)).trans fa394
  have fa439 := (e20 (q + 16) (by omega)).trans fa395
  have fa440 := (e20 (q + 17) (by omega)).trans fa396
  have fa441 := (e20 (q + 18) (by omega)).trans fa397
  have fa442 := (e20 (q + 19) (by omega)).trans fa398
  have fa443 := (e20 (q + 20) (by omega)).trans fa399
  have fa444 := (e20 (q + 21) (by omega)).trans fa400
  have fa445 := (e20 (q + 22) (by omega)).trans fa401
  have fa446 := (e20 (q + 23) (by omega)).trans fa402
  have fa447 := (e20 (q + 24) (by omega)).trans fa403
  have fa448 := (e20 (q + 25) (by omega)).trans fa404
  have fa449 := (e20 (q + 26) (by omega)).trans fa405
  refine g_putF (ci := 6) (C := R_Desk) (T := F_Desk) (Nf := 9) (v := .ref (ad (q + 27))) (ty := (.object "CoreDesk$Memory")) hx hb hA in_Desk t_Desk t_Desk_ok n_Desk hown hK hP hS (k := q) (by omega) fa423 rfl 6 (by decide) (hA _ aw_106) (fun _ h9 => h9) rfl hin rfl (by decide +kernel) rfl rfl (Nat.le_of_ble_eq_true rfl) d_Desk_init_100 (fun H locs w21 fa450 e21 hP hS => ?_)
  have fa450 : w21 q = .inr (6, [.ref (ad (q + 1)), .ref (ad (q + 15)), .ref (ad (q + 18)), .ref (ad (q + 20)), .ref (ad (q + 21)), .ref (ad (q + 23)), .ref (ad (q + 27)), .null, .int 0]) := fa450
  have fa451 := (e21 (q + 1) (by omega)).trans fa424
  have fa452 := (e21 (q + 2) (by omega)).trans fa425
  have fa453 := (e21 (q + 3) (by omega)).trans fa426
  have fa454 := (e21 (q + 4) (by omega)).trans fa427
  have fa455 := (e21 (q + 5) (by omega)).trans fa428
  have fa456 := (e21 (q + 6) (by omega)).trans fa429
  have fa457 := (e21 (q + 7) (by omega)).trans fa430
  have fa458 := (e21 (q + 8) (by omega)).trans fa431
  have fa459 := (e21 (q + 9) (by omega)).trans fa432
  have fa460 := (e21 (q + 10) (by omega)).trans fa433
  have fa461 := (e21 (q + 11) (by omega)).trans fa434
  have fa462 := (e21 (q + 12) (by omega)).trans fa435
  have fa463 := (e21 (q + 13) (by omega)).trans fa436
  have fa464 := (e21 (q + 14) (by omega)).trans fa437
  have fa465 := (e21 (q + 15) (by omega)).trans fa438
  have fa466 := (e21 (q + 16) (by omega)).trans fa439
  have fa467 := (e21 (q + 17) (by omega)).trans fa440
  have fa468 := (e21 (q + 18) (by omega)).trans fa441
  have fa469 := (e21 (q + 19) (by omega)).trans fa442
  have fa470 := (e21 (q + 20) (by omega)).trans fa443
  have fa471 := (e21 (q + 21) (by omega)).trans fa444
  have fa472 := (e21 (q + 22) (by omega)).trans fa445
  have fa473 := (e21 (q + 23) (by omega)).trans fa446
  have fa474 := (e21 (q + 24) (by omega)).trans fa447
  have fa475 := (e21 (q + 25) (by omega)).trans fa448
  have fa476 := (e21 (q + 26) (by omega)).trans fa449
  have fa477 := (e21 (q + 27) (by omega)).trans fa409
  have fa478 := (e21 (q + 28) (by omega)).trans fa410
  have fa479 := (e21 (q + 29) (by omega)).trans fa411
  have fa480 := (e21 (q + 30) (by omega)).trans fa412
  have fa481 := (e21 (q + 31) (by omega)).trans fa413
  have fa482 := (e21 (q + 32) (by omega)).trans fa414
  have fa483 := (e21 (q + 33) (by omega)).trans fa415
  have fa484 := (e21 (q + 34) (by omega)).trans fa416
  have fa485 := (e21 (q + 35) (by omega)).trans fa417
  have fa486 := (e21 (q + 36) (by omega)).trans fa418
  have fa487 := (e21 (q + 37) (by omega)).trans fa419
  have fa488 := (e21 (q + 38) (by omega)).trans fa420
  have fa489 := (e21 (q + 39) (by omega)).trans fa421
  have fa490 := (e21 (q + 40) (by omega)).trans fa422
  refine lv_aload_n hx hb d_Desk_init_103 rfl (lv_at hl 0 rfl) ?_
  refine cd_le (fun hle => ?_)
  have hz491 : H.size = ad (q + 41) := cd_sz hs hP hsz hle (by omega)
  refine g_new (ci := 2) (C := R_Tt) (T := F_Tt) (Nf := 3) (fs := [.null, .null, .int 0]) hx hb hA in_Tt t_Tt t_Tt_ok hown (hA _ aw_49) (hA _ aw_50) (hA _ aw_4) hK hP hS hz491 hs (hAA _ (cd_adm hs (by omega))) rfl (by decide) (Nat.le_of_ble_eq_true rfl) (Nat.le_of_ble_eq_true rfl) d_Desk_init_104 (fun H w22 fa492 e22 hP hS _ => ?_)
  have fa493 := (e22 q (by omega)).trans fa450
  have fa494 := (e22 (q + 1) (by omega)).trans fa451
  have fa495 := (e22 (q + 2) (by omega)).trans fa452
  have fa496 := (e22 (q + 3) (by omega)).trans fa453
  have fa497 := (e22 (q + 4) (by omega)).trans fa454
  have fa498 := (e22 (q + 5) (by omega)).trans fa455
  have fa499 := (e22 (q + 6) (by omega)).trans fa456
  have fa500 := (e22 (q + 7) (by omega)).trans fa457
  have fa501 := (e22 (q + 8) (by omega)).trans fa458
  have fa502 := (e22 (q + 9) (by omega)).trans fa459
  have fa503 := (e22 (q + 10) (by omega)).trans fa460
  have fa504 := (e22 (q + 11) (by omega)).trans fa461
  have fa505 := (e22 (q + 12) (by omega)).trans fa462
  have fa506 := (e22 (q + 13) (by omega)).trans fa463
  have fa507 := (e22 (q + 14) (by omega)).trans fa464
  have fa508 := (e22 (q + 15) (by omega)).trans fa465
  have fa509 := (e22 (q + 16) (by omega)).trans fa466
  have fa510 := (e22 (q + 17) (by omega)).trans fa467
  have fa511 := (e22 (q + 18) (by omega)).trans fa468
  have fa512 := (e22 (q + 19) (by omega)).trans fa469
  have fa513 := (e22 (q + 20) (by omega)).trans fa470
  have fa514 := (e22 (q + 21) (by omega)).trans fa471
  have fa515 := (e22 (q + 22) (by omega)).trans fa472
  have fa516 := (e22 (q + 23) (by omega)).trans fa473
  have fa517 := (e22 (q + 24) (by omega)).trans fa474
  have fa518 := (e22 (q + 25) (by omega)).trans fa475
  have fa519 := (e22 (q + 26) (by omega)).trans fa476
  have fa520 := (e22 (q + 27) (by omega)).trans fa477
  have fa521 := (e22 (q + 28) (by omega)).trans fa478
  have fa522 := (e22 (q + 29) (by omega)).trans fa479
  have fa523 := (e22 (q + 30) (by omega)).trans fa480
  have fa524 := (e22 (q + 31) (by omega)).trans fa481
  have fa525 := (e22 (q + 32) (by omega)).trans fa482
  have fa526 := (e22 (q + 33) (by omega)).trans fa483
  have fa527 := (e22 (q + 34) (by omega)).trans fa484
  have fa528 := (e22 (q + 35) (by omega)).trans fa485
  have fa529 := (e22 (q + 36) (by omega)).trans fa486
  have fa530 := (e22 (q + 37) (by omega)).trans fa487
  have fa531 := (e22 (q + 38) (by omega)).trans fa488
  have fa532 := (e22 (q + 39) (by omega)).trans fa489
  have fa533 := (e22 (q + 40) (by omega)).trans fa490
  refine lv_dup hx hb d_Desk_init_107 rfl ?_
  refine cd_le (fun hle => ?_)
  have hz534 : H.size = ad (q + 42) := cd_sz hs hP hsz hle (by omega)
  refine va_callv (va_runI (As := []) (rest := [.ref (ad (q + 41)), .ref (ad q)]) ⟨hx, hb, hml, hown, hA⟩ (i_Tt l D tt ad A zs w22 (q + 41) hs (fun k hk => hAA k (Nat.le_trans (cd_adm hs (by omega)) hk)) fa492) (cwI 0 hA (cd_good aw_53) rfl rfl rfl (hA _ aw_4) (hA _ aw_51) (hA _ aw_52) rfl (by decide +kernel) ⟨Nat.le_of_ble_eq_true rfl, Nat.le_of_ble_eq_true rfl⟩) ⟨cd_blindN, fun U hU hW => ⟨rfl, cd_preN hK hP hZ hS hz534 hO U hU hW⟩⟩ rfl rfl hl.1 rfl (lv_room (Nat.le_of_ble_eq_true rfl)) d_Desk_init_108 ⟨Nat.le_of_ble_eq_true rfl, Nat.le_of_ble_eq_true rfl⟩) hS (fun _ _ h => h) (fun _ h => h) (fun w23 tE H locs ht hvm hp535 hPN hz1 hk1 hS => ?_)
  obtain ⟨fa537, fa538, fa539, e23⟩ := hp535
  have hP := cd_Pf ht hPN.1
  have fa537 : w23 (q + 41) = .inr (2, [.ref (ad (q + 42)), .ref (ad (q + 43)), .int (0 : Int32)]) := fa537
  have fa538 : w23 (q + 42) = .inl (tt 1, 3, .inl (fun _ => 0)) := fa538
  have fa539 : w23 (q + 43) = .inl (tt 1, 24, .inl (fun _ => 0)) := fa539
  have fa540 := (e23 q (by omega)).trans fa493
  have fa541 := (e23 (q + 1) (by omega)).trans fa494
  have fa542 := (e23 (q + 2) (by omega)).trans fa495
  have fa543 := (e23 (q + 3) (by omega)).trans fa496
  have fa544 := (e23 (q + 4) (by omega)).trans fa497
  have fa545 := (e23 (q + 5) (by omega)).trans fa498
  have fa546 := (e23 (q + 6) (by omega)).trans fa499
  have fa547 := (e23 (q + 7) (by omega)).trans fa500
  have fa548 := (e23 (q + 8) (by omega)).trans fa501
  have fa549 := (e23 (q + 9) (by omega)).trans fa502
  have fa550 := (e23 (q + 10) (by omega)).trans fa503
  have fa551 := (e23 (q + 11) (by omega)).trans fa504
  have fa552 := (e23 (q + 12) (by omega)).trans fa505
  have fa553 := (e23 (q + 13) (by omega)).trans fa506
  have fa554 := (e23 (q + 14) (by omega)).trans fa507
  have fa555 := (e23 (q + 15) (by omega)).trans fa508
  have fa556 := (e23 (q + 16) (by omega)).trans fa509
  have fa557 := (e23 (q + 17) (by omega)).trans fa510
  have fa558 := (e23 (q + 18) (by omega)).trans fa511
  have fa559 := (e23 (q + 19) (by omega)).trans fa512
  have fa560 := (e23 (q + 20) (by omega)).trans fa513
  have fa561 := (e23 (q + 21) (by omega)).trans fa514
  have fa562 := (e23 (q + 22) (by omega)).trans fa515
  have fa563 := (e23 (q + 23) (by omega)).trans fa516
  have fa564 := (e23 (q + 24) (by omega)).trans fa517
  have fa565 := (e23 (q + 25) (by omega)).trans fa518
  have fa566 := (e23 (q + 26) (by omega)).trans fa519
  have fa567 := (e23 (q + 27) (by omega)).trans fa520
  have fa568 := (e23 (q + 28) (by omega)).trans fa521
  have fa569 := (e23 (q + 29) (by omega)).trans fa522
  have fa570 := (e23 (q + 30) (by omega)).trans fa523
  have fa571 := (e23 (q + 31) (by omega)).trans fa524
  have fa572 := (e23 (q + 32) (by omega)).trans fa525
  have fa573 := (e23 (q + 33) (by omega)).trans fa526
  have fa574 := (e23 (q + 34) (by omega)).trans fa527
  have fa575 := (e23 (q + 35) (by omega)).trans fa528
  have fa576 := (e23 (q + 36) (by omega)).trans fa529
  have fa577 := (e23 (q + 37) (by omega)).trans fa530
  have fa578 := (e23 (q + 38) (by omega)).trans fa531
  have fa579 := (e23 (q + 39) (by omega)).trans fa532
  have fa580 := (e23 (q + 40) (by omega)).trans fa533
  refine g_putF (ci := 6) (C := R_Desk) (T := F_Desk) (Nf := 9) (v := .ref (ad (q + 41))) (ty := (.object "CoreDesk$ThreadTable")) hx hb hA in_Desk t_Desk t_Desk_ok n_Desk hown hK hP hS (k := q) (by omega) fa540 rfl 7 (by decide) (hA _ aw_107) (fun _ h9 => h9) rfl hin rfl (by decide +kernel) rfl rfl (Nat.le_of_ble_eq_true rfl) d_Desk_init_111 (fun H locs w24 fa581 e24 hP hS => ?_)
  have fa581 : w24 q = .inr (6, [.ref (ad (q + 1)), .ref (ad (q + 15)), .ref (ad (q + 18)), .ref (ad (q + 20)), .ref (ad (q + 21)), .ref (ad (q + 23)), .ref (ad (q + 27)), .ref (ad (q + 41)), .int 0]) := fa581
  have fa582 := (e24 (q + 1) (by omega)).trans fa541
  have fa583 := (e24 (q + 2) (by omega)).trans fa542
  have fa584 := (e24 (q + 3) (by omega)).trans fa543
  have fa585 := (e24 (q + 4) (by omega)).trans fa544
  have fa586 := (e24 (q + 5) (by omega)).trans fa545
  have fa587 := (e24 (q + 6) (by omega)).trans fa546
  have fa588 := (e24 (q + 7) (by omega)).trans fa547
  have fa589 := (e24 (q + 8) (by omega)).trans fa548
  have fa590 := (e24 (q + 9) (by omega)).trans fa549
  have fa591 := (e24 (q + 10) (by omega)).trans fa550
  have fa592 := (e24 (q + 11) (by omega)).trans fa551
  have fa593 := (e24 (q + 12) (by omega)).trans fa552
  have fa594 := (e24 (q + 13) (by omega)).trans fa553
  have fa595 := (e24 (q + 14) (by omega)).trans fa554
  have fa596 := (e24 (q + 15) (by omega)).trans fa555
  have fa597 := (e24 (q + 16) (by omega)).trans fa556
  have fa598 := (e24 (q + 17) (by omega)).trans fa557
  have fa599 := (e24 (q + 18) (by omega)).trans fa558
  have fa600 := (e24 (q + 19) (by omega)).trans fa559
  have fa601 := (e24 (q + 20) (by omega)).trans fa560
  have fa602 := (e24 (q + 21) (by omega)).trans fa561
  have fa603 := (e24 (q + 22) (by omega)).trans fa562
  have fa604 := (e24 (q + 23) (by omega)).trans fa563
  have fa605 := (e24 (q + 24) (by omega)).trans fa564
  have fa606 := (e24 (q + 25) (by omega)).trans fa565
  have fa607 := (e24 (q + 26) (by omega)).trans fa566
  have fa608 := (e24 (q + 27) (by omega)).trans fa567
  have fa609 := (e24 (q + 28) (by omega)).trans fa568
  have fa610 := (e24 (q + 29) (by omega)).trans fa569
  have fa611 := (e24 (q + 30) (by omega)).trans fa570
  have fa612 := (e24 (q + 31) (by omega)).trans fa571
  have fa613 := (e24 (q + 32) (by omega)).trans fa572
  have fa614 := (e24 (q + 33) (by omega)).trans fa573
  have fa615 := (e24 (q + 34) (by omega)).trans fa574
  have fa616 := (e24 (q + 35) (by omega)).trans fa575
  have fa617 := (e24 (q + 36) (by omega)).trans fa576
  have fa618 := (e24 (q + 37) (by omega)).trans fa577
  have fa619 := (e24 (q + 38) (by omega)).trans fa578
  have fa620 := (e24 (q + 39) (by omega)).trans fa579
  have fa621 := (e24 (q + 40) (by omega)).trans fa580
  have fa622 := (e24 (q + 41) (by omega)).trans fa537
  have fa623 := (e24 (q + 42) (by omega)).trans fa538
  have fa624 := (e24 (q + 43) (by omega)).trans fa539
  refine lv_aload_n hx hb d_Desk_init_114 rfl (lv_at hl 0 rfl) ?_
  refine lv_iconst (v := (0 : Int32)) hx hb d_Desk_init_115 (by decide) ?_
  refine g_put (ci := 6) (C := R_Desk) (T := F_Desk) (Nf := 9) (v := .int (0 : Int32)) (ty := .boolean) hx hb hA in_Desk t_Desk t_Desk_ok n_Desk hown hK hP hS (k := q) (by omega) fa581 rfl 8 (by decide) (hA _ aw_108) (fun _ h9 => h9) rfl (by decide +kernel) rfl rfl (Nat.le_of_ble_eq_true rfl) d_Desk_init_116 (fun H locs w25 fa625 e25 hP hS => ?_)
  have fa625 : w25 q = .inr (6, [.ref (ad (q + 1)), .ref (ad (q + 15)), .ref (ad (q + 18)), .ref (ad (q + 20)), .ref (ad (q + 21)), .ref (ad (q + 23)), .ref (ad (q + 27)), .ref (ad (q + 41)), .int (0 : Int32)]) := fa625
  have fa626 := (e25 (q + 1) (by omega)).trans fa582
  have fa627 := (e25 (q + 2) (by omega)).trans fa583
  have fa628 := (e25 (q + 3) (by omega)).trans fa584
  have fa629 := (e25 (q + 4) (by omega)).trans fa585
  have fa630 := (e25 (q + 5) (by omega)).trans fa586
  have fa631 := (e25 (q + 6) (by omega)).trans fa587
  have fa632 := (e25 (q + 7) (by omega)).trans fa588
  have fa633 := (e25 (q + 8) (by omega)).trans fa589
  have fa634 := (e25 (q + 9) (by omega)).trans fa590
  have fa635 := (e25 (q + 10) (by omega)).trans fa591
  have fa636 := (e25 (q + 11) (by omega)).trans fa592
  have fa637 := (e25 (q + 12) (by omega)).trans fa593
  have fa638 := (e25 (q + 13) (by omega)).trans fa594
  have fa639 := (e25 (q + 14) (by omega)).trans fa595
  have fa640 := (e25 (q + 15) (by omega)).trans fa596
  have fa641 := (e25 (q + 16) (by omega)).trans fa597
  have fa642 := (e25 (q + 17) (by omega)).trans fa598
  have fa643 := (e25 (q + 18) (by omega)).trans fa599
  have fa644 := (e25 (q + 19) (by omega)).trans fa600
  have fa645 := (e25 (q + 20) (by omega)).trans fa601
  have fa646 := (e25 (q + 21) (by omega)).trans fa602
  have fa647 := (e25 (q + 22) (by omega)).trans fa603
  have fa648 := (e25 (q + 23) (by omega)).trans fa604
  have fa649 := (e25 (q + 24) (by omega)).trans fa605
  have fa650 := (e25 (q + 25) (by omega)).trans fa606
  have fa651 := (e25 (q + 26) (by omega)).trans fa607
  have fa652 := (e25 (q + 27) (by omega)).trans fa608
  have fa653 := (e25 (q + 28) (by omega)).trans fa609
  have fa654 := (e25 (q + 29) (by omega)).trans fa610
  have fa655 := (e25 (q + 30) (by omega)).trans fa611
  have fa656 := (e25 (q + 31) (by omega)).trans fa612
  have fa657 := (e25 (q + 32) (by omega)).trans fa613
  have fa658 := (e25 (q + 33) (by omega)).trans fa614
  have fa659 := (e25 (q + 34) (by omega)).trans fa615
  have fa660 := (e25 (q + 35) (by omega)).trans fa616
  have fa661 := (e25 (q + 36) (by omega)).trans fa617
  have fa662 := (e25 (q + 37) (by omega)).trans fa618
  have fa663 := (e25 (q + 38) (by omega)).trans fa619
  have fa664 := (e25 (q + 39) (by omega)).trans fa620
  have fa665 := (e25 (q + 40) (by omega)).trans fa621
  have fa666 := (e25 (q + 41) (by omega)).trans fa622
  have fa667 := (e25 (q + 42) (by omega)).trans fa623
  have fa668 := (e25 (q + 43) (by omega)).trans fa624
  refine cd_le (fun hle => ?_)
  have hz669 : H.size = ad (q + 44) := cd_sz hs hP hsz hle (by omega)
  exact W.vret hx hb hr (fun tE ht _ => ⟨⟨w25, rfl, ⟨fa625, fa626, fa627, fa628, fa629, fa630, fa631, fa632, fa633, fa634, fa635, fa636, fa637, fa638, fa639, fa640, fa641, fa642, fa643, fa644, fa645, fa646, fa647, fa648, fa649, fa650, fa651, fa652, fa653, fa654, fa655, fa656, fa657, fa658, fa659, fa660, fa661, fa662, fa663, fa664, fa665, fa666, fa667, fa668, fun k hk => ((e25 k (by omega)).trans ((e24 k (by omega)).trans ((e23 k (by omega)).trans ((e22 k (by omega)).trans ((e21 k (by omega)).trans ((e20 k (by omega)).trans ((e19 k (by omega)).trans ((e18 k (by omega)).trans ((e17 k (by omega)).trans ((e16 k (by omega)).trans ((e15 k (by omega)).trans ((e14 k (by omega)).trans ((e13 k (by omega)).trans ((e12 k (by omega)).trans ((e11 k (by omega)).trans ((e10 k (by omega)).trans ((e9 k (by omega)).trans ((e8 k (by omega)).trans ((e7 k (by omega)).trans ((e6 k (by omega)).trans ((e5 k (by omega)).trans ((e4 k (by omega)).trans ((e3 k (by omega)).trans ((e2 k (by omega)).trans (e1 k (by omega))))))))))))))))))))))))))⟩, ⟨cd_Pt ht hP, by rw [ht]; exact hz669⟩⟩, hS.F ht⟩) hS.2.2 d_Desk_init_119
