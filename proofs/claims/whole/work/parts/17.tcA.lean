def f_Tc_wrong (u : cd_Tc) : Int32 := u.1
set_option maxHeartbeats 4000000 in
set_option maxRecDepth 100000 in
theorem c_Tc_wrong (l : Launch) (D : va_G) (tt : Nat → ClassId) (ad : Nat → Nat) (N : Nat) (A : Nat → Prop) (zs : Nat → Nat) (w0 : Nat → va_E) (q qp : Nat) (u : cd_Tc) (hR0 : cd_TcAt N tt ad w0 q qp u) : Met l y_Tc_wrong w_Tc_wrong ({ frames := 0, cells := 0, slots := 0, locals := 0 }) (va_Pc [.ref (ad q)] (cd_U D tt ad N A zs w0)) (va_Qi (fun r w' => (f_Tc_wrong u) = r ∧ w0 = w') (fun w' t => cd_P D ad N A w' t.heap) A) 0 0 A := by
  refine Met.ofW (cc := b_Tc_wrong) (maxL := 1) (ret := (some .int)) (by decide) rfl ?_
  intro p e s m args below meth c s₁ B hml hv
  obtain ⟨rfl, hP, hK, hZ⟩ := hv
  have hx := B.exec
  have hb := B.bytes
  have hr := B.returns
  have hA : ∀ w ∈ cd_AW, w.before _ s = true := fun w h => atoms_spec (ws := w_Tc_wrong) B.pre w (List.mem_cons_of_mem _ h)
  have hown : s.vm.findClass R_Tc = some m.cls := findClass_of_methodNamed B.named
  have hlocks := B.notSynchronized
  have hS : va_S A s.heap s.heap [] := va_S.rf
  have hl := lv_entry ([.ref (ad q)]) (n := 1) (Nat.le_of_ble_eq_true rfl)
  rw [lg_entry_eq]
  generalize (lg_sl ([.ref (ad q)]) ++ List.replicate (1 - (lg_sl ([.ref (ad q)])).length) Slot.unset).toArray = ls at hl ⊢
  have hl : lv_has ls 1 [(0, .ref (ad q))] := hl
  obtain ⟨hn1, fa2⟩ := hR0
  refine lv_aload_n hx hb d_Tc_wrong_0 rfl (lv_at hl 0 rfl) ?_
  refine g_get (ci := 5) (C := R_Tc) (T := F_Tc) (Nf := 4) (v := .int u.1) hx hb hA in_Tc hown hK hP (k := q) (by omega) fa2 rfl 2 (by decide) (hA _ aw_94) (fun _ h9 => h9) rfl d_Tc_wrong_1 ?_
  have hf3 : (f_Tc_wrong u) = u.1 := by rw [f_Tc_wrong]
  exact W.iret (v := u.1) hx hb hr (fun tE ht _ => ⟨⟨_, w0, rfl, ⟨hf3, rfl⟩, cd_Pt ht hP⟩, hS.F ht⟩) hS.2.2 d_Tc_wrong_4
def f_Tc_place (u : cd_Tc) : Int32 := u.2
set_option maxHeartbeats 4000000 in
set_option maxRecDepth 100000 in
theorem c_Tc_place (l : Launch) (D : va_G) (tt : Nat → ClassId) (ad : Nat → Nat) (N : Nat) (A : Nat → Prop) (zs : Nat → Nat) (w0 : Nat → va_E) (q qp : Nat) (u : cd_Tc) (hR0 : cd_TcAt N tt ad w0 q qp u) : Met l y_Tc_place w_Tc_place ({ frames := 0, cells := 0, slots := 0, locals := 0 }) (va_Pc [.ref (ad q)] (cd_U D tt ad N A zs w0)) (va_Qi (fun r w' => (f_Tc_place u) = r ∧ w0 = w') (fun w' t => cd_P D ad N A w' t.heap) A) 0 0 A := by
  refine Met.ofW (cc := b_Tc_place) (maxL := 1) (ret := (some .int)) (by decide) rfl ?_
  intro p e s m args below meth c s₁ B hml hv
  obtain ⟨rfl, hP, hK, hZ⟩ := hv
  have hx := B.exec
  have hb := B.bytes
  have hr := B.returns
  have hA : ∀ w ∈ cd_AW, w.before _ s = true := fun w h => atoms_spec (ws := w_Tc_place) B.pre w (List.mem_cons_of_mem _ h)
  have hown : s.vm.findClass R_Tc = some m.cls := findClass_of_methodNamed B.named
  have hlocks := B.notSynchronized
  have hS : va_S A s.heap s.heap [] := va_S.rf
  have hl := lv_entry ([.ref (ad q)]) (n := 1) (Nat.le_of_ble_eq_true rfl)
  rw [lg_entry_eq]
  generalize (lg_sl ([.ref (ad q)]) ++ List.replicate (1 - (lg_sl ([.ref (ad q)])).length) Slot.unset).toArray = ls at hl ⊢
  have hl : lv_has ls 1 [(0, .ref (ad q))] := hl
  obtain ⟨hn1, fa2⟩ := hR0
  refine lv_aload_n hx hb d_Tc_place_0 rfl (lv_at hl 0 rfl) ?_
  refine g_get (ci := 5) (C := R_Tc) (T := F_Tc) (Nf := 4) (v := .int u.2) hx hb hA in_Tc hown hK hP (k := q) (by omega) fa2 rfl 3 (by decide) (hA _ aw_95) (fun _ h9 => h9) rfl d_Tc_place_1 ?_
  have hf3 : (f_Tc_place u) = u.2 := by rw [f_Tc_place]
  exact W.iret (v := u.2) hx hb hr (fun tE ht _ => ⟨⟨_, w0, rfl, ⟨hf3, rfl⟩, cd_Pt ht hP⟩, hS.F ht⟩) hS.2.2 d_Tc_place_4
def f_Tc_threadsFound (u : cd_Tc) : Unit := ()
set_option maxHeartbeats 4000000 in
set_option maxRecDepth 100000 in
theorem c_Tc_threadsFound (l : Launch) (D : va_G) (tt : Nat → ClassId) (ad : Nat → Nat) (N : Nat) (A : Nat → Prop) (zs : Nat → Nat) (w0 : Nat → va_E) (q qp : Nat) (u : cd_Tc) (hR0 : cd_TcAt N tt ad w0 q qp u) : Met l y_Tc_threadsFound w_Tc_threadsFound ({ frames := 0, cells := 0, slots := 0, locals := 0 }) (va_Pc [.ref (ad q)] (cd_U D tt ad N A zs w0)) (va_Qq (fun r w' => some (ad (q + 1)) = r ∧ w0 = w') (fun w' t => cd_P D ad N A w' t.heap) A) 0 0 A := by
  refine Met.ofW (cc := b_Tc_threadsFound) (maxL := 1) (ret := (some (.object "CoreDesk$ThreadTable"))) (by decide) rfl ?_
  intro p e s m args below meth c s₁ B hml hv
  obtain ⟨rfl, hP, hK, hZ⟩ := hv
  have hx := B.exec
  have hb := B.bytes
  have hr := B.returns
  have hA : ∀ w ∈ cd_AW, w.before _ s = true := fun w h => atoms_spec (ws := w_Tc_threadsFound) B.pre w (List.mem_cons_of_mem _ h)
  have hown : s.vm.findClass R_Tc = some m.cls := findClass_of_methodNamed B.named
  have hlocks := B.notSynchronized
  have hS : va_S A s.heap s.heap [] := va_S.rf
  have hl := lv_entry ([.ref (ad q)]) (n := 1) (Nat.le_of_ble_eq_true rfl)
  rw [lg_entry_eq]
  generalize (lg_sl ([.ref (ad q)]) ++ List.replicate (1 - (lg_sl ([.ref (ad q)])).length) Slot.unset).toArray = ls at hl ⊢
  have hl : lv_has ls 1 [(0, .ref (ad q))] := hl
  obtain ⟨hn1, fa2⟩ := hR0
  refine lv_aload_n hx hb d_Tc_threadsFound_0 rfl (lv_at hl 0 rfl) ?_
  refine g_get (ci := 5) (C := R_Tc) (T := F_Tc) (Nf := 4) (v := .ref (ad (q + 1))) hx hb hA in_Tc hown hK hP (k := q) (by omega) fa2 rfl 1 (by decide) (hA _ aw_93) (fun _ h9 => h9) rfl d_Tc_threadsFound_1 ?_
  exact W.aret (v := .ref (ad (q + 1))) hx hb hr (Or.inl ⟨_, rfl⟩) (Or.inr ⟨_, rfl⟩) (fun tE ht _ => ⟨⟨some (ad (q + 1)), w0, rfl, ⟨rfl, rfl⟩, cd_Pt ht hP⟩, hS.F ht⟩) hS.2.2 d_Tc_threadsFound_4
def f_Tc_entries (u : cd_Tc) (np : Nat) (up : cd_Row) : Int32 := (f_Row_number np up (44 : Int32) (2 : Int32))
def o_Tc_entries (u : cd_Tc) (np : Nat) (up : cd_Row) : Prop := (o_Row_number np up (44 : Int32) (2 : Int32))
set_option maxHeartbeats 4000000 in
set_option maxRecDepth 100000 in
theorem c_Tc_entries (l : Launch) (D : va_G) (tt : Nat → ClassId) (ad : Nat → Nat) (N : Nat) (A : Nat → Prop) (zs : Nat → Nat) (w0 : Nat → va_E) (q qp : Nat) (u : cd_Tc) (np : Nat) (up : cd_Row) (hR0 : cd_TcAt N tt ad w0 q qp u) (hR1 : cd_RowAt N tt ad w0 qp np up) (ho : o_Tc_entries u np up) : Met l y_Tc_entries w_Tc_entries ({ frames := 1, cells := 0, slots := 0, locals := 24 }) (va_Pc [.ref (ad q)] (cd_U D tt ad N A zs w0)) (va_Qi (fun r w' => (f_Tc_entries u np up) = r ∧ w0 = w') (fun w' t => cd_P D ad N A w' t.heap) A) 0 0 A := by
  refine Met.ofW (cc := b_Tc_entries) (maxL := 1) (ret := (some .int)) (by decide) rfl ?_
  intro p e s m args below meth c s₁ B hml hv
  obtain ⟨rfl, hP, hK, hZ⟩ := hv
  have hx := B.exec
  have hb := B.bytes
  have hr := B.returns
  have hA : ∀ w ∈ cd_AW, w.before _ s = true := fun w h => atoms_spec (ws := w_Tc_entries) B.pre w (List.mem_cons_of_mem _ h)
  have hown : s.vm.findClass R_Tc = some m.cls := findClass_of_methodNamed B.named
  have hlocks := B.notSynchronized
  have hS : va_S A s.heap s.heap [] := va_S.rf
  have hl := lv_entry ([.ref (ad q)]) (n := 1) (Nat.le_of_ble_eq_true rfl)
  rw [lg_entry_eq]
  generalize (lg_sl ([.ref (ad q)]) ++ List.replicate (1 - (lg_sl ([.ref (ad q)])).length) Slot.unset).toArray = ls at hl ⊢
  have hl : lv_has ls 1 [(0, .ref (ad q))] := hl
  have ho : (o_Row_number np up (44 : Int32) (2 : Int32)) := ho
  obtain ⟨hn1, fa2⟩ := hR0
  refine lv_aload_n hx hb d_Tc_entries_0 rfl (lv_at hl 0 rfl) ?_
  refine g_get (ci := 5) (C := R_Tc) (T := F_Tc) (Nf := 4) (v := .ref (ad qp)) hx hb hA in_Tc hown hK hP (k := q) (by omega) fa2 rfl 0 (by decide) (hA _ aw_92) (fun _ h9 => h9) rfl d_Tc_entries_1 ?_
  refine lv_bipush (v := (44 : Int32)) hx hb d_Tc_entries_4 (by decide) ?_
  refine lv_iconst (v := (2 : Int32)) hx hb d_Tc_entries_6 (by decide) ?_
  obtain ⟨hn3, fa4, fa5⟩ := hR1
  refine va_calli (va_runV (As := [.int (44 : Int32), .int (2 : Int32)]) (rest := []) ⟨hx, hb, hml, hown, hA⟩ (c_Row_number l D tt ad N A zs w0 qp np up (44 : Int32) (2 : Int32) (⟨hn3, fa4, fa5⟩) (ho)) (cwV 2 hA (cd_gV aw_409 aw_410 aw_411 aw_5 aw_412) rfl rfl rfl ⟨rfl, by decide, by decide, by decide +kernel⟩ ⟨Nat.le_of_ble_eq_true rfl, Nat.le_of_ble_eq_true rfl⟩) ⟨cd_blind, cd_recv hK hP (k := qp) (by omega) fa4 rfl, fun U hU hW => ⟨rfl, cd_pre hK hP hZ hS U hU hW⟩⟩ rfl rfl hl.1 rfl (lv_room (Nat.le_of_ble_eq_true rfl)) d_Tc_entries_7 ⟨Nat.zero_le _, Nat.zero_le _⟩) hS (fun _ _ h => h) (fun _ h => h) (fun r6 w1 tE H locs ht hvm hr7 hP hz1 hk1 hS => ?_)
  have hP := cd_Pf ht hP
  obtain ⟨rfl, rfl⟩ := hr7
  have hf9 : (f_Tc_entries u np up) = (f_Row_number np up (44 : Int32) (2 : Int32)) := by rw [f_Tc_entries]
  exact W.iret (v := (f_Row_number np up (44 : Int32) (2 : Int32))) hx hb hr (fun tE ht _ => ⟨⟨_, w0, rfl, ⟨hf9, rfl⟩, cd_Pt ht hP⟩, hS.F ht⟩) hS.2.2 d_Tc_entries_10
def f_Tc_fieldPlace (u : cd_Tc) (k : Int32) (x : Int32) : Int32 := (((52 : Int32) + (k * (32 : Int32))) + ((4 : Int32) * x))
set_option maxHeartbeats 4000000 in
set_option maxRecDepth 100000 in
theorem c_Tc_fieldPlace (l : Launch) (D : va_G) (tt : Nat → ClassId) (ad : Nat → Nat) (N : Nat) (A : Nat → Prop) (zs : Nat → Nat) (w0 : Nat → va_E) (q qp : Nat) (u : cd_Tc) (k : Int32) (x : Int32) (hR0 : cd_TcAt N tt ad w0 q qp u) : Met l y_Tc_fieldPlace w_Tc_fieldPlace ({ frames := 0, cells := 0, slots := 0, locals := 0 }) (va_Pc [.ref (ad q), .int k, .int x] (cd_U D tt ad N A zs w0)) (va_Qi (fun r w' => (f_Tc_fieldPlace u k x) = r ∧ w0 = w') (fun w' t => cd_P D ad N A w' t.heap) A) 0 0 A := by
  refine Met.ofW (cc := b_Tc_fieldPlace) (maxL := 3) (ret := (some .int)) (by decide) rfl ?_
  intro p e s m args below meth c s₁ B hml hv
  obtain ⟨rfl, hP, hK, hZ⟩ := hv
  have hx := B.exec
  have hb := B.bytes
  have hr := B.returns
  have hA : ∀ w ∈ cd_AW, w.before _ s = true := fun w h => atoms_spec (ws := w_Tc_fieldPlace) B.pre w (List.mem_cons_of_mem _ h)
  have hown : s.vm.findClass R_Tc = some m.cls := findClass_of_methodNamed B.named
  have hlocks := B.notSynchronized
  have hS : va_S A s.heap s.heap [] := va_S.rf
  have hl := lv_entry ([.ref (ad q), .int k, .int x]) (n := 3) (Nat.le_of_ble_eq_true rfl)
  rw [lg_entry_eq]
  generalize (lg_sl ([.ref (ad q), .int k, .int x]) ++ List.replicate (3 - (lg_sl ([.ref (ad q), .int k, .int x])).length) Slot.unset).toArray = ls at hl ⊢
  have hl : lv_has ls 3 [(0, .ref (ad q)), (1, .int k), (2, .int x)] := hl
  obtain ⟨hn1, fa2⟩ := hR0
  refine lv_bipush (v := (52 : Int32)) hx hb d_Tc_fieldPlace_0 (by decide) ?_
  refine lv_iload_n hx hb d_Tc_fieldPlace_2 rfl (lv_at hl 1 rfl) ?_
  refine lv_bipush (v := (32 : Int32)) hx hb d_Tc_fieldPlace_3 (by decide) ?_
  refine lv_imul hx hb d_Tc_fieldPlace_5 ?_
  refine lv_iadd hx hb d_Tc_fieldPlace_6 ?_
  refine lv_iconst (v := (4 : Int32)) hx hb d_Tc_fieldPlace_7 (by decide) ?_
  refine lv_iload_n hx hb d_Tc_fieldPlace_8 rfl (lv_at hl 2 rfl) ?_
  refine lv_imul hx hb d_Tc_fieldPlace_9 ?_
  refine lv_iadd hx hb d_Tc_fieldPlace_10 ?_
  have hf3 : (f_Tc_fieldPlace u k x) = (((52 : Int32) + (k * (32 : Int32))) + ((4 : Int32) * x)) := by rw [f_Tc_fieldPlace]
  exact W.iret (v := (((52 : Int32) + (k * (32 : Int32))) + ((4 : Int32) * x))) hx hb hr (fun tE ht _ => ⟨⟨_, w0, rfl, ⟨hf3, rfl⟩, cd_Pt ht hP⟩, hS.F ht⟩) hS.2.2 d_Tc_fieldPlace_11
def f_Tc_entryField (u : cd_Tc) (np : Nat) (up : cd_Row) (k : Int32) (x : Int32) : Int32 := (f_Row_number np up (f_Tc_fieldPlace u k x) (4 : Int32))
def o_Tc_entryField (u : cd_Tc) (np : Nat) (up : cd_Row) (k : Int32) (x : Int32) : Prop := (o_Row_number np up (f_Tc_fieldPlace u k x) (4 : Int32))
set_option maxHeartbeats 4000000 in
set_option maxRecDepth 100000 in
theorem c_Tc_entryField (l : Launch) (D : va_G) (tt : Nat → ClassId) (ad : Nat → Nat) (N : Nat) (A : Nat → Prop) (zs : Nat → Nat) (w0 : Nat → va_E) (q qp : Nat) (u : cd_Tc) (np : Nat) (up : cd_Row) (k : Int32) (x : Int32) (hR0 : cd_TcAt N tt ad w0 q qp u) (hR1 : cd_RowAt N tt ad w0 qp np up) (ho : o_Tc_entryField u np up k x) : Met l y_Tc_entryField w_Tc_entryField ({ frames := 1, cells := 0, slots := 0, locals := 24 }) (va_Pc [.ref (ad q), .int k, .int x] (cd_U D tt ad N A zs w0)) (va_Qi (fun r w' => (f_Tc_entryField u np up k x) = r ∧ w0 = w') (fun w' t => cd_P D ad N A w' t.heap) A) 0 0 A := by
  refine Met.ofW (cc := b_Tc_entryField) (maxL := 3) (ret := (some .int)) (by decide) rfl ?_
  intro p e s m args below meth c s₁ B hml hv
  obtain ⟨rfl, hP, hK, hZ⟩ := hv
  have hx := B.exec
  have hb := B.bytes
  have hr := B.returns
  have hA : ∀ w ∈ cd_AW, w.before _ s = true := fun w h => atoms_spec (ws := w_Tc_entryField) B.pre w (List.mem_cons_of_mem _ h)
  have hown : s.vm.findClass R_Tc = some m.cls := findClass_of_methodNamed B.named
  have hlocks := B.notSynchronized
  have hS : va_S A s.heap s.heap [] := va_S.rf
  have hl := lv_entry ([.ref (ad q), .int k, .int x]) (n := 3) (Nat.le_of_ble_eq_true rfl)
  rw [lg_entry_eq]
  generalize (lg_sl ([.ref (ad q), .int k, .int x]) ++ List.replicate (3 - (lg_sl ([.ref (ad q), .int k, .int x])).length) Slot.unset).toArray = ls at hl ⊢
  have hl : lv_has ls 3 [(0, .ref (ad q)), (1, .int k), (2, .int x)] := hl
  have ho : (o_Row_number np up (f_Tc_fieldPlace u k x) (4 : Int32)) := ho
  obtain ⟨hn1, fa2⟩ := hR0
  refine lv_aload_n hx hb d_Tc_entryField_0 rfl (lv_at hl 0 rfl) ?_
  refine g_get (ci := 5) (C := R_Tc) (T := F_Tc) (Nf := 4) (v := .ref (ad qp)) hx hb hA in_Tc hown hK hP (k := q) (by omega) fa2 rfl 0 (by decide) (hA _ aw_92) (fun _ h9 => h9) rfl d_Tc_entryField_1 ?_
  refine lv_aload_n hx hb d_Tc_entryField_4 rfl (lv_at hl 0 rfl) ?_
  refine lv_iload_n hx hb d_Tc_entryField_5 rfl (lv_at hl 1 rfl) ?_
  refine lv_iload_n hx hb d_Tc_entryField_6 rfl (lv_at hl 2 rfl) ?_
  refine va_calli (va_runV (As := [.int k, .int x]) (rest := [.ref (ad qp)]) ⟨hx, hb, hml, hown, hA⟩ (c_Tc_fieldPlace l D tt ad N A zs w0 q qp u k x (⟨hn1, fa2⟩)) (cwV 2 hA (cd_gV aw_420 aw_421 aw_770 aw_7 aw_422) rfl rfl rfl ⟨rfl, by decide, by decide, by decide +kernel⟩ ⟨Nat.le_of_ble_eq_true rfl, Nat.le_of_ble_eq_true rfl⟩) ⟨cd_blind, cd_recv hK hP (k := q) (by omega) fa2 rfl, fun U hU hW => ⟨rfl, cd_pre hK hP hZ hS U hU hW⟩⟩ rfl rfl hl.1 rfl (lv_room (Nat.le_of_ble_eq_true rfl)) d_Tc_entryField_7 ⟨Nat.zero_le _, Nat.zero_le _⟩) hS (fun _ _ h => h) (fun _ h => h) (fun r3 w1 tE H locs ht hvm hr4 hP hz1 hk1 hS => ?_)
  have hP := cd_Pf ht hP
  obtain ⟨rfl, rfl⟩ := hr4
  refine lv_iconst (v := (4 : Int32)) hx hb d_Tc_entryField_10 (by decide) ?_
  obtain ⟨hn6, fa7, fa8⟩ := hR1
  refine va_calli (va_runV (As := [.int (f_Tc_fieldPlace u k x), .int (4 : Int32)]) (rest := []) ⟨hx, hb, hml, hown, hA⟩ (c_Row_number l D tt ad N A zs w0 qp np up (f_Tc_fieldPlace u k x) (4 : Int32) (⟨hn6, fa7, fa8⟩) (ho)) (cwV 2 hA (cd_gV aw_409 aw_410 aw_411 aw_5 aw_412) rfl rfl rfl ⟨rfl, by decide, by decide, by decide +kernel⟩ ⟨Nat.le_of_ble_eq_true rfl, Nat.le_of_ble_eq_true rfl⟩) ⟨cd_blind, cd_recv hK hP (k := qp) (by omega) fa7 rfl, fun U hU hW => ⟨rfl, cd_pre hK hP hZ hS U hU hW⟩⟩ rfl rfl hl.1 rfl (lv_room (Nat.le_of_ble_eq_true rfl)) d_Tc_entryField_11 ⟨Nat.zero_le _, Nat.zero_le _⟩) hS (fun _ _ h => h) (fun _ h => h) (fun r9 w2 tE H locs ht hvm hr10 hP hz1 hk1 hS => ?_)
  have hP := cd_Pf ht hP
  obtain ⟨rfl, rfl⟩ := hr10
  have hf12 : (f_Tc_entryField u np up k x) = (f_Row_number np up (f_Tc_fieldPlace u k x) (4 : Int32)) := by rw [f_Tc_entryField]
  exact W.iret (v := (f_Row_number np up (f_Tc_fieldPlace u k x) (4 : Int32))) hx hb hr (fun tE ht _ => ⟨⟨_, w0, rfl, ⟨hf12, rfl⟩, cd_Pt ht hP⟩, hS.F ht⟩) hS.2.2 d_Tc_entryField_14
def f_Tc_refuse (u : cd_Tc) (k : Int32) (x : Int32) : Int32 × cd_Tc := ((0 : Int32), (k, x))
set_option maxHeartbeats 4000000 in
set_option maxRecDepth 100000 in
theorem c_Tc_refuse (l : Launch) (D : va_G) (tt : Nat → ClassId) (ad : Nat → Nat) (N : Nat) (A : Nat → Prop) (zs : Nat → Nat) (w0 : Nat → va_E) (q qp : Nat) (u : cd_Tc) (k : Int32) (x : Int32) (hR0 : cd_TcAt N tt ad w0 q qp u) : Met l y_Tc_refuse w_Tc_refuse ({ frames := 0, cells := 0, slots := 0, locals := 0 }) (va_Pc [.ref (ad q), .int k, .int x] (cd_U D tt ad N A zs w0)) (va_Qi (fun r w' => (f_Tc_refuse u k x).1 = r ∧ (r = 0 ∨ r = 1) ∧ cd_TcAt N tt ad w' q qp ((f_Tc_refuse u k x).2) ∧ (∀ k : Nat, (k < q ∨ q + 1 ≤ k) → w' k = w0 k)) (fun w' t => cd_P D ad N A w' t.heap) A) 0 0 A := by
  refine Met.ofW (cc := b_Tc_refuse) (maxL := 3) (ret := (some .boolean)) (by decide) rfl ?_
  intro p e s m args below meth c s₁ B hml hv
  obtain ⟨rfl, hP, hK, hZ⟩ := hv
  have hx := B.exec
  have hb := B.bytes
  have hr := B.returns
  have hA : ∀ w ∈ cd_AW, w.before _ s = true := fun w h => atoms_spec (ws := w_Tc_refuse) B.pre w (List.mem_cons_of_mem _ h)
  have hown : s.vm.findClass R_Tc = some m.cls := findClass_of_methodNamed B.named
  have hlocks := B.notSynchronized
  have hS : va_S A s.heap s.heap [] := va_S.rf
  have hl := lv_entry ([.ref (ad q), .int k, .int x]) (n := 3) (Nat.le_of_ble_eq_true rfl)
  rw [lg_entry_eq]
  generalize (lg_sl ([.ref (ad q), .int k, .int x]) ++ List.replicate (3 - (lg_sl ([.ref (ad q), .int k, .int x])).length) Slot.unset).toArray = ls at hl ⊢
  have hl : lv_has ls 3 [(0, .ref (ad q)), (1, .int k), (2, .int x)] := hl
  obtain ⟨hn1, fa2⟩ := hR0
  refine lv_aload_n hx hb d_Tc_refuse_0 rfl (lv_at hl 0 rfl) ?_
  refine lv_iload_n hx hb d_Tc_refuse_1 rfl (lv_at hl 1 rfl) ?_
  refine g_put (ci := 5) (C := R_Tc) (T := F_Tc) (Nf := 4) (v := .int k) (ty := .int) hx hb hA in_Tc t_Tc t_Tc_ok n_Tc hown hK hP hS (k := q) (by omega) fa2 rfl 2 (by decide) (hA _ aw_94) (fun _ h9 => h9) rfl (by decide +kernel) rfl rfl (Nat.le_of_ble_eq_true rfl) d_Tc_refuse_2 (fun H locs w1 fa3 e1 hP hS => ?_)
  have fa3 : w1 q = .inr (5, [.ref (ad qp), .ref (ad (q + 1)), .int k, .int u.2]) := fa3
  refine lv_aload_n hx hb d_Tc_refuse_5 rfl (lv_at hl 0 rfl) ?_
  refine lv_iload_n hx hb d_Tc_refuse_6 rfl (lv_at hl 2 rfl) ?_
  refine g_put (ci := 5) (C := R_Tc) (T := F_Tc) (Nf := 4) (v := .int x) (ty := .int) hx hb hA in_Tc t_Tc t_Tc_ok n_Tc hown hK hP hS (k := q) (by omega) fa3 rfl 3 (by decide) (hA _ aw_95) (fun _ h9 => h9) rfl (by decide +kernel) rfl rfl (Nat.le_of_ble_eq_true rfl) d_Tc_refuse_7 (fun H locs w2 fa4 e2 hP hS => ?_)
  have fa4 : w2 q = .inr (5, [.ref (ad qp), .ref (ad (q + 1)), .int k, .int x]) := fa4
  refine lv_iconst (v := (0 : Int32)) hx hb d_Tc_refuse_10 (by decide) ?_
  have hf5 : (f_Tc_refuse u k x) = ((0 : Int32), (k, x)) := by rw [f_Tc_refuse]
  exact W.zret (ty := .boolean) (v := (0 : Int32)) hx hb hr rfl (fun tE ht _ => ⟨⟨_, w2, rfl, ⟨(by rw [hf5]), (Or.inl rfl), (by rw [hf5]; exact ⟨hn1, fa4⟩), (fun k hk => ((e2 k (by omega)).trans (e1 k (by omega))))⟩, cd_Pt ht hP⟩, hS.F ht⟩) hS.2.2 d_Tc_refuse_11
def f_Tc_noteSize (u : cd_Tc) (np : Nat) (up : cd_Row) (k : Int32) : Int32 := (f_Row_number np up (k + (4 : Int32)) (4 : Int32))
def o_Tc_noteSize (u : cd_Tc) (np : Nat) (up : cd_Row) (k : Int32) : Prop := (o_Row_number np up (k + (4 : Int32)) (4 : Int32))
set_option maxHeartbeats 4000000 in
set_option maxRecDepth 100000 in
theorem c_Tc_noteSize (l : Launch) (D : va_G) (tt : Nat → ClassId) (ad : Nat → Nat) (N : Nat) (A : Nat → Prop) (zs : Nat → Nat) (w0 : Nat → va_E) (q qp : Nat) (u : cd_Tc) (np : Nat) (up : cd_Row) (k : Int32) (hR0 : cd_TcAt N tt ad w0 q qp u) (hR1 : cd_RowAt N tt ad w0 qp np up) (ho : o_Tc_noteSize u np up k) : Met l y_Tc_noteSize w_Tc_noteSize ({ frames := 1, cells := 0, slots := 0, locals := 24 }) (va_Pc [.ref (ad q), .int k] (cd_U D tt ad N A zs w0)) (va_Qi (fun r w' => (f_Tc_noteSize u np up k) = r ∧ w0 = w') (fun w' t => cd_P D ad N A w' t.heap) A) 0 0 A := by
  refine Met.ofW (cc := b_Tc_noteSize) (maxL := 2) (ret := (some .int)) (by decide) rfl ?_
  intro p e s m args below meth c s₁ B hml hv
  obtain ⟨rfl, hP, hK, hZ⟩ := hv
  have hx := B.exec
  have hb := B.bytes
  have hr := B.returns
  have hA : ∀ w ∈ cd_AW, w.before _ s = true := fun w h => atoms_spec (ws := w_Tc_noteSize) B.pre w (List.mem_cons_of_mem _ h)
  have hown : s.vm.findClass R_Tc = some m.cls := findClass_of_methodNamed B.named
  have hlocks := B.notSynchronized
  have hS : va_S A s.heap s.heap [] := va_S.rf
  have hl := lv_entry ([.ref (ad q), .int k]) (n := 2) (Nat.le_of_ble_eq_true rfl)
  rw [lg_entry_eq]
  generalize (lg_sl ([.ref (ad q), .int k]) ++ List.replicate (2 - (lg_sl ([.ref (ad q), .int k])).length) Slot.unset).toArray = ls at hl ⊢
  have hl : lv_has ls 2 [(0, .ref (ad q)), (1, .int k)] := hl
  have ho : (o_Row_number np up (k + (4 : Int32)) (4 : Int32)) := ho
  obtain ⟨hn1, fa2⟩ := hR0
  refine lv_aload_n hx hb d_Tc_noteSize_0 rfl (lv_at hl 0 rfl) ?_
  refine g_get (ci := 5) (C := R_Tc) (T := F_Tc) (Nf := 4) (v := .ref (ad qp)) hx hb hA in_Tc hown hK hP (k := q) (by omega) fa2 rfl 0 (by decide) (hA _ aw_92) (fun _ h9 => h9) rfl d_Tc_noteSize_1 ?_
  refine lv_iload_n hx hb d_Tc_noteSize_4 rfl (lv_at hl 1 rfl) ?_
  refine lv_iconst (v := (4 : Int32)) hx hb d_Tc_noteSize_5 (by decide) ?_
  refine lv_iadd hx hb d_Tc_noteSize_6 ?_
  refine lv_iconst (v := (4 : Int32)) hx hb d_Tc_noteSize_7 (by decide) ?_
  obtain ⟨hn3, fa4, fa5⟩ := hR1
  refine va_calli (va_runV (As := [.int (k + (4 : Int32)), .int (4 : Int32)]) (rest := []) ⟨hx, hb, hml, hown, hA⟩ (c_Row_number l D tt ad N A zs w0 qp np up (k + (4 : Int32)) (4 : Int32) (⟨hn3, fa4, fa5⟩) (ho)) (cwV 2 hA (cd_gV aw_409 aw_410 aw_411 aw_5 aw_412) rfl rfl rfl ⟨rfl, by decide, by decide, by decide +kernel⟩ ⟨Nat.le_of_ble_eq_true rfl, Nat.le_of_ble_eq_true rfl⟩) ⟨cd_blind, cd_recv hK hP (k := qp) (by omega) fa4 rfl, fun U hU hW => ⟨rfl, cd_pre hK hP hZ hS U hU hW⟩⟩ rfl rfl hl.1 rfl (lv_room (Nat.le_of_ble_eq_true rfl)) d_Tc_noteSize_8 ⟨Nat.zero_le _, Nat.zero_le _⟩) hS (fun _ _ h => h) (fun _ h => h) (fun r6 w1 tE H locs ht hvm hr7 hP hz1 hk1 hS => ?_)
  have hP := cd_Pf ht hP
  obtain ⟨rfl, rfl⟩ := hr7
  have hf9 : (f_Tc_noteSize u np up k) = (f_Row_number np up (k + (4 : Int32)) (4 : Int32)) := by rw [f_Tc_noteSize]
  exact W.iret (v := (f_Row_number np up (k + (4 : Int32)) (4 : Int32))) hx hb hr (fun tE ht _ => ⟨⟨_, w0, rfl, ⟨hf9, rfl⟩, cd_Pt ht hP⟩, hS.F ht⟩) hS.2.2 d_Tc_noteSize_11
def f_Tc_padded (u : cd_Tc) (k : Int32) : Int32 := (((k + (3 : Int32)) / (4 : Int32)) * (4 : Int32))
set_option maxHeartbeats 4000000 in
set_option maxRecDepth 100000 in
theorem c_Tc_padded (l : Launch) (D : va_G) (tt : Nat → ClassId) (ad : Nat → Nat) (N : Nat) (A : Nat → Prop) (zs : Nat → Nat) (w0 : Nat → va_E) (q qp : Nat) (u : cd_Tc) (k : Int32) (hR0 : cd_TcAt N tt ad w0 q qp u) : Met l y_Tc_padded w_Tc_padded ({ frames := 0, cells := 0, slots := 0, locals := 0 }) (va_Pc [.ref (ad q), .int k] (cd_U D tt ad N A zs w0)) (va_Qi (fun r w' => (f_Tc_padded u k) = r ∧ w0 = w') (fun w' t => cd_P D ad N A w' t.heap) A) 0 0 A := by
  refine Met.ofW (cc := b_Tc_padded) (maxL := 2) (ret := (some .int)) (by decide) rfl ?_
  intro p e s m args below meth c s₁ B hml hv
  obtain ⟨rfl, hP, hK, hZ⟩ := hv
  have hx := B.exec
  have hb := B.bytes
  have hr := B.returns
  have hA : ∀ w ∈ cd_AW, w.before _ s = true := fun w h => atoms_spec (ws := w_Tc_padded) B.pre w (List.mem_cons_of_mem _ h)
  have hown : s.vm.findClass R_Tc = some m.cls := findClass_of_methodNamed B.named
  have hlocks := B.notSynchronized
  have hS : va_S A s.heap s.heap [] := va_S.rf
  have hl := lv_entry ([.ref (ad q), .int k]) (n := 2) (Nat.le_of_ble_eq_true rfl)
  rw [lg_entry_eq]
  generalize (lg_sl ([.ref (ad q), .int k]) ++ List.replicate (2 - (lg_sl ([.ref (ad q), .int k])).length) Slot.unset).toArray = ls at hl ⊢
  have hl : lv_has ls 2 [(0, .ref (ad q)), (1, .int k)] := hl
  obtain ⟨hn1, fa2⟩ := hR0
  refine lv_iload_n hx hb d_Tc_padded_0 rfl (lv_at hl 1 rfl) ?_
  refine lv_iconst (v := (3 : Int32)) hx hb d_Tc_padded_1 (by decide) ?_
  refine lv_iadd hx hb d_Tc_padded_2 ?_
  refine lv_iconst (v := (4 : Int32)) hx hb d_Tc_padded_3 (by decide) ?_
  refine lv_idiv hx hb d_Tc_padded_4 (by decide) ?_
  refine lv_iconst (v := (4 : Int32)) hx hb d_Tc_padded_5 (by decide) ?_
  refine lv_imul hx hb d_Tc_padded_6 ?_
  have hf3 : (f_Tc_padded u k) = (((k + (3 : Int32)) / (4 : Int32)) * (4 : Int32)) := by rw [f_Tc_padded]
  exact W.iret (v := (((k + (3 : Int32)) / (4 : Int32)) * (4 : Int32))) hx hb hr (fun tE ht _ => ⟨⟨_, w0, rfl, ⟨hf3, rfl⟩, cd_Pt ht hP⟩, hS.F ht⟩) hS.2.2 d_Tc_padded_7
def f_Tc_headerFieldFits (u : cd_Tc) (k : Int32) (x : Int32) : Int32 := (if k = (25 : Int32) then (if x < (1 : Int32) then (0 : Int32) else (if (7 : Int32) < x then (0 : Int32) else (1 : Int32))) else (if k < 0 then (0 : Int32) else (if (29 : Int32) ≤ k then (0 : Int32) else (if x = (cd_hv k.toNatClampNeg) then (1 : Int32) else (0 : Int32)))))
def o_Tc_headerFieldFits (u : cd_Tc) (k : Int32) (x : Int32) : Prop := (¬ k = (25 : Int32) → ¬ k < 0 → ¬ (29 : Int32) ≤ k → vp_in k 29)
set_option maxHeartbeats 4000000 in
set_option maxRecDepth 100000 in
theorem c_Tc_headerFieldFits (l : Launch) (D : va_G) (tt : Nat → ClassId) (ad : Nat → Nat) (N : Nat) (A : Nat → Prop) (zs : Nat → Nat) (w0 : Nat → va_E) (q qp : Nat) (u : cd_Tc) (k : Int32) (x : Int32) (hR0 : cd_TcAt N tt ad w0 q qp u) (ho : o_Tc_headerFieldFits u k x) : Met l y_Tc_headerFieldFits w_Tc_headerFieldFits ({ frames := 0, cells := 0, slots := 0, locals := 0 }) (va_Pc [.ref (ad q), .int k, .int x] (cd_U D tt ad N A zs w0)) (va_Qi (fun r w' => (f_Tc_headerFieldFits u k x) = r ∧ (r = 0 ∨ r = 1) ∧ w0 = w') (fun w' t => cd_P D ad N A w' t.heap) A) 0 0 A := by
  refine Met.ofW (cc := b_Tc_headerFieldFits) (maxL := 3) (ret := (some .boolean)) (by decide) rfl ?_
  intro p e s m args below meth c s₁ B hml hv
  obtain ⟨rfl, hP, hK, hZ⟩ := hv
  have hx := B.exec
  have hb := B.bytes
  have hr := B.returns
  have hA : ∀ w ∈ cd_AW, w.before _ s = true := fun w h => atoms_spec (ws := w_Tc_headerFieldFits) B.pre w (List.mem_cons_of_mem _ h)
  have hown : s.vm.findClass R_Tc = some m.cls := findClass_of_methodNamed B.named
  have hlocks := B.notSynchronized
  have hS : va_S A s.heap s.heap [] := va_S.rf
  have hl := lv_entry ([.ref (ad q), .int k, .int x]) (n := 3) (Nat.le_of_ble_eq_true rfl)
  rw [lg_entry_eq]
  generalize (lg_sl ([.ref (ad q), .int k, .int x]) ++ List.replicate (3 - (lg_sl ([.ref (ad q), .int k, .int x])).length) Slot.unset).toArray = ls at hl ⊢
  have hl : lv_has ls 3 [(0, .ref (ad q)), (1, .int k), (2, .int x)] := hl
  have ho : (¬ k = (25 : Int32) → ¬ k < 0 → ¬ (29 : Int32) ≤ k → vp_in k 29) := ho
  obtain ⟨hn1, fa2⟩ := hR0
  refine lv_iload_n hx hb d_Tc_headerFieldFits_0 rfl (lv_at hl 1 rfl) ?_
  refine lv_bipush (v := (25 : Int32)) hx hb d_Tc_headerFieldFits_1 (by decide) ?_
  refine lv_icmp_ne (tgt := 23) hx hb d_Tc_headerFieldFits_3 (by decide) (fun hc3 => ?_) (fun hc3 => ?_)
  · refine lv_iload_n hx hb d_Tc_headerFieldFits_23 rfl (lv_at hl 1 rfl) ?_
    refine lv_if_lt (tgt := 48) hx hb d_Tc_headerFieldFits_24 (by decide) (fun hc4 => ?_) (fun hc4 => ?_)
    · refine lv_iconst (v := (0 : Int32)) hx hb d_Tc_headerFieldFits_48 (by decide) ?_
      have hf5 : (f_Tc_headerFieldFits u k x) = (0 : Int32) := by rw [f_Tc_headerFieldFits, if_neg hc3, if_pos hc4]
      exact W.zret (ty := .boolean) (v := (0 : Int32)) hx hb hr rfl (fun tE ht _ => ⟨⟨_, w0, rfl, ⟨hf5, (Or.inl rfl), rfl⟩, cd_Pt ht hP⟩, hS.F ht⟩) hS.2.2 d_Tc_headerFieldFits_49
    · refine lv_iload_n hx hb d_Tc_headerFieldFits_27 rfl (lv_at hl 1 rfl) ?_
      refine va_getsN hx hb hZ.1 hS hown (va_Nw.use rfl (nw_11 hZ.2.2.2.2.2.2)) (fun _ h9 => h9) d_Tc_headerFieldFits_28 ?_
      refine va_tlen (v := (29 : Int32)) hx hb hZ.2.1 hS (by decide) d_Tc_headerFieldFits_31 ?_
      refine lv_icmp_ge (tgt := 48) hx hb d_Tc_headerFieldFits_32 (by decide) (fun hc6 => ?_) (fun hc6 => ?_)
      · refine lv_iconst (v := (0 : Int32)) hx hb d_Tc_headerFieldFits_48 (by decide) ?_
        have hf7 : (f_Tc_headerFieldFits u k x) = (0 : Int32) := by rw [f_Tc_headerFieldFits, if_neg hc3, if_neg hc4, if_pos hc6]
        exact W.zret (ty := .boolean) (v := (0 : Int32)) hx hb hr rfl (fun tE ht _ => ⟨⟨_, w0, rfl, ⟨hf7, (Or.inl rfl), rfl⟩, cd_Pt ht hP⟩, hS.F ht⟩) hS.2.2 d_Tc_headerFieldFits_49
      · refine lv_iload_n hx hb d_Tc_headerFieldFits_35 rfl (lv_at hl 2 rfl) ?_
        refine va_getsN hx hb hZ.1 hS hown (va_Nw.use rfl (nw_11 hZ.2.2.2.2.2.2)) (fun _ h9 => h9) d_Tc_headerFieldFits_36 ?_
        refine lv_iload_n hx hb d_Tc_headerFieldFits_39 rfl (lv_at hl 1 rfl) ?_
        refine va_ti hx hb hZ.2.1 hS (ho hc3 hc4 hc6) rfl d_Tc_headerFieldFits_40 ?_
        refine lv_icmp_ne (tgt := 48) hx hb d_Tc_headerFieldFits_41 (by decide) (fun hc8 => ?_) (fun hc8 => ?_)
        · refine lv_iconst (v := (0 : Int32)) hx hb d_Tc_headerFieldFits_48 (by decide) ?_
          have hf9 : (f_Tc_headerFieldFits u k x) = (0 : Int32) := by rw [f_Tc_headerFieldFits, if_neg hc3, if_neg hc4, if_neg hc6, if_neg hc8]
          exact W.zret (ty := .boolean) (v := (0 : Int32)) hx hb hr rfl (fun tE ht _ => ⟨⟨_, w0, rfl, ⟨hf9, (Or.inl rfl), rfl⟩, cd_Pt ht hP⟩, hS.F ht⟩) hS.2.2 d_Tc_headerFieldFits_49
        · refine lv_iconst (v := (1 : Int32)) hx hb d_Tc_headerFieldFits_44 (by decide) ?_
          refine lv_goto (tgt := 49) hx hb d_Tc_headerFieldFits_45 (by decide) ?_
          have hf10 : (f_Tc_headerFieldFits u k x) = (1 : Int32) := by rw [f_Tc_headerFieldFits, if_neg hc3, if_neg hc4, if_neg hc6, if_pos hc8]
          exact W.zret (ty := .boolean) (v := (1 : Int32)) hx hb hr rfl (fun tE ht _ => ⟨⟨_, w0, rfl, ⟨hf10, (Or.inr rfl), rfl⟩, cd_Pt ht hP⟩, hS.F ht⟩) hS.2.2 d_Tc_headerFieldFits_49
  · refine lv_iload_n hx hb d_Tc_headerFieldFits_6 rfl (lv_at hl 2 rfl) ?_
    refine lv_iconst (v := (1 : Int32)) hx hb d_Tc_headerFieldFits_7 (by decide) ?_
    refine lv_icmp_lt (tgt := 21) hx hb d_Tc_headerFieldFits_8 (by decide) (fun hc11 => ?_) (fun hc11 => ?_)
    · refine lv_iconst (v := (0 : Int32)) hx hb d_Tc_headerFieldFits_21 (by decide) ?_
      have hf12 : (f_Tc_headerFieldFits u k x) = (0 : Int32) := by rw [f_Tc_headerFieldFits, if_pos hc3, if_pos hc11]
      exact W.zret (ty := .boolean) (v := (0 : Int32)) hx hb hr rfl (fun tE ht _ => ⟨⟨_, w0, rfl, ⟨hf12, (Or.inl rfl), rfl⟩, cd_Pt ht hP⟩, hS.F ht⟩) hS.2.2 d_Tc_headerFieldFits_22
    · refine lv_iload_n hx hb d_Tc_headerFieldFits_11 rfl (lv_at hl 2 rfl) ?_
      refine lv_bipush (v := (7 : Int32)) hx hb d_Tc_headerFieldFits_12 (by decide) ?_
      refine lv_icmp_gt (tgt := 21) hx hb d_Tc_headerFieldFits_14 (by decide) (fun hc13 => ?_) (fun hc13 => ?_)
      · refine lv_iconst (v := (0 : Int32)) hx hb d_Tc_headerFieldFits_21 (by decide) ?_
        have hf14 : (f_Tc_headerFieldFits u k x) = (0 : Int32) := by rw [f_Tc_headerFieldFits, if_pos hc3, if_neg hc11, if_pos hc13]
        exact W.zret (ty := .boolean) (v := (0 : Int32)) hx hb hr rfl (fun tE ht _ => ⟨⟨_, w0, rfl, ⟨hf14, (Or.inl rfl), rfl⟩, cd_Pt ht hP⟩, hS.F ht⟩) hS.2.2 d_Tc_headerFieldFits_22
      · refine lv_iconst (v := (1 : Int32)) hx hb d_Tc_headerFieldFits_17 (by decide) ?_
        refine lv_goto (tgt := 22) hx hb d_Tc_headerFieldFits_18 (by decide) ?_
        have hf15 : (f_Tc_headerFieldFits u k x) = (1 : Int32) := by rw [f_Tc_headerFieldFits, if_pos hc3, if_neg hc11, if_neg hc13]
        exact W.zret (ty := .boolean) (v := (1 : Int32)) hx hb hr rfl (fun tE ht _ => ⟨⟨_, w0, rfl, ⟨hf15, (Or.inr rfl), rfl⟩, cd_Pt ht hP⟩, hS.F ht⟩) hS.2.2 d_Tc_headerFieldFits_22
def f_Tc_headerPasses_L29 (u : cd_Tc) (np : Nat) (up : cd_Row) : Nat → Int32 → Int32 → Int32 × cd_Tc
  | 0, _, _ => default
  | gn + 1, z, i => (if (29 : Int32) ≤ i then (if (f_Tc_fieldPlace u (f_Tc_entries u np up) (0 : Int32)) ≤ (f_Row_length np up) then ((1 : Int32), u) else (if (f_Tc_refuse u (1 : Int32) (f_Row_length np up)).1 = 0 then ((0 : Int32), (f_Tc_refuse u (1 : Int32) (f_Row_length np up)).2) else ((1 : Int32), (f_Tc_refuse u (1 : Int32) (f_Row_length np up)).2))) else (if (f_Tc_headerFieldFits u i (f_Row_number np up z (cd_hw i.toNatClampNeg))) = 0 then ((f_Tc_refuse u (2 : Int32) z).1, (f_Tc_refuse u (2 : Int32) z).2) else (f_Tc_headerPasses_L29 u np up gn (z + (cd_hw i.toNatClampNeg)) (i + (1 : Int32)))))
def f_Tc_headerPasses (u : cd_Tc) (np : Nat) (up : cd_Row) : Int32 × cd_Tc := (if (52 : Int32) ≤ (f_Row_length np up) then (f_Tc_headerPasses_L29 u np up 30 (0 : Int32) (0 : Int32)) else ((f_Tc_refuse u (1 : Int32) (f_Row_length np up)).1, (f_Tc_refuse u (1 : Int32) (f_Row_length np up)).2))
def o_Tc_headerPasses_L29 (u : cd_Tc) (np : Nat) (up : cd_Row) : Nat → Int32 → Int32 → Prop
  | 0, _, _ => False
  | gn + 1, z, i => ((29 : Int32) ≤ i → o_Tc_entries u np up) ∧ (¬ (29 : Int32) ≤ i → vp_in i 29) ∧ (¬ (29 : Int32) ≤ i → o_Row_number np up z (cd_hw i.toNatClampNeg)) ∧ (¬ (29 : Int32) ≤ i → o_Tc_headerFieldFits u i (f_Row_number np up z (cd_hw i.toNatClampNeg))) ∧ (¬ (29 : Int32) ≤ i → ¬ (f_Tc_headerFieldFits u i (f_Row_number np up z (cd_hw i.toNatClampNeg))) = 0 → vp_in i 29) ∧ (¬ (29 : Int32) ≤ i → ¬ (f_Tc_headerFieldFits u i (f_Row_number np up z (cd_hw i.toNatClampNeg))) = 0 → o_Tc_headerPasses_L29 u np up gn (z + (cd_hw i.toNatClampNeg)) (i + (1 : Int32)))
def o_Tc_headerPasses (u : cd_Tc) (np : Nat) (up : cd_Row) : Prop := ((52 : Int32) ≤ (f_Row_length np up) → o_Tc_headerPasses_L29 u np up 30 (0 : Int32) (0 : Int32))
set_option maxHeartbeats 4000000 in
set_option maxRecDepth 100000 in
theorem c_Tc_headerPasses (l : Launch) (D : va_G) (tt : Nat → ClassId) (ad : Nat → Nat) (N : Nat) (A : Nat → Prop) (zs : Nat → Nat) (w0 : Nat → va_E) (q qp : Nat) (u : cd_Tc) (np : Nat) (up : cd_Row) (hR0 : cd_TcAt N tt ad w0 q qp u) (hR1 : cd_RowAt N tt ad w0 qp np up) (hap0 : qp + 2 ≤ q ∨ q + 4 ≤ qp) (ho : o_Tc_headerPasses u np up) : Met l y_Tc_headerPasses w_Tc_headerPasses ({ frames := 2, cells := 0, slots := 0, locals := 44 }) (va_Pc [.ref (ad q)] (cd_U D tt ad N A zs w0)) (va_Qi (fun r w' => (f_Tc_headerPasses u np up).1 = r ∧ (r = 0 ∨ r = 1) ∧ cd_TcAt N tt ad w' q qp ((f_Tc_headerPasses u np up).2) ∧ (∀ k : Nat, (k < q ∨ q + 1 ≤ k) → w' k = w0 k)) (fun w' t => cd_P D ad N A w' t.heap) A) 0 0 A := by
  refine Met.ofW (cc := b_Tc_headerPasses) (maxL := 3) (ret := (some .boolean)) (by decide) rfl ?_
  intro p e s m args below meth c s₁ B hml hv
  obtain ⟨rfl, hP, hK, hZ⟩ := hv
  have hx := B.exec
  have hb := B.bytes
  have hr := B.returns
  have hA : ∀ w ∈ cd_AW, w.before _ s = true := fun w h => atoms_spec (ws := w_Tc_headerPasses) B.pre w (List.mem_cons_of_mem _ h)
  have hown : s.vm.findClass R_Tc = some m.cls := findClass_of_methodNamed B.named
  have hlocks := B.notSynchronized
  have L29 : ∀ (gn : Nat) (z : Int32) (i : Int32) (w : Nat → va_E) (efr : ∀ k : Nat, (k < q ∨ q + 1 ≤ k) → w k = w0 k) (H : Heap) (locs : List Loc) (ls : Array Slot), lv_has ls 3 [(0, .ref (ad q)), (1, .int z), (2, .int i)] → (f_Tc_headerPasses u np up) = f_Tc_headerPasses_L29 u np up gn z i → cd_TcAt N tt ad w q qp u → cd_RowAt N tt ad w qp np up → cd_P D ad N A w H → va_S A s.heap H locs → o_Tc_headerPasses_L29 u np up gn z i → W p l e (headSpec w_Tc_headerPasses ({ frames := 2, cells := 0, slots := 0, locals := 44 })).room s m [.ref (ad q)].toArray below meth c H locs 0 0 (MQ below (va_Qi (fun r w' => (f_Tc_headerPasses u np up).1 = r ∧ (r = 0 ∨ r = 1) ∧ cd_TcAt N tt ad w' q qp ((f_Tc_headerPasses u np up).2) ∧ (∀ k : Nat, (k < q ∨ q + 1 ≤ k) → w' k = w0 k)) (fun w' t => cd_P D ad N A w' t.heap) A) [.ref (ad q)].toArray s 0 0 A) (F0 m 29 ls []) := by
    intro gn
    induction gn with
    | zero => intro z i w efr H locs ls hl he hL0 hL1 hP hS ho; exact ho.elim
    | succ gn ih =>
      intro z i w efr H locs ls hl he hL0 hL1 hP hS ho
      have ho : ((29 : Int32) ≤ i → o_Tc_entries u np up) ∧ (¬ (29 : Int32) ≤ i → vp_in i 29) ∧ (¬ (29 : Int32) ≤ i → o_Row_number np up z (cd_hw i.toNatClampNeg)) ∧ (¬ (29 : Int32) ≤ i → o_Tc_headerFieldFits u i (f_Row_number np up z (cd_hw i.toNatClampNeg))) ∧ (¬ (29 : Int32) ≤ i → ¬ (f_Tc_headerFieldFits u i (f_Row_number np up z (cd_hw i.toNatClampNeg))) = 0 → vp_in i 29) ∧ (¬ (29 : Int32) ≤ i → ¬ (f_Tc_headerFieldFits u i (f_Row_number np up z (cd_hw i.toNatClampNeg))) = 0 → o_Tc_headerPasses_L29 u np up gn (z + (cd_hw i.toNatClampNeg)) (i + (1 : Int32))) := ho
      obtain ⟨hn1, fa2⟩ := hL0
      refine lv_iload_n hx hb d_Tc_headerPasses_29 rfl (lv_at hl 2 rfl) ?_
      refine va_getsN hx hb hZ.1 hS hown (va_Nw.use rfl (nw_11 hZ.2.2.2.2.2.2)) (fun _ h9 => h9) d_Tc_headerPasses_30 ?_
      refine va_tlen (v := (29 : Int32)) hx hb hZ.2.1 hS (by decide) d_Tc_headerPasses_33 ?_
      refine lv_icmp_ge (tgt := 87) hx hb d_Tc_headerPasses_34 (by decide) (fun hc3 => ?_) (fun hc3 => ?_)
      · refine lv_aload_n hx hb d_Tc_headerPasses_87 rfl (lv_at hl 0 rfl) ?_
        refine lv_aload_n hx hb d_Tc_headerPasses_88 rfl (lv_at hl 0 rfl) ?_
        refine va_calli (va_runV (As := []) (rest := [.ref (ad q)]) ⟨hx, hb, hml, hown, hA⟩ (c_Tc_entries l D tt ad N A zs w q qp u np up (⟨hn1, fa2⟩) hL1 (ho.1 hc3)) (cwV 0 hA (cd_gV aw_416 aw_417 aw_418 aw_7 aw_419) rfl rfl rfl ⟨rfl, by decide, by decide, by decide +kernel⟩ ⟨Nat.le_of_ble_eq_true rfl, Nat.le_of_ble_eq_true rfl⟩) ⟨cd_blind, cd_recv hK hP (k := q) (by omega) fa2 rfl, fun U hU hW => ⟨rfl, cd_pre hK hP hZ hS U hU hW⟩⟩ rfl rfl hl.1 rfl (lv_room (Nat.le_of_ble_eq_true rfl)) d_Tc_headerPasses_89 ⟨Nat.zero_le _, Nat.zero_le _⟩) hS (fun _ _ h => h) (fun _ h => h) (fun r4 w1 tE H locs ht hvm hr5 hP hz1 hk1 hS => ?_)
        have hP := cd_Pf ht hP
        obtain ⟨rfl, rfl⟩ := hr5
        refine lv_iconst (v := (0 : Int32)) hx hb d_Tc_headerPasses_92 (by decide) ?_
        refine va_calli (va_runV (As := [.int (f_Tc_entries u np up), .int (0 : Int32)]) (rest := []) ⟨hx, hb, hml, hown, hA⟩ (c_Tc_fieldPlace l D tt ad N A zs w q qp u (f_Tc_entries u np up) (0 : Int32) (⟨hn1, fa2⟩)) (cwV 2 hA (cd_gV aw_420 aw_421 aw_770 aw_7 aw_422) rfl rfl rfl ⟨rfl, by decide, by decide, by decide +kernel⟩ ⟨Nat.le_of_ble_eq_true rfl, Nat.le_of_ble_eq_true rfl⟩) ⟨cd_blind, cd_recv hK hP (k := q) (by omega) fa2 rfl, fun U hU hW => ⟨rfl, cd_pre hK hP hZ hS U hU hW⟩⟩ rfl rfl hl.1 rfl (lv_room (Nat.le_of_ble_eq_true rfl)) d_Tc_headerPasses_93 ⟨Nat.zero_le _, Nat.zero_le _⟩) hS (fun _ _ h => h) (fun _ h => h) (fun r7 w2 tE H locs ht hvm hr8 hP hz1 hk1 hS => ?_)
        have hP := cd_Pf ht hP
        obtain ⟨rfl, rfl⟩ := hr8
        refine lv_aload_n hx hb d_Tc_headerPasses_96 rfl (lv_at hl 0 rfl) ?_
        refine g_get (ci := 5) (C := R_Tc) (T := F_Tc) (Nf := 4) (v := .ref (ad qp)) hx hb hA in_Tc hown hK hP (k := q) (by omega) fa2 rfl 0 (by decide) (hA _ aw_92) (fun _ h9 => h9) rfl d_Tc_headerPasses_97 ?_
        obtain ⟨hn10, fa11, fa12⟩ := hL1
        refine va_calli (va_runV (As := []) (rest := [.int (f_Tc_fieldPlace u (f_Tc_entries u np up) (0 : Int32))]) ⟨hx, hb, hml, hown, hA⟩ (c_Row_length l D tt ad N A zs w qp np up (⟨hn10, fa11, fa12⟩)) (cwV 0 hA (cd_gV aw_405 aw_285 aw_286 aw_5 aw_287) rfl rfl rfl ⟨rfl, by decide, by decide, by decide +kernel⟩ ⟨Nat.le_of_ble_eq_true rfl, Nat.le_of_ble_eq_true rfl⟩) ⟨cd_blind, cd_recv hK hP (k := qp) (by omega) fa11 rfl, fun U hU hW => ⟨rfl, cd_pre hK hP hZ hS U hU hW⟩⟩ rfl rfl hl.1 rfl (lv_room (Nat.le_of_ble_eq_true rfl)) d_Tc_headerPasses_100 ⟨Nat.zero_le _, Nat.zero_le _⟩) hS (fun _ _ h => h) (fun _ h => h) (fun r13 w3 tE H locs ht hvm hr14 hP hz1 hk1 hS => ?_)
        have hP := cd_Pf ht hP
        obtain ⟨rfl, rfl⟩ := hr14
        refine lv_icmp_le (tgt := 121) hx hb d_Tc_headerPasses_103 (by decide) (fun hc16 => ?_) (fun hc16 => ?_)
        · refine lv_iconst (v := (1 : Int32)) hx hb d_Tc_headerPasses_121 (by decide) ?_
          refine lv_goto (tgt := 126) hx hb d_Tc_headerPasses_122 (by decide) ?_
          have hf17 : (f_Tc_headerPasses u np up) = ((1 : Int32), u) := by rw [he, f_Tc_headerPasses_L29, if_pos hc3, if_pos hc16]
          exact W.zret (ty := .boolean) (v := (1 : Int32)) hx hb hr rfl (fun tE ht _ => ⟨⟨_, w, rfl, ⟨(by rw [hf17]), (Or.inr rfl), (by rw [hf17]; exact ⟨hn1, fa2⟩), (fun k hk => (efr k (by omega)))⟩, cd_Pt ht hP⟩, hS.F ht⟩) hS.2.2 d_Tc_headerPasses_126
        · refine lv_aload_n hx hb d_Tc_headerPasses_106 rfl (lv_at hl 0 rfl) ?_
          refine lv_iconst (v := (1 : Int32)) hx hb d_Tc_headerPasses_107 (by decide) ?_
          refine lv_aload_n hx hb d_Tc_headerPasses_108 rfl (lv_at hl 0 rfl) ?_
          refine g_get (ci := 5) (C := R_Tc) (T := F_Tc) (Nf := 4) (v := .ref (ad qp)) hx hb hA in_Tc hown hK hP (k := q) (by omega) fa2 rfl 0 (by decide) (hA _ aw_92) (fun _ h9 => h9) rfl d_Tc_headerPasses_109 ?_
          refine va_calli (va_runV (As := []) (rest := [.int (1 : Int32), .ref (ad q)]) ⟨hx, hb, hml, hown, hA⟩ (c_Row_length l D tt ad N A zs w qp np up (⟨hn10, fa11, fa12⟩)) (cwV 0 hA (cd_gV aw_405 aw_285 aw_286 aw_5 aw_287) rfl rfl rfl ⟨rfl, by decide, by decide, by decide +kernel⟩ ⟨Nat.le_of_ble_eq_true rfl, Nat.le_of_ble_eq_true rfl⟩) ⟨cd_blind, cd_recv hK hP (k := qp) (by omega) fa11 rfl, fun U hU hW => ⟨rfl, cd_pre hK hP hZ hS U hU hW⟩⟩ rfl rfl hl.1 rfl (lv_room (Nat.le_of_ble_eq_true rfl)) d_Tc_headerPasses_112 ⟨Nat.zero_le _, Nat.zero_le _⟩) hS (fun _ _ h => h) (fun _ h => h) (fun r18 w4 tE H locs ht hvm hr19 hP hz1 hk1 hS => ?_)
          have hP := cd_Pf ht hP
          obtain ⟨rfl, rfl⟩ := hr19
          refine va_calli (va_runV (As := [.int (1 : Int32), .int (f_Row_length np up)]) (rest := []) ⟨hx, hb, hml, hown, hA⟩ (c_Tc_refuse l D tt ad N A zs w q qp u (1 : Int32) (f_Row_length np up) (⟨hn1, fa2⟩)) (cwV 2 hA (cd_gV aw_406 aw_407 aw_768 aw_7 aw_408) rfl rfl rfl ⟨rfl, by decide, by decide, by decide +kernel⟩ ⟨Nat.le_of_ble_eq_true rfl, Nat.le_of_ble_eq_true rfl⟩) ⟨cd_blind, cd_recv hK hP (k := q) (by omega) fa2 rfl, fun U hU hW => ⟨rfl, cd_pre hK hP hZ hS U hU hW⟩⟩ rfl rfl hl.1 rfl (lv_room (Nat.le_of_ble_eq_true rfl)) d_Tc_headerPasses_115 ⟨Nat.zero_le _, Nat.zero_le _⟩) hS (fun _ _ h => h) (fun _ h => h) (fun r21 w5 tE H locs ht hvm hr22 hP hz1 hk1 hS => ?_)
          have hP := cd_Pf ht hP
          obtain ⟨rfl, hbo24, at25, e5⟩ := hr22
          have fa26 := (e5 qp (by omega)).trans fa11
          have fa27 := (e5 (qp + 1) (by omega)).trans fa12
          obtain ⟨hn28, fa29⟩ := at25
          refine lv_if_eq (tgt := 125) hx hb d_Tc_headerPasses_118 (by decide) (fun hc30 => ?_) (fun hc30 => ?_)
          · refine lv_iconst (v := (0 : Int32)) hx hb d_Tc_headerPasses_125 (by decide) ?_
            have hf31 : (f_Tc_headerPasses u np up) = ((0 : Int32), (f_Tc_refuse u (1 : Int32) (f_Row_length np up)).2) := by rw [he, f_Tc_headerPasses_L29, if_pos hc3, if_neg hc16, if_pos hc30]
            exact W.zret (ty := .boolean) (v := (0 : Int32)) hx hb hr rfl (fun tE ht _ => ⟨⟨_, w5, rfl, ⟨(by rw [hf31]), (Or.inl rfl), (by rw [hf31]; exact ⟨hn28, fa29⟩), (fun k hk => ((e5 k (by omega)).trans (efr k (by omega))))⟩, cd_Pt ht hP⟩, hS.F ht⟩) hS.2.2 d_Tc_headerPasses_126
          · refine lv_iconst (v := (1 : Int32)) hx hb d_Tc_headerPasses_121 (by decide) ?_
            refine lv_goto (tgt := 126) hx hb d_Tc_headerPasses_122 (by decide) ?_
            have hf32 : (f_Tc_headerPasses u np up) = ((1 : Int32), (f_Tc_refuse u (1 : Int32) (f_Row_length np up)).2) := by rw [he, f_Tc_headerPasses_L29, if_pos hc3, if_neg hc16, if_neg hc30]
            exact W.zret (ty := .boolean) (v := (1 : Int32)) hx hb hr rfl (fun tE ht _ => ⟨⟨_, w5, rfl, ⟨(by rw [hf32]), (Or.inr rfl), (by rw [hf32]; exact ⟨hn28, fa29⟩), (fun k hk => ((e5 k (by omega)).trans (efr k (by omega))))⟩, cd_Pt ht hP⟩, hS.F ht⟩) hS.2.2 d_Tc_headerPasses_126
      · refine lv_iload_n hx hb d_Tc_headerPasses_37 rfl (lv_at hl 2 rfl) ?_
        refine va_getsN hx hb hZ.2.2.1 hS hown (va_Nw.use rfl (nw_12 hZ.2.2.2.2.2.2)) (fun _ h9 => h9) d_Tc_headerPasses_38 ?_
        refine va_tlen (v := (29 : Int32)) hx hb hZ.2.2.2.1 hS (by decide) d_Tc_headerPasses_41 ?_
        refine lv_icmp_ge (tgt := 87) hx hb d_Tc_headerPasses_42 (by decide) (fun h9 => absurd h9 hc3) (fun _ => ?_)
        refine lv_aload_n hx hb d_Tc_headerPasses_45 rfl (lv_at hl 0 rfl) ?_
        refine lv_iload_n hx hb d_Tc_headerPasses_46 rfl (lv_at hl 2 rfl) ?_
        refine lv_aload_n hx hb d_Tc_headerPasses_47 rfl (lv_at hl 0 rfl) ?_
        refine g_get (ci := 5) (C := R_Tc) (T := F_Tc) (Nf := 4) (v := .ref (ad qp)) hx hb hA in_Tc hown hK hP (k := q) (by omega) fa2 rfl 0 (by decide) (hA _ aw_92) (fun _ h9 => h9) rfl d_Tc_headerPasses_48 ?_
        refine lv_iload_n hx hb d_Tc_headerPasses_51 rfl (lv_at hl 1 rfl) ?_
        refine va_getsN hx hb hZ.2.2.1 hS hown (va_Nw.use rfl (nw_12 hZ.2.2.2.2.2.2)) (fun _ h9 => h9) d_Tc_headerPasses_52 ?_
        refine lv_iload_n hx hb d_Tc_headerPasses_55 rfl (lv_at hl 2 rfl) ?_
        refine va_ti hx hb hZ.2.2.2.1 hS (ho.2.1 hc3) rfl d_Tc_headerPasses_56 ?_
        obtain ⟨hn34, fa35, fa36⟩ := hL1
        refine va_calli (va_runV (As := [.int z, .int (cd_hw i.toNatClampNeg)]) (rest := [.int i, .ref (ad q)]) ⟨hx, hb, hml, hown, hA⟩ (c_Row_number l D tt ad N A zs w qp np up z (cd_hw i.toNatClampNeg) (⟨hn34, fa35, fa36⟩) (ho.2.2.1 hc3)) (cwV 2 hA (cd_gV aw_409 aw_410 aw_411 aw_5 aw_412) rfl rfl rfl ⟨rfl, by decide, by decide, by decide +kernel⟩ ⟨Nat.le_of_ble_eq_true rfl, Nat.le_of_ble_eq_true rfl⟩) ⟨cd_blind, cd_recv hK hP (k := qp) (by omega) fa35 rfl, fun U hU hW => ⟨rfl, cd_pre hK hP hZ hS U hU hW⟩⟩ rfl rfl hl.1 rfl (lv_room (Nat.le_of_ble_eq_true rfl)) d_Tc_headerPasses_57 ⟨Nat.zero_le _, Nat.zero_le _⟩) hS (fun _ _ h => h) (fun _ h => h) (fun r37 w6 tE H locs ht hvm hr38 hP hz1 hk1 hS => ?_)
        have hP := cd_Pf ht hP
        obtain ⟨rfl, rfl⟩ := hr38
        refine va_calli (va_runV (As := [.int i, .int (f_Row_number np up z (cd_hw i.toNatClampNeg))]) (rest := []) ⟨hx, hb, hml, hown, hA⟩ (c_Tc_headerFieldFits l D tt ad N A zs w q qp u i (f_Row_number np up z (cd_hw i.toNatClampNeg)) (⟨hn1, fa2⟩) (ho.2.2.2.1 hc3)) (cwV 2 hA (cd_gV aw_413 aw_414 aw_769 aw_7 aw_415) rfl rfl rfl ⟨rfl, by decide, by decide, by decide +kernel⟩ ⟨Nat.le_of_ble_eq_true rfl, Nat.le_of_ble_eq_true rfl⟩) ⟨cd_blind, cd_recv hK hP (k := q) (by omega) fa2 rfl, fun U hU hW => ⟨rfl, cd_pre hK hP hZ hS U hU hW⟩⟩ rfl rfl hl.1 rfl (lv_room (Nat.le_of_ble_eq_true rfl)) d_Tc_headerPasses_60 ⟨Nat.zero_le _, Nat.zero_le _⟩) hS (fun _ _ h => h) (fun _ h => h) (fun r40 w7 tE H locs ht hvm hr41 hP hz1 hk1 hS => ?_)
        have hP := cd_Pf ht hP
        obtain ⟨rfl, hbo43, rfl⟩ := hr41
        refine lv_if_ne (tgt := 73) hx hb d_Tc_headerPasses_63 (by decide) (fun hc44 => ?_) (fun hc44 => ?_)
        · refine lv_iload_n hx hb d_Tc_headerPasses_73 rfl (lv_at hl 1 rfl) ?_
          refine va_getsN hx hb hZ.2.2.1 hS hown (va_Nw.use rfl (nw_12 hZ.2.2.2.2.2.2)) (fun _ h9 => h9) d_Tc_headerPasses_74 ?_
          refine lv_iload_n hx hb d_Tc_headerPasses_77 rfl (lv_at hl 2 rfl) ?_
          refine va_ti hx hb hZ.2.2.2.1 hS (ho.2.2.2.2.1 hc3 hc44) rfl d_Tc_headerPasses_78 ?_
          refine lv_iadd hx hb d_Tc_headerPasses_79 ?_
          refine lv_istore_n (lv' := [(1, .int (z + (cd_hw i.toNatClampNeg))), (0, .ref (ad q)), (2, .int i)]) hx hb d_Tc_headerPasses_80 rfl hl (by decide) rfl (fun ls hl => ?_)
          refine lv_iinc (k := 2) (v := (i + (1 : Int32))) (lv' := [(2, .int (i + (1 : Int32))), (1, .int (z + (cd_hw i.toNatClampNeg))), (0, .ref (ad q))]) hx hb d_Tc_headerPasses_81 hl rfl (cd_inc _ _ _ (by decide)) (by decide) rfl (fun ls hl => ?_)
          refine lv_goto (tgt := 29) hx hb d_Tc_headerPasses_84 (by decide) ?_
          exact ih (z + (cd_hw i.toNatClampNeg)) (i + (1 : Int32)) w (fun k hk => (efr k (by omega))) H locs ls (lv_sub hl [2, 1, 0] rfl) (show (f_Tc_headerPasses u np up) = f_Tc_headerPasses_L29 u np up gn (z + (cd_hw i.toNatClampNeg)) (i + (1 : Int32)) by rw [he, f_Tc_headerPasses_L29, if_neg hc3, if_neg hc44]) (⟨hn1, fa2⟩) (⟨hn34, fa35, fa36⟩) hP hS (ho.2.2.2.2.2 hc3 hc44)
        · refine lv_aload_n hx hb d_Tc_headerPasses_66 rfl (lv_at hl 0 rfl) ?_
          refine lv_iconst (v := (2 : Int32)) hx hb d_Tc_headerPasses_67 (by decide) ?_
          refine lv_iload_n hx hb d_Tc_headerPasses_68 rfl (lv_at hl 1 rfl) ?_
          refine va_calli (va_runV (As := [.int (2 : Int32), .int z]) (rest := []) ⟨hx, hb, hml, hown, hA⟩ (c_Tc_refuse l D tt ad N A zs w q qp u (2 : Int32) z (⟨hn1, fa2⟩)) (cwV 2 hA (cd_gV aw_406 aw_407 aw_768 aw_7 aw_408) rfl rfl rfl ⟨rfl, by decide, by decide, by decide +kernel⟩ ⟨Nat.le_of_ble_eq_true rfl, Nat.le_of_ble_eq_true rfl⟩) ⟨cd_blind, cd_recv hK hP (k := q) (by omega) fa2 rfl, fun U hU hW => ⟨rfl, cd_pre hK hP hZ hS U hU hW⟩⟩ rfl rfl hl.1 rfl (lv_room (Nat.le_of_ble_eq_true rfl)) d_Tc_headerPasses_69 ⟨Nat.zero_le _, Nat.zero_le _⟩) hS (fun _ _ h => h) (fun _ h => h) (fun r45 w8 tE H locs ht hvm hr46 hP hz1 hk1 hS => ?_)
          have hP := cd_Pf ht hP
          obtain ⟨rfl, hbo48, at49, e8⟩ := hr46
          have fa50 := (e8 qp (by omega)).trans fa35
          have fa51 := (e8 (qp + 1) (by omega)).trans fa36
          obtain ⟨hn52, fa53⟩ := at49
          have hf54 : (f_Tc_headerPasses u np up) = ((f_Tc_refuse u (2 : Int32) z).1, (f_Tc_refuse u (2 : Int32) z).2) := by rw [he, f_Tc_headerPasses_L29, if_neg hc3, if_pos hc44]
          exact W.zret (ty := .boolean) (v := (f_Tc_refuse u (2 : Int32) z).1) hx hb hr (cd_nb hbo48) (fun tE ht _ => ⟨⟨_, w8, rfl, ⟨(by rw [hf54]), hbo48, (by rw [hf54]; exact ⟨hn52, fa53⟩), (fun k hk => ((e8 k (by omega)).trans (efr k (by omega))))⟩, cd_Pt ht hP⟩, hS.F ht⟩) hS.2.2 d_Tc_headerPasses_72
  have hS : va_S A s.heap s.heap [] := va_S.rf
  have hl := lv_entry ([.ref (ad q)]) (n := 3) (Nat.le_of_ble_eq_true rfl)
  rw [lg_entry_eq]
  generalize (lg_sl ([.ref (ad q)]) ++ List.replicate (3 - (lg_sl ([.ref (ad q)])).length) Slot.unset).toArray = ls at hl ⊢
  have hl : lv_has ls 3 [(0, .ref (ad q))] := hl
  have ho : ((52 : Int32) ≤ (f_Row_length np up) → o_Tc_headerPasses_L29 u np up 30 (0 : Int32) (0 : Int32)) := ho
  obtain ⟨hn55, fa56⟩ := hR0
  refine lv_aload_n hx hb d_Tc_headerPasses_0 rfl (lv_at hl 0 rfl) ?_
  refine g_get (ci := 5) (C := R_Tc) (T := F_Tc) (Nf := 4) (v := .ref (ad qp)) hx hb hA in_Tc hown hK hP (k := q) (by omega) fa56 rfl 0 (by decide) (hA _ aw_92) (fun _ h9 => h9) rfl d_Tc_headerPasses_1 ?_
  obtain ⟨hn57, fa58, fa59⟩ := hR1
  refine va_calli (va_runV (As := []) (rest := []) ⟨hx, hb, hml, hown, hA⟩ (c_Row_length l D tt ad N A zs w0 qp np up (⟨hn57, fa58, fa59⟩)) (cwV 0 hA (cd_gV aw_405 aw_285 aw_286 aw_5 aw_287) rfl rfl rfl ⟨rfl, by decide, by decide, by decide +kernel⟩ ⟨Nat.le_of_ble_eq_true rfl, Nat.le_of_ble_eq_true rfl⟩) ⟨cd_blind, cd_recv hK hP (k := qp) (by omega) fa58 rfl, fun U hU hW => ⟨rfl, cd_pre hK hP hZ hS U hU hW⟩⟩ rfl rfl hl.1 rfl (lv_room (Nat.le_of_ble_eq_true rfl)) d_Tc_headerPasses_4 ⟨Nat.zero_le _, Nat.zero_le _⟩) hS (fun _ _ h => h) (fun _ h => h) (fun r60 w9 tE H locs ht hvm hr61 hP hz1 hk1 hS => ?_)
  have hP := cd_Pf ht hP
  obtain ⟨rfl, rfl⟩ := hr61
  refine lv_bipush (v := (52 : Int32)) hx hb d_Tc_headerPasses_7 (by decide) ?_
  refine lv_icmp_ge (tgt := 25) hx hb d_Tc_headerPasses_9 (by decide) (fun hc63 => ?_) (fun hc63 => ?_)
  · refine lv_iconst (v := (0 : Int32)) hx hb d_Tc_headerPasses_25 (by decide) ?_
    refine lv_istore_n (lv' := [(1, .int (0 : Int32)), (0, .ref (ad q))]) hx hb d_Tc_headerPasses_26 rfl hl (by decide) rfl (fun ls hl => ?_)
    refine lv_iconst (v := (0 : Int32)) hx hb d_Tc_headerPasses_27 (by decide) ?_
    refine lv_istore_n (lv' := [(2, .int (0 : Int32)), (1, .int (0 : Int32)), (0, .ref (ad q))]) hx hb d_Tc_headerPasses_28 rfl hl (by decide) rfl (fun ls hl => ?_)
    exact L29 30 (0 : Int32) (0 : Int32) w0 (fun _ _ => rfl) H locs ls (lv_sub hl [2, 1, 0] rfl) (show (f_Tc_headerPasses u np up) = f_Tc_headerPasses_L29 u np up 30 (0 : Int32) (0 : Int32) by rw [f_Tc_headerPasses, if_pos hc63]) (⟨hn55, fa56⟩) (⟨hn57, fa58, fa59⟩) hP hS (ho hc63)
  · refine lv_aload_n hx hb d_Tc_headerPasses_12 rfl (lv_at hl 0 rfl) ?_
    refine lv_iconst (v := (1 : Int32)) hx hb d_Tc_headerPasses_13 (by decide) ?_
    refine lv_aload_n hx hb d_Tc_headerPasses_14 rfl (lv_at hl 0 rfl) ?_
    refine g_get (ci := 5) (C := R_Tc) (T := F_Tc) (Nf := 4) (v := .ref (ad qp)) hx hb hA in_Tc hown hK hP (k := q) (by omega) fa56 rfl 0 (by decide) (hA _ aw_92) (fun _ h9 => h9) rfl d_Tc_headerPasses_15 ?_
    refine va_calli (va_runV (As := []) (rest := [.int (1 : Int32), .ref (ad q)]) ⟨hx, hb, hml, hown, hA⟩ (c_Row_length l D tt ad N A zs w0 qp np up (⟨hn57, fa58, fa59⟩)) (cwV 0 hA (cd_gV aw_405 aw_285 aw_286 aw_5 aw_287) rfl rfl rfl ⟨rfl, by decide, by decide, by decide +kernel⟩ ⟨Nat.le_of_ble_eq_true rfl, Nat.le_of_ble_eq_true rfl⟩) ⟨cd_blind, cd_recv hK hP (k := qp) (by omega) fa58 rfl, fun U hU hW => ⟨rfl, cd_pre hK hP hZ hS U hU hW⟩⟩ rfl rfl hl.1 rfl (lv_room (Nat.le_of_ble_eq_true rfl)) d_Tc_headerPasses_18 ⟨Nat.zero_le _, Nat.zero_le _⟩) hS (fun _ _ h => h) (fun _ h => h) (fun r64 w10 tE H locs ht hvm hr65 hP hz1 hk1 hS => ?_)
    have hP := cd_Pf ht hP
    obtain ⟨rfl, rfl⟩ := hr65
    refine va_calli (va_runV (As := [.int (1 : Int32), .int (f_Row_length np up)]) (rest := []) ⟨hx, hb, hml, hown, hA⟩ (c_Tc_refuse l D tt ad N A zs w0 q qp u (1 : Int32) (f_Row_length np up) (⟨hn55, fa56⟩)) (cwV 2 hA (cd_gV aw_406 aw_407 aw_768 aw_7 aw_408) rfl rfl rfl ⟨rfl, by decide, by decide, by decide +kernel⟩ ⟨Nat.le_of_ble_eq_true rfl, Nat.le_of_ble_eq_true rfl⟩) ⟨cd_blind, cd_recv hK hP (k := q) (by omega) fa56 rfl, fun U hU hW => ⟨rfl, cd_pre hK hP hZ hS U hU hW⟩⟩ rfl rfl hl.1 rfl (lv_room (Nat.le_of_ble_eq_true rfl)) d_Tc_headerPasses_21 ⟨Nat.zero_le _, Nat.zero_le _⟩) hS (fun _ _ h => h) (fun _ h => h) (fun r67 w11 tE H locs ht hvm hr68 hP hz1 hk1 hS => ?_)
    have hP := cd_Pf ht hP
    obtain ⟨rfl, hbo70, at71, e11⟩ := hr68
    have fa72 := (e11 qp (by omega)).trans fa58
    have fa73 := (e11 (qp + 1) (by omega)).trans fa59
    obtain ⟨hn74, fa75⟩ := at71
    have hf76 : (f_Tc_headerPasses u np up) = ((f_Tc_refuse u (1 : Int32) (f_Row_length np up)).1, (f_Tc_refuse u (1 : Int32) (f_Row_length np up)).2) := by rw [f_Tc_headerPasses, if_neg hc63]
    exact W.zret (ty := .boolean) (v := (f_Tc_refuse u (1 : Int32) (f_Row_length np up)).1) hx hb hr (cd_nb hbo70) (fun tE ht _ => ⟨⟨_, w11, rfl, ⟨(by rw [hf76]), hbo70, (by rw [hf76]; exact ⟨hn74, fa75⟩), (fun k hk => (e11 k (by omega)))⟩, cd_Pt ht hP⟩, hS.F ht⟩) hS.2.2 d_Tc_headerPasses_24
def f_Tc_notesFieldFits (u : cd_Tc) (np : Nat) (up : cd_Row) (k : Int32) (x : Int32) : Int32 := (if k = (0 : Int32) then (if x = (4 : Int32) then (1 : Int32) else (0 : Int32)) else (if k = (1 : Int32) then (if x < (f_Tc_fieldPlace u (f_Tc_entries u np up) (0 : Int32)) then (0 : Int32) else (1 : Int32)) else (if k = (2 : Int32) then (if x = 0 then (1 : Int32) else (0 : Int32)) else (if k = (3 : Int32) then (if x = 0 then (1 : Int32) else (0 : Int32)) else (if k = (4 : Int32) then (if x < 0 then (0 : Int32) else (1 : Int32)) else (if k = (5 : Int32) then (if x = (f_Tc_entryField u np up (0 : Int32) (4 : Int32)) then (1 : Int32) else (0 : Int32)) else (if k = (6 : Int32) then (if x = 0 then (1 : Int32) else (0 : Int32)) else (if k = (7 : Int32) then (if x = (4 : Int32) then (1 : Int32) else (0 : Int32)) else (if x = 0 then (1 : Int32) else (0 : Int32))))))))))
def o_Tc_notesFieldFits (u : cd_Tc) (np : Nat) (up : cd_Row) (k : Int32) (x : Int32) : Prop := (¬ k = (0 : Int32) → k = (1 : Int32) → o_Tc_entries u np up) ∧ (¬ k = (0 : Int32) → ¬ k = (1 : Int32) → ¬ k = (2 : Int32) → ¬ k = (3 : Int32) → ¬ k = (4 : Int32) → k = (5 : Int32) → o_Tc_entryField u np up (0 : Int32) (4 : Int32))
set_option maxHeartbeats 4000000 in
set_option maxRecDepth 100000 in
theorem c_Tc_notesFieldFits (l : Launch) (D : va_G) (tt : Nat → ClassId) (ad : Nat → Nat) (N : Nat) (A : Nat → Prop) (zs : Nat → Nat) (w0 : Nat → va_E) (q qp : Nat) (u : cd_Tc) (np : Nat) (up : cd_Row) (k : Int32) (x : Int32) (hR0 : cd_TcAt N tt ad w0 q qp u) (hR1 : cd_RowAt N tt ad w0 qp np up) (ho : o_Tc_notesFieldFits u np up k x) : Met l y_Tc_notesFieldFits w_Tc_notesFieldFits ({ frames := 2, cells := 0, slots := 0, locals := 46 }) (va_Pc [.ref (ad q), .int k, .int x] (cd_U D tt ad N A zs w0)) (va_Qi (fun r w' => (f_Tc_notesFieldFits u np up k x) = r ∧ (r = 0 ∨ r = 1) ∧ w0 = w') (fun w' t => cd_P D ad N A w' t.heap) A) 0 0 A := by
  refine Met.ofW (cc := b_Tc_notesFieldFits) (maxL := 3) (ret := (some .boolean)) (by decide) rfl ?_
  intro p e s m args below meth c s₁ B hml hv
  obtain ⟨rfl, hP, hK, hZ⟩ := hv
  have hx := B.exec
  have hb := B.bytes
  have hr := B.returns
  have hA : ∀ w ∈ cd_AW, w.before _ s = true := fun w h => atoms_spec (ws := w_Tc_notesFieldFits) B.pre w (List.mem_cons_of_mem _ h)
  have hown : s.vm.findClass R_Tc = some m.cls := findClass_of_methodNamed B.named
  have hlocks := B.notSynchronized
  have hS : va_S A s.heap s.heap [] := va_S.rf
  have hl := lv_entry ([.ref (ad q), .int k, .int x]) (n := 3) (Nat.le_of_ble_eq_true rfl)
  rw [lg_entry_eq]
  generalize (lg_sl ([.ref (ad q), .int k, .int x]) ++ List.replicate (3 - (lg_sl ([.ref (ad q), .int k, .int x])).length) Slot.unset).toArray = ls at hl ⊢
  have hl : lv_has ls 3 [(0, .ref (ad q)), (1, .int k), (2, .int x)] := hl
  have ho : (¬ k = (0 : Int32) → k = (1 : Int32) → o_Tc_entries u np up) ∧ (¬ k = (0 : Int32) → ¬ k = (1 : Int32) → ¬ k = (2 : Int32) → ¬ k = (3 : Int32) → ¬ k = (4 : Int32) → k = (5 : Int32) → o_Tc_entryField u np up (0 : Int32) (4 : Int32)) := ho
  obtain ⟨hn1, fa2⟩ := hR0
  refine lv_iload_n hx hb d_Tc_notesFieldFits_0 rfl (lv_at hl 1 rfl) ?_
  by_cases hc3 : k = (0 : Int32)
  · refine g_tabIn (tgt := 48) (off := 47) hx hb d_Tc_notesFieldFits_1 hc3 (by decide) (by decide) (by decide) (by decide) ?_
    refine lv_iload_n hx hb d_Tc_notesFieldFits_48 rfl (lv_at hl 2 rfl) ?_
    refine lv_iconst (v := (4 : Int32)) hx hb d_Tc_notesFieldFits_49 (by decide) ?_
    refine lv_icmp_ne (tgt := 57) hx hb d_Tc_notesFieldFits_50 (by decide) (fun hc4 => ?_) (fun hc4 => ?_)
    · refine lv_iconst (v := (0 : Int32)) hx hb d_Tc_notesFieldFits_57 (by decide) ?_
      have hf5 : (f_Tc_notesFieldFits u np up k x) = (0 : Int32) := by rw [f_Tc_notesFieldFits, if_pos hc3, if_neg hc4]
      exact W.zret (ty := .boolean) (v := (0 : Int32)) hx hb hr rfl (fun tE ht _ => ⟨⟨_, w0, rfl, ⟨hf5, (Or.inl rfl), rfl⟩, cd_Pt ht hP⟩, hS.F ht⟩) hS.2.2 d_Tc_notesFieldFits_58
    · refine lv_iconst (v := (1 : Int32)) hx hb d_Tc_notesFieldFits_53 (by decide) ?_
      refine lv_goto (tgt := 58) hx hb d_Tc_notesFieldFits_54 (by decide) ?_
      have hf6 : (f_Tc_notesFieldFits u np up k x) = (1 : Int32) := by rw [f_Tc_notesFieldFits, if_pos hc3, if_pos hc4]
      exact W.zret (ty := .boolean) (v := (1 : Int32)) hx hb hr rfl (fun tE ht _ => ⟨⟨_, w0, rfl, ⟨hf6, (Or.inr rfl), rfl⟩, cd_Pt ht hP⟩, hS.F ht⟩) hS.2.2 d_Tc_notesFieldFits_58
  by_cases hc7 : k = (1 : Int32)
  · refine g_tabIn (tgt := 59) (off := 58) hx hb d_Tc_notesFieldFits_1 hc7 (by decide) (by decide) (by decide) (by decide) ?_
    refine lv_iload_n hx hb d_Tc_notesFieldFits_59 rfl (lv_at hl 2 rfl) ?_
    refine lv_aload_n hx hb d_Tc_notesFieldFits_60 rfl (lv_at hl 0 rfl) ?_
    refine lv_aload_n hx hb d_Tc_notesFieldFits_61 rfl (lv_at hl 0 rfl) ?_
    refine va_calli (va_runV (As := []) (rest := [.ref (ad q), .int x]) ⟨hx, hb, hml, hown, hA⟩ (c_Tc_entries l D tt ad N A zs w0 q qp u np up (⟨hn1, fa2⟩) hR1 (ho.1 hc3 hc7)) (cwV 0 hA (cd_gV aw_416 aw_417 aw_418 aw_7 aw_419) rfl rfl rfl ⟨rfl, by decide, by decide, by decide +kernel⟩ ⟨Nat.le_of_ble_eq_true rfl, Nat.le_of_ble_eq_true rfl⟩) ⟨cd_blind, cd_recv hK hP (k := q) (by omega) fa2 rfl, fun U hU hW => ⟨rfl, cd_pre hK hP hZ hS U hU hW⟩⟩ rfl rfl hl.1 rfl (lv_room (Nat.le_of_ble_eq_true rfl)) d_Tc_notesFieldFits_62 ⟨Nat.zero_le _, Nat.zero_le _⟩) hS (fun _ _ h => h) (fun _ h => h) (fun r8 w1 tE H locs ht hvm hr9 hP hz1 hk1 hS => ?_)
    have hP := cd_Pf ht hP
    obtain ⟨rfl, rfl⟩ := hr9
    refine lv_iconst (v := (0 : Int32)) hx hb d_Tc_notesFieldFits_65 (by decide) ?_
    refine va_calli (va_runV (As := [.int (f_Tc_entries u np up), .int (0 : Int32)]) (rest := [.int x]) ⟨hx, hb, hml, hown, hA⟩ (c_Tc_fieldPlace l D tt ad N A zs w0 q qp u (f_Tc_entries u np up) (0 : Int32) (⟨hn1, fa2⟩)) (cwV 2 hA (cd_gV aw_420 aw_421 aw_770 aw_7 aw_422) rfl rfl rfl ⟨rfl, by decide, by decide, by decide +kernel⟩ ⟨Nat.le_of_ble_eq_true rfl, Nat.le_of_ble_eq_true rfl⟩) ⟨cd_blind, cd_recv hK hP (k := q) (by omega) fa2 rfl, fun U hU hW => ⟨rfl, cd_pre hK hP hZ hS U hU hW⟩⟩ rfl rfl hl.1 rfl (lv_room (Nat.le_of_ble_eq_true rfl)) d_Tc_notesFieldFits_66 ⟨Nat.zero_le _, Nat.zero_le _⟩) hS (fun _ _ h => h) (fun _ h => h) (fun r11 w2 tE H locs ht hvm hr12 hP hz1 hk1 hS => ?_)
    have hP := cd_Pf ht hP
    obtain ⟨rfl, rfl⟩ := hr12
    refine lv_icmp_lt (tgt := 76) hx hb d_Tc_notesFieldFits_69 (by decide) (fun hc14 => ?_) (fun hc14 => ?_)
    · refine lv_iconst (v := (0 : Int32)) hx hb d_Tc_notesFieldFits_76 (by decide) ?_
      have hf15 : (f_Tc_notesFieldFits u np up k x) = (0 : Int32) := by rw [f_Tc_notesFieldFits, if_neg hc3, if_pos hc7, if_pos hc14]
      exact W.zret (ty := .boolean) (v := (0 : Int32)) hx hb hr rfl (fun tE ht _ => ⟨⟨_, w0, rfl, ⟨hf15, (Or.inl rfl), rfl⟩, cd_Pt ht hP⟩, hS.F ht⟩) hS.2.2 d_Tc_notesFieldFits_77
    · refine lv_iconst (v := (1 : Int32)) hx hb d_Tc_notesFieldFits_72 (by decide) ?_
      refine lv_goto (tgt := 77) hx hb d_Tc_notesFieldFits_73 (by decide) ?_
      have hf16 : (f_Tc_notesFieldFits u np up k x) = (1 : Int32) := by rw [f_Tc_notesFieldFits, if_neg hc3, if_pos hc7, if_neg hc14]
      exact W.zret (ty := .boolean) (v := (1 : Int32)) hx hb hr rfl (fun tE ht _ => ⟨⟨_, w0, rfl, ⟨hf16, (Or.inr rfl), rfl⟩, cd_Pt ht hP⟩, hS.F ht⟩) hS.2.2 d_Tc_notesFieldFits_77
  by_cases hc17 : k = (2 : Int32)
  · refine g_tabIn (tgt := 115) (off := 114) hx hb d_Tc_notesFieldFits_1 hc17 (by decide) (by decide) (by decide) (by decide) ?_
    refine lv_iload_n hx hb d_Tc_notesFieldFits_115 rfl (lv_at hl 2 rfl) ?_
    refine lv_if_ne (tgt := 123) hx hb d_Tc_notesFieldFits_116 (by decide) (fun hc18 => ?_) (fun hc18 => ?_)
    · refine lv_iconst (v := (0 : Int32)) hx hb d_Tc_notesFieldFits_123 (by decide) ?_
      have hf19 : (f_Tc_notesFieldFits u np up k x) = (0 : Int32) := by rw [f_Tc_notesFieldFits, if_neg hc3, if_neg hc7, if_pos hc17, if_neg hc18]
      exact W.zret (ty := .boolean) (v := (0 : Int32)) hx hb hr rfl (fun tE ht _ => ⟨⟨_, w0, rfl, ⟨hf19, (Or.inl rfl), rfl⟩, cd_Pt ht hP⟩, hS.F ht⟩) hS.2.2 d_Tc_notesFieldFits_124
    · refine lv_iconst (v := (1 : Int32)) hx hb d_Tc_notesFieldFits_119 (by decide) ?_
      refine lv_goto (tgt := 124) hx hb d_Tc_notesFieldFits_120 (by decide) ?_
      have hf20 : (f_Tc_notesFieldFits u np up k x) = (1 : Int32) := by rw [f_Tc_notesFieldFits, if_neg hc3, if_neg hc7, if_pos hc17, if_pos hc18]
      exact W.zret (ty := .boolean) (v := (1 : Int32)) hx hb hr rfl (fun tE ht _ => ⟨⟨_, w0, rfl, ⟨hf20, (Or.inr rfl), rfl⟩, cd_Pt ht hP⟩, hS.F ht⟩) hS.2.2 d_Tc_notesFieldFits_124
  by_cases hc21 : k = (3 : Int32)
  · refine g_tabIn (tgt := 115) (off := 114) hx hb d_Tc_notesFieldFits_1 hc21 (by decide) (by decide) (by decide) (by decide) ?_
    refine lv_iload_n hx hb d_Tc_notesFieldFits_115 rfl (lv_at hl 2 rfl) ?_
    refine lv_if_ne (tgt := 123) hx hb d_Tc_notesFieldFits_116 (by decide) (fun hc22 => ?_) (fun hc22 => ?_)
    · refine lv_iconst (v := (0 : Int32)) hx hb d_Tc_notesFieldFits_123 (by decide) ?_
      have hf23 : (f_Tc_notesFieldFits u np up k x) = (0 : Int32) := by rw [f_Tc_notesFieldFits, if_neg hc3, if_neg hc7, if_neg hc17, if_pos hc21, if_neg hc22]
      exact W.zret (ty := .boolean) (v := (0 : Int32)) hx hb hr rfl (fun tE ht _ => ⟨⟨_, w0, rfl, ⟨hf23, (Or.inl rfl), rfl⟩, cd_Pt ht hP⟩, hS.F ht⟩) hS.2.2 d_Tc_notesFieldFits_124
    · refine lv_iconst (v := (1 : Int32)) hx hb d_Tc_notesFieldFits_119 (by decide) ?_
      refine lv_goto (tgt := 124) hx hb d_Tc_notesFieldFits_120 (by decide) ?_
      have hf24 : (f_Tc_notesFieldFits u np up k x) = (1 : Int32) := by rw [f_Tc_notesFieldFits, if_neg hc3, if_neg hc7, if_neg hc17, if_pos hc21, if_pos hc22]
      exact W.zret (ty := .boolean) (v := (1 : Int32)) hx hb hr rfl (fun tE ht _ => ⟨⟨_, w0, rfl, ⟨hf24, (Or.inr rfl), rfl⟩, cd_Pt ht hP⟩, hS.F ht⟩) hS.2.2 d_Tc_notesFieldFits_124
  by_cases hc25 : k = (4 : Int32)
  · refine g_tabIn (tgt := 78) (off := 77) hx hb d_Tc_notesFieldFits_1 hc25 (by decide) (by decide) (by decide) (by decide) ?_
    refine lv_iload_n hx hb d_Tc_notesFieldFits_78 rfl (lv_at hl 2 rfl) ?_
    refine lv_if_lt (tgt := 86) hx hb d_Tc_notesFieldFits_79 (by decide) (fun hc26 => ?_) (fun hc26 => ?_)
    · refine lv_iconst (v := (0 : Int32)) hx hb d_Tc_notesFieldFits_86 (by decide) ?_
      have hf27 : (f_Tc_notesFieldFits u np up k x) = (0 : Int32) := by rw [f_Tc_notesFieldFits, if_neg hc3, if_neg hc7, if_neg hc17, if_neg hc21, if_pos hc25, if_pos hc26]
      exact W.zret (ty := .boolean) (v := (0 : Int32)) hx hb hr rfl (fun tE ht _ => ⟨⟨_, w0, rfl, ⟨hf27, (Or.inl rfl), rfl⟩, cd_Pt ht hP⟩, hS.F ht⟩) hS.2.2 d_Tc_notesFieldFits_87
    · refine lv_iconst (v := (1 : Int32)) hx hb d_Tc_notesFieldFits_82 (by decide) ?_
      refine lv_goto (tgt := 87) hx hb d_Tc_notesFieldFits_83 (by decide) ?_
      have hf28 : (f_Tc_notesFieldFits u np up k x) = (1 : Int32) := by rw [f_Tc_notesFieldFits, if_neg hc3, if_neg hc7, if_neg hc17, if_neg hc21, if_pos hc25, if_neg hc26]
      exact W.zret (ty := .boolean) (v := (1 : Int32)) hx hb hr rfl (fun tE ht _ => ⟨⟨_, w0, rfl, ⟨hf28, (Or.inr rfl), rfl⟩, cd_Pt ht hP⟩, hS.F ht⟩) hS.2.2 d_Tc_notesFieldFits_87
  by_cases hc29 : k = (5 : Int32)
  · refine g_tabIn (tgt := 88) (off := 87) hx hb d_Tc_notesFieldFits_1 hc29 (by decide) (by decide) (by decide) (by decide) ?_
    refine lv_iload_n hx hb d_Tc_notesFieldFits_88 rfl (lv_at hl 2 rfl) ?_
    refine lv_aload_n hx hb d_Tc_notesFieldFits_89 rfl (lv_at hl 0 rfl) ?_
    refine lv_iconst (v := (0 : Int32)) hx hb d_Tc_notesFieldFits_90 (by decide) ?_
    refine lv_iconst (v := (4 : Int32)) hx hb d_Tc_notesFieldFits_91 (by decide) ?_
    refine va_calli (va_runV (As := [.int (0 : Int32), .int (4 : Int32)]) (rest := [.int x]) ⟨hx, hb, hml, hown, hA⟩ (c_Tc_entryField l D tt ad N A zs w0 q qp u np up (0 : Int32) (4 : Int32) (⟨hn1, fa2⟩) hR1 (ho.2 hc3 hc7 hc17 hc21 hc25 hc29)) (cwV 2 hA (cd_gV aw_429 aw_430 aw_431 aw_7 aw_432) rfl rfl rfl ⟨rfl, by decide, by decide, by decide +kernel⟩ ⟨Nat.le_of_ble_eq_true rfl, Nat.le_of_ble_eq_true rfl⟩) ⟨cd_blind, cd_recv hK hP (k := q) (by omega) fa2 rfl, fun U hU hW => ⟨rfl, cd_pre hK hP hZ hS U hU hW⟩⟩ rfl rfl hl.1 rfl (lv_room (Nat.le_of_ble_eq_true rfl)) d_Tc_notesFieldFits_92 ⟨Nat.zero_le _, Nat.zero_le _⟩) hS (fun _ _ h => h) (fun _ h => h) (fun r30 w3 tE H locs ht hvm hr31 hP hz1 hk1 hS => ?_)
    have hP := cd_Pf ht hP
    obtain ⟨rfl, rfl⟩ := hr31
    refine lv_icmp_ne (tgt := 102) hx hb d_Tc_notesFieldFits_95 (by decide) (fun hc33 => ?_) (fun hc33 => ?_)
    · refine lv_iconst (v := (0 : Int32)) hx hb d_Tc_notesFieldFits_102 (by decide) ?_
      have hf34 : (f_Tc_notesFieldFits u np up k x) = (0 : Int32) := by rw [f_Tc_notesFieldFits, if_neg hc3, if_neg hc7, if_neg hc17, if_neg hc21, if_neg hc25, if_pos hc29, if_neg hc33]
      exact W.zret (ty := .boolean) (v := (0 : Int32)) hx hb hr rfl (fun tE ht _ => ⟨⟨_, w0, rfl, ⟨hf34, (Or.inl rfl), rfl⟩, cd_Pt ht hP⟩, hS.F ht⟩) hS.2.2 d_Tc_notesFieldFits_103
    · refine lv_iconst (v := (1 : Int32)) hx hb d_Tc_notesFieldFits_98 (by decide) ?_
      refine lv_goto (tgt := 103) hx hb d_Tc_notesFieldFits_99 (by decide) ?_
      have hf35 : (f_Tc_notesFieldFits u np up k x) = (1 : Int32) := by rw [f_Tc_notesFieldFits, if_neg hc3, if_neg hc7, if_neg hc17, if_neg hc21, if_neg hc25, if_pos hc29, if_pos hc33]
      exact W.zret (ty := .boolean) (v := (1 : Int32)) hx hb hr rfl (fun tE ht _ => ⟨⟨_, w0, rfl, ⟨hf35, (Or.inr rfl), rfl⟩, cd_Pt ht hP⟩, hS.F ht⟩) hS.2.2 d_Tc_notesFieldFits_103
  by_cases hc36 : k = (6 : Int32)
  · refine g_tabIn (tgt := 115) (off := 114) hx hb d_Tc_notesFieldFits_1 hc36 (by decide) (by decide) (by decide) (by decide) ?_
    refine lv_iload_n hx hb d_Tc_notesFieldFits_115 rfl (lv_at hl 2 rfl) ?_
    refine lv_if_ne (tgt := 123) hx hb d_Tc_notesFieldFits_116 (by decide) (fun hc37 => ?_) (fun hc37 => ?_)
    · refine lv_iconst (v := (0 : Int32)) hx hb d_Tc_notesFieldFits_123 (by decide) ?_
      have hf38 : (f_Tc_notesFieldFits u np up k x) = (0 : Int32) := by rw [f_Tc_notesFieldFits, if_neg hc3, if_neg hc7, if_neg hc17, if_neg hc21, if_neg hc25, if_neg hc29, if_pos hc36, if_neg hc37]
      exact W.zret (ty := .boolean) (v := (0 : Int32)) hx hb hr rfl (fun tE ht _ => ⟨⟨_, w0, rfl, ⟨hf38, (Or.inl rfl), rfl⟩, cd_Pt ht hP⟩, hS.F ht⟩) hS.2.2 d_Tc_notesFieldFits_124
    · refine lv_iconst (v := (1 : Int32)) hx hb d_Tc_notesFieldFits_119 (by decide) ?_
      refine lv_goto (tgt := 124) hx hb d_Tc_notesFieldFits_120 (by decide) ?_
      have hf39 : (f_Tc_notesFieldFits u np up k x) = (1 : Int32) := by rw [f_Tc_notesFieldFits, if_neg hc3, if_neg hc7, if_neg hc17, if_neg hc21, if_neg hc25, if_neg hc29, if_pos hc36, if_pos hc37]
      exact W.zret (ty := .boolean) (v := (1 : Int32)) hx hb hr rfl (fun tE ht _ => ⟨⟨_, w0, rfl, ⟨hf39, (Or.inr rfl), rfl⟩, cd_Pt ht hP⟩, hS.F ht⟩) hS.2.2 d_Tc_notesFieldFits_124
  by_cases hc40 : k = (7 : Int32)
  · refine g_tabIn (tgt := 104) (off := 103) hx hb d_Tc_notesFieldFits_1 hc40 (by decide) (by decide) (by decide) (by decide) ?_
    refine lv_iload_n hx hb d_Tc_notesFieldFits_104 rfl (lv_at hl 2 rfl) ?_
    refine lv_iconst (v := (4 : Int32)) hx hb d_Tc_notesFieldFits_105 (by decide) ?_
    refine lv_icmp_ne (tgt := 113) hx hb d_Tc_notesFieldFits_106 (by decide) (fun hc41 => ?_) (fun hc41 => ?_)
    · refine lv_iconst (v := (0 : Int32)) hx hb d_Tc_notesFieldFits_113 (by decide) ?_
      have hf42 : (f_Tc_notesFieldFits u np up k x) = (0 : Int32) := by rw [f_Tc_notesFieldFits, if_neg hc3, if_neg hc7, if_neg hc17, if_neg hc21, if_neg hc25, if_neg hc29, if_neg hc36, if_pos hc40, if_neg hc41]
      exact W.zret (ty := .boolean) (v := (0 : Int32)) hx hb hr rfl (fun tE ht _ => ⟨⟨_, w0, rfl, ⟨hf42, (Or.inl rfl), rfl⟩, cd_Pt ht hP⟩, hS.F ht⟩) hS.2.2 d_Tc_notesFieldFits_114
    · refine lv_iconst (v := (1 : Int32)) hx hb d_Tc_notesFieldFits_109 (by decide) ?_
      refine lv_goto (tgt := 114) hx hb d_Tc_notesFieldFits_110 (by decide) ?_
      have hf43 : (f_Tc_notesFieldFits u np up k x) = (1 : Int32) := by rw [f_Tc_notesFieldFits, if_neg hc3, if_neg hc7, if_neg hc17, if_neg hc21, if_neg hc25, if_neg hc29, if_neg hc36, if_pos hc40, if_pos hc41]
      exact W.zret (ty := .boolean) (v := (1 : Int32)) hx hb hr rfl (fun tE ht _ => ⟨⟨_, w0, rfl, ⟨hf43, (Or.inr rfl), rfl⟩, cd_Pt ht hP⟩, hS.F ht⟩) hS.2.2 d_Tc_notesFieldFits_114
  refine lv_tableOut (tgt := 115) hx hb d_Tc_notesFieldFits_1 (cd_out0_7 hc3 hc7 hc17 hc21 hc25 hc29 hc36 hc40) (by decide) ?_
  refine lv_iload_n hx hb d_Tc_notesFieldFits_115 rfl (lv_at hl 2 rfl) ?_
  refine lv_if_ne (tgt := 123) hx hb d_Tc_notesFieldFits_116 (by decide) (fun hc44 => ?_) (fun hc44 => ?_)
  · refine lv_iconst (v := (0 : Int32)) hx hb d_Tc_notesFieldFits_123 (by decide) ?_
    have hf45 : (f_Tc_notesFieldFits u np up k x) = (0 : Int32) := by rw [f_Tc_notesFieldFits, if_neg hc3, if_neg hc7, if_neg hc17, if_neg hc21, if_neg hc25, if_neg hc29, if_neg hc36, if_neg hc40, if_neg hc44]
    exact W.zret (ty := .boolean) (v := (0 : Int32)) hx hb hr rfl (fun tE ht _ => ⟨⟨_, w0, rfl, ⟨hf45, (Or.inl rfl), rfl⟩, cd_Pt ht hP⟩, hS.F ht⟩) hS.2.2 d_Tc_notesFieldFits_124
  · refine lv_iconst (v := (1 : Int32)) hx hb d_Tc_notesFieldFits_119 (by decide) ?_
    refine lv_goto (tgt := 124) hx hb d_Tc_notesFieldFits_120 (by decide) ?_
    have hf46 : (f_Tc_notesFieldFits u np up k x) = (1 : Int32) := by rw [f_Tc_notesFieldFits, if_neg hc3, if_neg hc7, if_neg hc17, if_neg hc21, if_neg hc25, if_neg hc29, if_neg hc36, if_neg hc40, if_pos hc44]
    exact W.zret (ty := .boolean) (v := (1 : Int32)) hx hb hr rfl (fun tE ht _ => ⟨⟨_, w0, rfl, ⟨hf46, (Or.inr rfl), rfl⟩, cd_Pt ht hP⟩, hS.F ht⟩) hS.2.2 d_Tc_notesFieldFits_124
def f_Tc_regionFieldFits (u : cd_Tc) (np : Nat) (up : cd_Row) (y : Int32) (k : Int32) (x : Int32) : Int32 := (if k = (0 : Int32) then (if x = (1 : Int32) then (1 : Int32) else (0 : Int32)) else (if k = (1 : Int32) then (if x < (f_Tc_fieldPlace u (f_Tc_entries u np up) (0 : Int32)) then (0 : Int32) else (1 : Int32)) else (if k = (2 : Int32) then (if x < 0 then (0 : Int32) else (if (x - x / (64 : Int32) * (64 : Int32)) = 0 then (1 : Int32) else (0 : Int32))) else (if k = (3 : Int32) then (if x = 0 then (1 : Int32) else (0 : Int32)) else (if k = (4 : Int32) then (if x < 0 then (0 : Int32) else (if (1024 : Int32) < x then (0 : Int32) else (if (x - x / (64 : Int32) * (64 : Int32)) = 0 then (1 : Int32) else (0 : Int32)))) else (if k = (5 : Int32) then (if (f_Mem_isSpan (f_Tc_entryField u np up y (2 : Int32)) x) = 0 then (0 : Int32) else (if x < (f_Tc_entryField u np up y (4 : Int32)) then (0 : Int32) else (1 : Int32))) else (if k = (6 : Int32) then (if x < 0 then (0 : Int32) else (if (7 : Int32) < x then (0 : Int32) else (1 : Int32))) else (if x = (64 : Int32) then (1 : Int32) else (0 : Int32)))))))))
def o_Tc_regionFieldFits (u : cd_Tc) (np : Nat) (up : cd_Row) (y : Int32) (k : Int32) (x : Int32) : Prop := (¬ k = (0 : Int32) → k = (1 : Int32) → o_Tc_entries u np up) ∧ (¬ k = (0 : Int32) → ¬ k = (1 : Int32) → ¬ k = (2 : Int32) → ¬ k = (3 : Int32) → ¬ k = (4 : Int32) → k = (5 : Int32) → o_Tc_entryField u np up y (2 : Int32)) ∧ (¬ k = (0 : Int32) → ¬ k = (1 : Int32) → ¬ k = (2 : Int32) → ¬ k = (3 : Int32) → ¬ k = (4 : Int32) → k = (5 : Int32) → ¬ (f_Mem_isSpan (f_Tc_entryField u np up y (2 : Int32)) x) = 0 → o_Tc_entryField u np up y (4 : Int32))
set_option maxHeartbeats 4000000 in
set_option maxRecDepth 100000 in
theorem c_Tc_regionFieldFits (l : Launch) (D : va_G) (tt : Nat → ClassId) (ad : Nat → Nat) (N : Nat) (A : Nat → Prop) (zs : Nat → Nat) (w0 : Nat → va_E) (q qp : Nat) (u : cd_Tc) (np : Nat) (up : cd_Row) (y : Int32) (k : Int32) (x : Int32) (hR0 : cd_TcAt N tt ad w0 q qp u) (hR1 : cd_RowAt N tt ad w0 qp np up) (ho : o_Tc_regionFieldFits u np up y k x) : Met l y_Tc_regionFieldFits w_Tc_regionFieldFits ({ frames := 2, cells := 0, slots := 0, locals := 46 }) (va_Pc [.ref (ad q), .int y, .int k, .int x] (cd_U D tt ad N A zs w0)) (va_Qi (fun r w' => (f_Tc_regionFieldFits u np up y k x) = r ∧ (r = 0 ∨ r = 1) ∧ w0 = w') (fun w' t => cd_P D ad N A w' t.heap) A) 0 0 A := by
  refine Met.ofW (cc := b_Tc_regionFieldFits) (maxL := 4) (ret := (some .boolean)) (by decide) rfl ?_
  intro p e s m args below meth c s₁ B hml hv
  obtain ⟨rfl, hP, hK, hZ⟩ := hv
  have hx := B.exec
  have hb := B.bytes
  have hr := B.returns
  have hA : ∀ w ∈ cd_AW, w.before _ s = true := fun w h => atoms_spec (ws := w_Tc_regionFieldFits) B.pre w (List.mem_cons_of_mem _ h)
  have hown : s.vm.findClass R_Tc = some m.cls := findClass_of_methodNamed B.named
  have hlocks := B.notSynchronized
  have hS : va_S A s.heap s.heap [] := va_S.rf
  have hl := lv_entry ([.ref (ad q), .int y, .int k, .int x]) (n := 4) (Nat.le_of_ble_eq_true rfl)
  rw [lg_entry_eq]
  generalize (lg_sl ([.ref (ad q), .int y, .int k, .int x]) ++ List.replicate (4 - (lg_sl ([.ref (ad q), .int y, .int k, .int x])).length) Slot.unset).toArray = ls at hl ⊢
  have hl : lv_has ls 4 [(0, .ref (ad q)), (1, .int y), (2, .int k), (3, .int x)] := hl
  have ho : (¬ k = (0 : Int32) → k = (1 : Int32) → o_Tc_entries u np up) ∧ (¬ k = (0 : Int32) → ¬ k = (1 : Int32) → ¬ k = (2 : Int32) → ¬ k = (3 : Int32) → ¬ k = (4 : Int32) → k = (5 : Int32) → o_Tc_entryField u np up y (2 : Int32)) ∧ (¬ k = (0 : Int32) → ¬ k = (1 : Int32) → ¬ k = (2 : Int32) → ¬ k = (3 : Int32) → ¬ k = (4 : Int32) → k = (5 : Int32) → ¬ (f_Mem_isSpan (f_Tc_entryField u np up y (2 : Int32)) x) = 0 → o_Tc_entryField u np up y (4 : Int32)) := ho
  obtain ⟨hn1, fa2⟩ := hR0
  refine lv_iload_n hx hb d_Tc_regionFieldFits_0 rfl (lv_at hl 2 rfl) ?_
  by_cases hc3 : k = (0 : Int32)
  · refine g_tabIn (tgt := 44) (off := 43) hx hb d_Tc_regionFieldFits_1 hc3 (by decide) (by decide) (by decide) (by decide) ?_
    refine lv_iload_n hx hb d_Tc_regionFieldFits_44 rfl (lv_at hl 3 rfl) ?_
    refine lv_iconst (v := (1 : Int32)) hx hb d_Tc_regionFieldFits_45 (by decide) ?_
    refine lv_icmp_ne (tgt := 53) hx hb d_Tc_regionFieldFits_46 (by decide) (fun hc4 => ?_) (fun hc4 => ?_)
    · refine lv_iconst (v := (0 : Int32)) hx hb d_Tc_regionFieldFits_53 (by decide) ?_
      have hf5 : (f_Tc_regionFieldFits u np up y k x) = (0 : Int32) := by rw [f_Tc_regionFieldFits, if_pos hc3, if_neg hc4]
      exact W.zret (ty := .boolean) (v := (0 : Int32)) hx hb hr rfl (fun tE ht _ => ⟨⟨_, w0, rfl, ⟨hf5, (Or.inl rfl), rfl⟩, cd_Pt ht hP⟩, hS.F ht⟩) hS.2.2 d_Tc_regionFieldFits_54
    · refine lv_iconst (v := (1 : Int32)) hx hb d_Tc_regionFieldFits_49 (by decide) ?_
      refine lv_goto (tgt := 54) hx hb d_Tc_regionFieldFits_50 (by decide) ?_
      have hf6 : (f_Tc_regionFieldFits u np up y k x) = (1 : Int32) := by rw [f_Tc_regionFieldFits, if_pos hc3, if_pos hc4]
      exact W.zret (ty := .boolean) (v := (1 : Int32)) hx hb hr rfl (fun tE ht _ => ⟨⟨_, w0, rfl, ⟨hf6, (Or.inr rfl), rfl⟩, cd_Pt ht hP⟩, hS.F ht⟩) hS.2.2 d_Tc_regionFieldFits_54
  by_cases hc7 : k = (1 : Int32)
  · refine g_tabIn (tgt := 55) (off := 54) hx hb d_Tc_regionFieldFits_1 hc7 (by decide) (by decide) (by decide) (by decide) ?_
    refine lv_iload_n hx hb d_Tc_regionFieldFits_55 rfl (lv_at hl 3 rfl) ?_
    refine lv_aload_n hx hb d_Tc_regionFieldFits_56 rfl (lv_at hl 0 rfl) ?_
    refine lv_aload_n hx hb d_Tc_regionFieldFits_57 rfl (lv_at hl 0 rfl) ?_
    refine va_calli (va_runV (As := []) (rest := [.ref (ad q), .int x]) ⟨hx, hb, hml, hown, hA⟩ (c_Tc_entries l D tt ad N A zs w0 q qp u np up (⟨hn1, fa2⟩) hR1 (ho.1 hc3 hc7)) (cwV 0 hA (cd_gV aw_416 aw_417 aw_418 aw_7 aw_419) rfl rfl rfl ⟨rfl, by decide, by decide, by decide +kernel⟩ ⟨Nat.le_of_ble_eq_true rfl, Nat.le_of_ble_eq_true rfl⟩) ⟨cd_blind, cd_recv hK hP (k := q) (by omega) fa2 rfl, fun U hU hW => ⟨rfl, cd_pre hK hP hZ hS U hU hW⟩⟩ rfl rfl hl.1 rfl (lv_room (Nat.le_of_ble_eq_true rfl)) d_Tc_regionFieldFits_58 ⟨Nat.zero_le _, Nat.zero_le _⟩) hS (fun _ _ h => h) (fun _ h => h) (fun r8 w1 tE H locs ht hvm hr9 hP hz1 hk1 hS => ?_)
    have hP := cd_Pf ht hP
    obtain ⟨rfl, rfl⟩ := hr9
    refine lv_iconst (v := (0 : Int32)) hx hb d_Tc_regionFieldFits_61 (by decide) ?_
    refine va_calli (va_runV (As := [.int (f_Tc_entries u np up), .int (0 : Int32)]) (rest := [.int x]) ⟨hx, hb, hml, hown, hA⟩ (c_Tc_fieldPlace l D tt ad N A zs w0 q qp u (f_Tc_entries u np up) (0 : Int32) (⟨hn1, fa2⟩)) (cwV 2 hA (cd_gV aw_420 aw_421 aw_770 aw_7 aw_422) rfl rfl rfl ⟨rfl, by decide, by decide, by decide +kernel⟩ ⟨Nat.le_of_ble_eq_true rfl, Nat.le_of_ble_eq_true rfl⟩) ⟨cd_blind, cd_recv hK hP (k := q) (by omega) fa2 rfl, fun U hU hW => ⟨rfl, cd_pre hK hP hZ hS U hU hW⟩⟩ rfl rfl hl.1 rfl (lv_room (Nat.le_of_ble_eq_true rfl)) d_Tc_regionFieldFits_62 ⟨Nat.zero_le _, Nat.zero_le _⟩) hS (fun _ _ h => h) (fun _ h => h) (fun r11 w2 tE H locs ht hvm hr12 hP hz1 hk1 hS => ?_)
    have hP := cd_Pf ht hP
    obtain ⟨rfl, rfl⟩ := hr12
    refine lv_icmp_lt (tgt := 72) hx hb d_Tc_regionFieldFits_65 (by decide) (fun hc14 => ?_) (fun hc14 => ?_)
    · refine lv_iconst (v := (0 : Int32)) hx hb d_Tc_regionFieldFits_72 (by decide) ?_
      have hf15 : (f_Tc_regionFieldFits u np up y k x) = (0 : Int32) := by rw [f_Tc_regionFieldFits, if_neg hc3, if_pos hc7, if_pos hc14]
      exact W.zret (ty := .boolean) (v := (0 : Int32)) hx hb hr rfl (fun tE ht _ => ⟨⟨_, w0, rfl, ⟨hf15, (Or.inl rfl), rfl⟩, cd_Pt ht hP⟩, hS.F ht⟩) hS.2.2 d_Tc_regionFieldFits_73
    · refine lv_iconst (v := (1 : Int32)) hx hb d_Tc_regionFieldFits_68 (by decide) ?_
      refine lv_goto (tgt := 73) hx hb d_Tc_regionFieldFits_69 (by decide) ?_
      have hf16 : (f_Tc_regionFieldFits u np up y k x) = (1 : Int32) := by rw [f_Tc_regionFieldFits, if_neg hc3, if_pos hc7, if_neg hc14]
      exact W.zret (ty := .boolean) (v := (1 : Int32)) hx hb hr rfl (fun tE ht _ => ⟨⟨_, w0, rfl, ⟨hf16, (Or.inr rfl), rfl⟩, cd_Pt ht hP⟩, hS.F ht⟩) hS.2.2 d_Tc_regionFieldFits_73
  by_cases hc17 : k = (2 : Int32)
  · refine g_tabIn (tgt := 74) (off := 73) hx hb d_Tc_regionFieldFits_1 hc17 (by decide) (by decide) (by decide) (by decide) ?_
    refine lv_iload_n hx hb d_Tc_regionFieldFits_74 rfl (lv_at hl 3 rfl) ?_
    refine lv_if_lt (tgt := 89) hx hb d_Tc_regionFieldFits_75 (by decide) (fun hc18 => ?_) (fun hc18 => ?_)
    · refine lv_iconst (v := (0 : Int32)) hx hb d_Tc_regionFieldFits_89 (by decide) ?_
      have hf19 : (f_Tc_regionFieldFits u np up y k x) = (0 : Int32) := by rw [f_Tc_regionFieldFits, if_neg hc3, if_neg hc7, if_pos hc17, if_pos hc18]
      exact W.zret (ty := .boolean) (v := (0 : Int32)) hx hb hr rfl (fun tE ht _ => ⟨⟨_, w0, rfl, ⟨hf19, (Or.inl rfl), rfl⟩, cd_Pt ht hP⟩, hS.F ht⟩) hS.2.2 d_Tc_regionFieldFits_90
    · refine lv_iload_n hx hb d_Tc_regionFieldFits_78 rfl (lv_at hl 3 rfl) ?_
      refine lv_bipush (v := (64 : Int32)) hx hb d_Tc_regionFieldFits_79 (by decide) ?_
      refine lv_irem hx hb d_Tc_regionFieldFits_81 (by decide) ?_
      refine lv_if_ne (tgt := 89) hx hb d_Tc_regionFieldFits_82 (by decide) (fun hc20 => ?_) (fun hc20 => ?_)
      · refine lv_iconst (v := (0 : Int32)) hx hb d_Tc_regionFieldFits_89 (by decide) ?_
        have hf21 : (f_Tc_regionFieldFits u np up y k x) = (0 : Int32) := by rw [f_Tc_regionFieldFits, if_neg hc3, if_neg hc7, if_pos hc17, if_neg hc18, if_neg hc20]
        exact W.zret (ty := .boolean) (v := (0 : Int32)) hx hb hr rfl (fun tE ht _ => ⟨⟨_, w0, rfl, ⟨hf21, (Or.inl rfl), rfl⟩, cd_Pt ht hP⟩, hS.F ht⟩) hS.2.2 d_Tc_regionFieldFits_90
      · refine lv_iconst (v := (1 : Int32)) hx hb d_Tc_regionFieldFits_85 (by decide) ?_
        refine lv_goto (tgt := 90) hx hb d_Tc_regionFieldFits_86 (by decide) ?_
        have hf22 : (f_Tc_regionFieldFits u np up y k x) = (1 : Int32) := by rw [f_Tc_regionFieldFits, if_neg hc3, if_neg hc7, if_pos hc17, if_neg hc18, if_pos hc20]
        exact W.zret (ty := .boolean) (v := (1 : Int32)) hx hb hr rfl (fun tE ht _ => ⟨⟨_, w0, rfl, ⟨hf22, (Or.inr rfl), rfl⟩, cd_Pt ht hP⟩, hS.F ht⟩) hS.2.2 d_Tc_regionFieldFits_90
  by_cases hc23 : k = (3 : Int32)
  · refine g_tabIn (tgt := 91) (off := 90) hx hb d_Tc_regionFieldFits_1 hc23 (by decide) (by decide) (by decide) (by decide) ?_
    refine lv_iload_n hx hb d_Tc_regionFieldFits_91 rfl (lv_at hl 3 rfl) ?_
    refine lv_if_ne (tgt := 99) hx hb d_Tc_regionFieldFits_92 (by decide) (fun hc24 => ?_) (fun hc24 => ?_)
    · refine lv_iconst (v := (0 : Int32)) hx hb d_Tc_regionFieldFits_99 (by decide) ?_
      have hf25 : (f_Tc_regionFieldFits u np up y k x) = (0 : Int32) := by rw [f_Tc_regionFieldFits, if_neg hc3, if_neg hc7, if_neg hc17, if_pos hc23, if_neg hc24]
      exact W.zret (ty := .boolean) (v := (0 : Int32)) hx hb hr rfl (fun tE ht _ => ⟨⟨_, w0, rfl, ⟨hf25, (Or.inl rfl), rfl⟩, cd_Pt ht hP⟩, hS.F ht⟩) hS.2.2 d_Tc_regionFieldFits_100
    · refine lv_iconst (v := (1 : Int32)) hx hb d_Tc_regionFieldFits_95 (by decide) ?_
      refine lv_goto (tgt := 100) hx hb d_Tc_regionFieldFits_96 (by decide) ?_
      have hf26 : (f_Tc_regionFieldFits u np up y k x) = (1 : Int32) := by rw [f_Tc_regionFieldFits, if_neg hc3, if_neg hc7, if_neg hc17, if_pos hc23, if_pos hc24]
      exact W.zret (ty := .boolean) (v := (1 : Int32)) hx hb hr rfl (fun tE ht _ => ⟨⟨_, w0, rfl, ⟨hf26, (Or.inr rfl), rfl⟩, cd_Pt ht hP⟩, hS.F ht⟩) hS.2.2 d_Tc_regionFieldFits_100
  by_cases hc27 : k = (4 : Int32)
  · refine g_tabIn (tgt := 101) (off := 100) hx hb d_Tc_regionFieldFits_1 hc27 (by decide) (by decide) (by decide) (by decide) ?_
    refine lv_iload_n hx hb d_Tc_regionFieldFits_101 rfl (lv_at hl 3 rfl) ?_
    refine lv_if_lt (tgt := 123) hx hb d_Tc_regionFieldFits_102 (by decide) (fun hc28 => ?_) (fun hc28 => ?_)
    · refine lv_iconst (v := (0 : Int32)) hx hb d_Tc_regionFieldFits_123 (by decide) ?_
      have hf29 : (f_Tc_regionFieldFits u np up y k x) = (0 : Int32) := by rw [f_Tc_regionFieldFits, if_neg hc3, if_neg hc7, if_neg hc17, if_neg hc23, if_pos hc27, if_pos hc28]
      exact W.zret (ty := .boolean) (v := (0 : Int32)) hx hb hr rfl (fun tE ht _ => ⟨⟨_, w0, rfl, ⟨hf29, (Or.inl rfl), rfl⟩, cd_Pt ht hP⟩, hS.F ht⟩) hS.2.2 d_Tc_regionFieldFits_124
    · refine lv_iload_n hx hb d_Tc_regionFieldFits_105 rfl (lv_at hl 3 rfl) ?_
      refine lv_sipush (v := (1024 : Int32)) hx hb d_Tc_regionFieldFits_106 (by decide) ?_
      refine lv_icmp_gt (tgt := 123) hx hb d_Tc_regionFieldFits_109 (by decide) (fun hc30 => ?_) (fun hc30 => ?_)
      · refine lv_iconst (v := (0 : Int32)) hx hb d_Tc_regionFieldFits_123 (by decide) ?_
        have hf31 : (f_Tc_regionFieldFits u np up y k x) = (0 : Int32) := by rw [f_Tc_regionFieldFits, if_neg hc3, if_neg hc7, if_neg hc17, if_neg hc23, if_pos hc27, if_neg hc28, if_pos hc30]
        exact W.zret (ty := .boolean) (v := (0 : Int32)) hx hb hr rfl (fun tE ht _ => ⟨⟨_, w0, rfl, ⟨hf31, (Or.inl rfl), rfl⟩, cd_Pt ht hP⟩, hS.F ht⟩) hS.2.2 d_Tc_regionFieldFits_124
      · refine lv_iload_n hx hb d_Tc_regionFieldFits_112 rfl (lv_at hl 3 rfl) ?_
        refine lv_bipush (v := (64 : Int32)) hx hb d_Tc_regionFieldFits_113 (by decide) ?_
        refine lv_irem hx hb d_Tc_regionFieldFits_115 (by decide) ?_
        refine lv_if_ne (tgt := 123) hx hb d_Tc_regionFieldFits_116 (by decide) (fun hc32 => ?_) (fun hc32 => ?_)
        · refine lv_iconst (v := (0 : Int32)) hx hb d_Tc_regionFieldFits_123 (by decide) ?_
          have hf33 : (f_Tc_regionFieldFits u np up y k x) = (0 : Int32) := by rw [f_Tc_regionFieldFits, if_neg hc3, if_neg hc7, if_neg hc17, if_neg hc23, if_pos hc27, if_neg hc28, if_neg hc30, if_neg hc32]
          exact W.zret (ty := .boolean) (v := (0 : Int32)) hx hb hr rfl (fun tE ht _ => ⟨⟨_, w0, rfl, ⟨hf33, (Or.inl rfl), rfl⟩, cd_Pt ht hP⟩, hS.F ht⟩) hS.2.2 d_Tc_regionFieldFits_124
        · refine lv_iconst (v := (1 : Int32)) hx hb d_Tc_regionFieldFits_119 (by decide) ?_
          refine lv_goto (tgt := 124) hx hb d_Tc_regionFieldFits_120 (by decide) ?_
          have hf34 : (f_Tc_regionFieldFits u np up y k x) = (1 : Int32) := by rw [f_Tc_regionFieldFits, if_neg hc3, if_neg hc7, if_neg hc17, if_neg hc23, if_pos hc27, if_neg hc28, if_neg hc30, if_pos hc32]
          exact W.zret (ty := .boolean) (v := (1 : Int32)) hx hb hr rfl (fun tE ht _ => ⟨⟨_, w0, rfl, ⟨hf34, (Or.inr rfl), rfl⟩, cd_Pt ht hP⟩, hS.F ht⟩) hS.2.2 d_Tc_regionFieldFits_124
  by_cases hc35 : k = (5 : Int32)
  · refine g_tabIn (tgt := 125) (off := 124) hx hb d_Tc_regionFieldFits_1 hc35 (by decide) (by decide) (by decide) (by decide) ?_
    refine lv_aload_n hx hb d_Tc_regionFieldFits_125 rfl (lv_at hl 0 rfl) ?_
    refine lv_iload_n hx hb d_Tc_regionFieldFits_126 rfl (lv_at hl 1 rfl) ?_
    refine lv_iconst (v := (2 : Int32)) hx hb d_Tc_regionFieldFits_127 (by decide) ?_
    refine va_calli (va_runV (As := [.int y, .int (2 : Int32)]) (rest := []) ⟨hx, hb, hml, hown, hA⟩ (c_Tc_entryField l D tt ad N A zs w0 q qp u np up y (2 : Int32) (⟨hn1, fa2⟩) hR1 (ho.2.1 hc3 hc7 hc17 hc23 hc27 hc35)) (cwV 2 hA (cd_gV aw_429 aw_430 aw_431 aw_7 aw_432) rfl rfl rfl ⟨rfl, by decide, by decide, by decide +kernel⟩ ⟨Nat.le_of_ble_eq_true rfl, Nat.le_of_ble_eq_true rfl⟩) ⟨cd_blind, cd_recv hK hP (k := q) (by omega) fa2 rfl, fun U hU hW => ⟨rfl, cd_pre hK hP hZ hS U hU hW⟩⟩ rfl rfl hl.1 rfl (lv_room (Nat.le_of_ble_eq_true rfl)) d_Tc_regionFieldFits_128 ⟨Nat.zero_le _, Nat.zero_le _⟩) hS (fun _ _ h => h) (fun _ h => h) (fun r36 w3 tE H locs ht hvm hr37 hP hz1 hk1 hS => ?_)
    have hP := cd_Pf ht hP
    obtain ⟨rfl, rfl⟩ := hr37
    refine lv_iload_n hx hb d_Tc_regionFieldFits_131 rfl (lv_at hl 3 rfl) ?_
    refine va_calli (va_runS (As := [.int (f_Tc_entryField u np up y (2 : Int32)), .int x]) (rest := []) ⟨hx, hb, hml, hown, hA⟩ (c_Mem_isSpan l D tt ad N A zs w0 (f_Tc_entryField u np up y (2 : Int32)) x) (va_cwS 2 hA (cd_gSx aw_439 aw_127 aw_2 aw_128) rfl rfl rfl ⟨by decide, by decide, by decide +kernel⟩ ⟨Nat.le_of_ble_eq_true rfl, Nat.le_of_ble_eq_true rfl⟩) ⟨cd_blind, fun U hU hW => ⟨rfl, cd_pre hK hP hZ hS U hU hW⟩⟩ rfl rfl hl.1 rfl (lv_room (Nat.le_of_ble_eq_true rfl)) d_Tc_regionFieldFits_132 ⟨Nat.zero_le _, Nat.zero_le _⟩) hS (fun _ _ h => h) (fun _ h => h) (fun r39 w4 tE H locs ht hvm hr40 hP hz1 hk1 hS => ?_)
    have hP := cd_Pf ht hP
    obtain ⟨rfl, hbo42, rfl⟩ := hr40
    refine lv_if_eq (tgt := 152) hx hb d_Tc_regionFieldFits_135 (by decide) (fun hc43 => ?_) (fun hc43 => ?_)
    · refine lv_iconst (v := (0 : Int32)) hx hb d_Tc_regionFieldFits_152 (by decide) ?_
      have hf44 : (f_Tc_regionFieldFits u np up y k x) = (0 : Int32) := by rw [f_Tc_regionFieldFits, if_neg hc3, if_neg hc7, if_neg hc17, if_neg hc23, if_neg hc27, if_pos hc35, if_pos hc43]
      exact W.zret (ty := .boolean) (v := (0 : Int32)) hx hb hr rfl (fun tE ht _ => ⟨⟨_, w0, rfl, ⟨hf44, (Or.inl rfl), rfl⟩, cd_Pt ht hP⟩, hS.F ht⟩) hS.2.2 d_Tc_regionFieldFits_153
    · refine lv_iload_n hx hb d_Tc_regionFieldFits_138 rfl (lv_at hl 3 rfl) ?_
      refine lv_aload_n hx hb d_Tc_regionFieldFits_139 rfl (lv_at hl 0 rfl) ?_
      refine lv_iload_n hx hb d_Tc_regionFieldFits_140 rfl (lv_at hl 1 rfl) ?_
      refine lv_iconst (v := (4 : Int32)) hx hb d_Tc_regionFieldFits_141 (by decide) ?_
      refine va_calli (va_runV (As := [.int y, .int (4 : Int32)]) (rest := [.int x]) ⟨hx, hb, hml, hown, hA⟩ (c_Tc_entryField l D tt ad N A zs w0 q qp u np up y (4 : Int32) (⟨hn1, fa2⟩) hR1 (ho.2.2 hc3 hc7 hc17 hc23 hc27 hc35 hc43)) (cwV 2 hA (cd_gV aw_429 aw_430 aw_431 aw_7 aw_432) rfl rfl rfl ⟨rfl, by decide, by decide, by decide +kernel⟩ ⟨Nat.le_of_ble_eq_true rfl, Nat.le_of_ble_eq_true rfl⟩) ⟨cd_blind, cd_recv hK hP (k := q) (by omega) fa2 rfl, fun U hU hW => ⟨rfl, cd_pre hK hP hZ hS U hU hW⟩⟩ rfl rfl hl.1 rfl (lv_room (Nat.le_of_ble_eq_true rfl)) d_Tc_regionFieldFits_142 ⟨Nat.zero_le _, Nat.zero_le _⟩) hS (fun _ _ h => h) (fun _ h => h) (fun r45 w5 tE H locs ht hvm hr46 hP hz1 hk1 hS => ?_)
      have hP := cd_Pf ht hP
      obtain ⟨rfl, rfl⟩ := hr46
      refine lv_icmp_lt (tgt := 152) hx hb d_Tc_regionFieldFits_145 (by decide) (fun hc48 => ?_) (fun hc48 => ?_)
      · refine lv_iconst (v := (0 : Int32)) hx hb d_Tc_regionFieldFits_152 (by decide) ?_
        have hf49 : (f_Tc_regionFieldFits u np up y k x) = (0 : Int32) := by rw [f_Tc_regionFieldFits, if_neg hc3, if_neg hc7, if_neg hc17, if_neg hc23, if_neg hc27, if_pos hc35, if_neg hc43, if_pos hc48]
        exact W.zret (ty := .boolean) (v := (0 : Int32)) hx hb hr rfl (fun tE ht _ => ⟨⟨_, w0, rfl, ⟨hf49, (Or.inl rfl), rfl⟩, cd_Pt ht hP⟩, hS.F ht⟩) hS.2.2 d_Tc_regionFieldFits_153
      · refine lv_iconst (v := (1 : Int32)) hx hb d_Tc_regionFieldFits_148 (by decide) ?_
        refine lv_goto (tgt := 153) hx hb d_Tc_regionFieldFits_149 (by decide) ?_
        have hf50 : (f_Tc_regionFieldFits u np up y k x) = (1 : Int32) := by rw [f_Tc_regionFieldFits, if_neg hc3, if_neg hc7, if_neg hc17, if_neg hc23, if_neg hc27, if_pos hc35, if_neg hc43, if_neg hc48]
        exact W.zret (ty := .boolean) (v := (1 : Int32)) hx hb hr rfl (fun tE ht _ => ⟨⟨_, w0, rfl, ⟨hf50, (Or.inr rfl), rfl⟩, cd_Pt ht hP⟩, hS.F ht⟩) hS.2.2 d_Tc_regionFieldFits_153
  by_cases hc51 : k = (6 : Int32)
  · refine g_tabIn (tgt := 154) (off := 153) hx hb d_Tc_regionFieldFits_1 hc51 (by decide) (by decide) (by decide) (by decide) ?_
    refine lv_iload_n hx hb d_Tc_regionFieldFits_154 rfl (lv_at hl 3 rfl) ?_
    refine lv_if_lt (tgt := 168) hx hb d_Tc_regionFieldFits_155 (by decide) (fun hc52 => ?_) (fun hc52 => ?_)
    · refine lv_iconst (v := (0 : Int32)) hx hb d_Tc_regionFieldFits_168 (by decide) ?_
      have hf53 : (f_Tc_regionFieldFits u np up y k x) = (0 : Int32) := by rw [f_Tc_regionFieldFits, if_neg hc3, if_neg hc7, if_neg hc17, if_neg hc23, if_neg hc27, if_neg hc35, if_pos hc51, if_pos hc52]
      exact W.zret (ty := .boolean) (v := (0 : Int32)) hx hb hr rfl (fun tE ht _ => ⟨⟨_, w0, rfl, ⟨hf53, (Or.inl rfl), rfl⟩, cd_Pt ht hP⟩, hS.F ht⟩) hS.2.2 d_Tc_regionFieldFits_169
    · refine lv_iload_n hx hb d_Tc_regionFieldFits_158 rfl (lv_at hl 3 rfl) ?_
      refine lv_bipush (v := (7 : Int32)) hx hb d_Tc_regionFieldFits_159 (by decide) ?_
      refine lv_icmp_gt (tgt := 168) hx hb d_Tc_regionFieldFits_161 (by decide) (fun hc54 => ?_) (fun hc54 => ?_)
      · refine lv_iconst (v := (0 : Int32)) hx hb d_Tc_regionFieldFits_168 (by decide) ?_
        have hf55 : (f_Tc_regionFieldFits u np up y k x) = (0 : Int32) := by rw [f_Tc_regionFieldFits, if_neg hc3, if_neg hc7, if_neg hc17, if_neg hc23, if_neg hc27, if_neg hc35, if_pos hc51, if_neg hc52, if_pos hc54]
        exact W.zret (ty := .boolean) (v := (0 : Int32)) hx hb hr rfl (fun tE ht _ => ⟨⟨_, w0, rfl, ⟨hf55, (Or.inl rfl), rfl⟩, cd_Pt ht hP⟩, hS.F ht⟩) hS.2.2 d_Tc_regionFieldFits_169
      · refine lv_iconst (v := (1 : Int32)) hx hb d_Tc_regionFieldFits_164 (by decide) ?_
        refine lv_goto (tgt := 169) hx hb d_Tc_regionFieldFits_165 (by decide) ?_
        have hf56 : (f_Tc_regionFieldFits u np up y k x) = (1 : Int32) := by rw [f_Tc_regionFieldFits, if_neg hc3, if_neg hc7, if_neg hc17, if_neg hc23, if_neg hc27, if_neg hc35, if_pos hc51, if_neg hc52, if_neg hc54]
        exact W.zret (ty := .boolean) (v := (1 : Int32)) hx hb hr rfl (fun tE ht _ => ⟨⟨_, w0, rfl, ⟨hf56, (Or.inr rfl), rfl⟩, cd_Pt ht hP⟩, hS.F ht⟩) hS.2.2 d_Tc_regionFieldFits_169
  refine lv_tableOut (tgt := 170) hx hb d_Tc_regionFieldFits_1 (cd_out0_6 hc3 hc7 hc17 hc23 hc27 hc35 hc51) (by decide) ?_
  refine lv_iload_n hx hb d_Tc_regionFieldFits_170 rfl (lv_at hl 3 rfl) ?_
  refine lv_bipush (v := (64 : Int32)) hx hb d_Tc_regionFieldFits_171 (by decide) ?_
  refine lv_icmp_ne (tgt := 180) hx hb d_Tc_regionFieldFits_173 (by decide) (fun hc57 => ?_) (fun hc57 => ?_)
  · refine lv_iconst (v := (0 : Int32)) hx hb d_Tc_regionFieldFits_180 (by decide) ?_
    have hf58 : (f_Tc_regionFieldFits u np up y k x) = (0 : Int32) := by rw [f_Tc_regionFieldFits, if_neg hc3, if_neg hc7, if_neg hc17, if_neg hc23, if_neg hc27, if_neg hc35, if_neg hc51, if_neg hc57]
    exact W.zret (ty := .boolean) (v := (0 : Int32)) hx hb hr rfl (fun tE ht _ => ⟨⟨_, w0, rfl, ⟨hf58, (Or.inl rfl), rfl⟩, cd_Pt ht hP⟩, hS.F ht⟩) hS.2.2 d_Tc_regionFieldFits_181
  · refine lv_iconst (v := (1 : Int32)) hx hb d_Tc_regionFieldFits_176 (by decide) ?_
    refine lv_goto (tgt := 181) hx hb d_Tc_regionFieldFits_177 (by decide) ?_
    have hf59 : (f_Tc_regionFieldFits u np up y k x) = (1 : Int32) := by rw [f_Tc_regionFieldFits, if_neg hc3, if_neg hc7, if_neg hc17, if_neg hc23, if_neg hc27, if_neg hc35, if_neg hc51, if_pos hc57]
    exact W.zret (ty := .boolean) (v := (1 : Int32)) hx hb hr rfl (fun tE ht _ => ⟨⟨_, w0, rfl, ⟨hf59, (Or.inr rfl), rfl⟩, cd_Pt ht hP⟩, hS.F ht⟩) hS.2.2 d_Tc_regionFieldFits_181
def f_Tc_fieldsPass_L2 (u : cd_Tc) (np : Nat) (up : cd_Row) (k : Int32) : Nat → Int32 → Int32 × cd_Tc
  | 0, _ => default
  | gn + 1, i => (if (8 : Int32) ≤ i then ((1 : Int32), u) else (if k = 0 then (if (f_Tc_notesFieldFits u np up i (f_Tc_entryField u np up k i)) = 0 then ((f_Tc_refuse u (3 : Int32) (f_Tc_fieldPlace u k i)).1, (f_Tc_refuse u (3 : Int32) (f_Tc_fieldPlace u k i)).2) else (f_Tc_fieldsPass_L2 u np up k gn (i + (1 : Int32)))) else (if (f_Tc_regionFieldFits u np up k i (f_Tc_entryField u np up k i)) = 0 then ((f_Tc_refuse u (3 : Int32) (f_Tc_fieldPlace u k i)).1, (f_Tc_refuse u (3 : Int32) (f_Tc_fieldPlace u k i)).2) else (f_Tc_fieldsPass_L2 u np up k gn (i + (1 : Int32))))))
def f_Tc_fieldsPass (u : cd_Tc) (np : Nat) (up : cd_Row) (k : Int32) : Int32 × cd_Tc := (f_Tc_fieldsPass_L2 u np up k 9 (0 : Int32))
def o_Tc_fieldsPass_L2 (u : cd_Tc) (np : Nat) (up : cd_Row) (k : Int32) : Nat → Int32 → Prop
  | 0, _ => False
  | gn + 1, i => (¬ (8 : Int32) ≤ i → o_Tc_entryField u np up k i) ∧ (¬ (8 : Int32) ≤ i → ¬ k = 0 → o_Tc_regionFieldFits u np up k i (f_Tc_entryField u np up k i)) ∧ (¬ (8 : Int32) ≤ i → ¬ k = 0 → ¬ (f_Tc_regionFieldFits u np up k i (f_Tc_entryField u np up k i)) = 0 → o_Tc_fieldsPass_L2 u np up k gn (i + (1 : Int32))) ∧ (¬ (8 : Int32) ≤ i → k = 0 → o_Tc_notesFieldFits u np up i (f_Tc_entryField u np up k i)) ∧ (¬ (8 : Int32) ≤ i → k = 0 → ¬ (f_Tc_notesFieldFits u np up i (f_Tc_entryField u np up k i)) = 0 → o_Tc_fieldsPass_L2 u np up k gn (i + (1 : Int32)))
def o_Tc_fieldsPass (u : cd_Tc) (np : Nat) (up : cd_Row) (k : Int32) : Prop := (o_Tc_fieldsPass_L2 u np up k 9 (0 : Int32))
set_option maxHeartbeats 4000000 in
set_option maxRecDepth 100000 in
theorem c_Tc_fieldsPass (l : Launch) (D : va_G) (tt : Nat → ClassId) (ad : Nat → Nat) (N : Nat) (A : Nat → Prop) (zs : Nat → Nat) (w0 : Nat → va_E) (q qp : Nat) (u : cd_Tc) (np : Nat) (up : cd_Row) (k : Int32) (hR0 : cd_TcAt N tt ad w0 q qp u) (hR1 : cd_RowAt N tt ad w0 qp np up) (hap0 : qp + 2 ≤ q ∨ q + 4 ≤ qp) (ho : o_Tc_fieldsPass u np up k) : Met l y_Tc_fieldsPass w_Tc_fieldsPass ({ frames := 3, cells := 0, slots := 0, locals := 69 }) (va_Pc [.ref (ad q), .int k] (cd_U D tt ad N A zs w0)) (va_Qi (fun r w' => (f_Tc_fieldsPass u np up k).1 = r ∧ (r = 0 ∨ r = 1) ∧ cd_TcAt N tt ad w' q qp ((f_Tc_fieldsPass u np up k).2) ∧ (∀ k : Nat, (k < q ∨ q + 1 ≤ k) → w' k = w0 k)) (fun w' t => cd_P D ad N A w' t.heap) A) 0 0 A := by
  refine Met.ofW (cc := b_Tc_fieldsPass) (maxL := 5) (ret := (some .boolean)) (by decide) rfl ?_
  intro p e s m args below meth c s₁ B hml hv
  obtain ⟨rfl, hP, hK, hZ⟩ := hv
  have hx := B.exec
  have hb := B.bytes
  have hr := B.returns
  have hA : ∀ w ∈ cd_AW, w.before _ s = true := fun w h => atoms_spec (ws := w_Tc_fieldsPass) B.pre w (List.mem_cons_of_mem _ h)
  have hown : s.vm.findClass R_Tc = some m.cls := findClass_of_methodNamed B.named
  have hlocks := B.notSynchronized
  have L2 : ∀ (gn : Nat) (i : Int32) (w : Nat → va_E) (efr : ∀ k : Nat, (k < q ∨ q + 1 ≤ k) → w k = w0 k) (H : Heap) (locs : List Loc) (ls : Array Slot), lv_has ls 5 [(0, .ref (ad q)), (1, .int k), (2, .int i)] → (f_Tc_fieldsPass u np up k) = f_Tc_fieldsPass_L2 u np up k gn i → cd_TcAt N tt ad w q qp u → cd_RowAt N tt ad w qp np up → cd_P D ad N A w H → va_S A s.heap H locs → o_Tc_fieldsPass_L2 u np up k gn i → W p l e (headSpec w_Tc_fieldsPass ({ frames := 3, cells := 0, slots := 0, locals := 69 })).room s m [.ref (ad q), .int k].toArray below meth c H locs 0 0 (MQ below (va_Qi (fun r w' => (f_Tc_fieldsPass u np up k).1 = r ∧ (r = 0 ∨ r = 1) ∧ cd_TcAt N tt ad w' q qp ((f_Tc_fieldsPass u np up k).2) ∧ (∀ k : Nat, (k < q ∨ q + 1 ≤ k) → w' k = w0 k)) (fun w' t => cd_P D ad N A w' t.heap) A) [.ref (ad q), .int k].toArray s 0 0 A) (F0 m 2 ls []) := by
    intro gn
    induction gn with
    | zero => intro i w efr H locs ls hl he hL0 hL1 hP hS ho; exact ho.elim
    | succ gn ih =>
      intro i w efr H locs ls hl he hL0 hL1 hP hS ho
      have ho : (¬ (8 : Int32) ≤ i → o_Tc_entryField u np up k i) ∧ (¬ (8 : Int32) ≤ i → ¬ k = 0 → o_Tc_regionFieldFits u np up k i (f_Tc_entryField u np up k i)) ∧ (¬ (8 : Int32) ≤ i → ¬ k = 0 → ¬ (f_Tc_regionFieldFits u np up k i (f_Tc_entryField u np up k i)) = 0 → o_Tc_fieldsPass_L2 u np up k gn (i + (1 : Int32))) ∧ (¬ (8 : Int32) ≤ i → k = 0 → o_Tc_notesFieldFits u np up i (f_Tc_entryField u np up k i)) ∧ (¬ (8 : Int32) ≤ i → k = 0 → ¬ (f_Tc_notesFieldFits u np up i (f_Tc_entryField u np up k i)) = 0 → o_Tc_fieldsPass_L2 u np up k gn (i + (1 : Int32))) := ho
      obtain ⟨hn1, fa2⟩ := hL0
      refine lv_iload_n hx hb d_Tc_fieldsPass_2 rfl (lv_at hl 2 rfl) ?_
      refine lv_bipush (v := (8 : Int32)) hx hb d_Tc_fieldsPass_3 (by decide) ?_
      refine lv_icmp_ge (tgt := 60) hx hb d_Tc_fieldsPass_5 (by decide) (fun hc3 => ?_) (fun hc3 => ?_)
      · refine lv_iconst (v := (1 : Int32)) hx hb d_Tc_fieldsPass_60 (by decide) ?_
        have hf4 : (f_Tc_fieldsPass u np up k) = ((1 : Int32), u) := by rw [he, f_Tc_fieldsPass_L2, if_pos hc3]
        exact W.zret (ty := .boolean) (v := (1 : Int32)) hx hb hr rfl (fun tE ht _ => ⟨⟨_, w, rfl, ⟨(by rw [hf4]), (Or.inr rfl), (by rw [hf4]; exact ⟨hn1, fa2⟩), (fun k hk => (efr k (by omega)))⟩, cd_Pt ht hP⟩, hS.F ht⟩) hS.2.2 d_Tc_fieldsPass_61
      · refine lv_aload_n hx hb d_Tc_fieldsPass_8 rfl (lv_at hl 0 rfl) ?_
        refine lv_iload_n hx hb d_Tc_fieldsPass_9 rfl (lv_at hl 1 rfl) ?_
        refine lv_iload_n hx hb d_Tc_fieldsPass_10 rfl (lv_at hl 2 rfl) ?_
        refine va_calli (va_runV (As := [.int k, .int i]) (rest := []) ⟨hx, hb, hml, hown, hA⟩ (c_Tc_entryField l D tt ad N A zs w q qp u np up k i (⟨hn1, fa2⟩) hL1 (ho.1 hc3)) (cwV 2 hA (cd_gV aw_429 aw_430 aw_431 aw_7 aw_432) rfl rfl rfl ⟨rfl, by decide, by decide, by decide +kernel⟩ ⟨Nat.le_of_ble_eq_true rfl, Nat.le_of_ble_eq_true rfl⟩) ⟨cd_blind, cd_recv hK hP (k := q) (by omega) fa2 rfl, fun U hU hW => ⟨rfl, cd_pre hK hP hZ hS U hU hW⟩⟩ rfl rfl hl.1 rfl (lv_room (Nat.le_of_ble_eq_true rfl)) d_Tc_fieldsPass_11 ⟨Nat.zero_le _, Nat.zero_le _⟩) hS (fun _ _ h => h) (fun _ h => h) (fun r5 w1 tE H locs ht hvm hr6 hP hz1 hk1 hS => ?_)
        have hP := cd_Pf ht hP
        obtain ⟨rfl, rfl⟩ := hr6
        refine lv_istore_n (lv' := [(3, .int (f_Tc_entryField u np up k i)), (0, .ref (ad q)), (1, .int k), (2, .int i)]) hx hb d_Tc_fieldsPass_14 rfl hl (by decide) rfl (fun ls hl => ?_)
        refine lv_iload_n hx hb d_Tc_fieldsPass_15 rfl (lv_at hl 2 rfl) ?_
        refine lv_if_ne (tgt := 28) hx hb d_Tc_fieldsPass_16 (by decide) (fun hc8 => ?_) (fun hc8 => ?_)
        · refine lv_aload_n hx hb d_Tc_fieldsPass_28 rfl (lv_at hl 1 rfl) ?_
          refine lv_iload_n hx hb d_Tc_fieldsPass_29 rfl (lv_at hl 2 rfl) ?_
          refine lv_iload_n hx hb d_Tc_fieldsPass_30 rfl (lv_at hl 3 rfl) ?_
          refine lv_iload_n hx hb d_Tc_fieldsPass_31 rfl (lv_at hl 0 rfl) ?_
          refine va_calli (va_runV (As := [.int k, .int i, .int (f_Tc_entryField u np up k i)]) (rest := []) ⟨hx, hb, hml, hown, hA⟩ (c_Tc_regionFieldFits l D tt ad N A zs w q qp u np up k i (f_Tc_entryField u np up k i) (⟨hn1, fa2⟩) hL1 (ho.2.1 hc3 hc8)) (cwV 3 hA (cd_gV aw_436 aw_437 aw_774 aw_7 aw_438) rfl rfl rfl ⟨rfl, by decide, by decide, by decide +kernel⟩ ⟨Nat.le_of_ble_eq_true rfl, Nat.le_of_ble_eq_true rfl⟩) ⟨cd_blind, cd_recv hK hP (k := q) (by omega) fa2 rfl, fun U hU hW => ⟨rfl, cd_pre hK hP hZ hS U hU hW⟩⟩ rfl rfl hl.1 rfl (lv_room (Nat.le_of_ble_eq_true rfl)) d_Tc_fieldsPass_32 ⟨Nat.zero_le _, Nat.zero_le _⟩) hS (fun _ _ h => h) (fun _ h => h) (fun r9 w2 tE H locs ht hvm hr10 hP hz1 hk1 hS => ?_)
          have hP := cd_Pf ht hP
          obtain ⟨rfl, hbo12, rfl⟩ := hr10
          refine lv_istore (lv' := [(4, .int (f_Tc_regionFieldFits u np up k i (f_Tc_entryField u np up k i))), (3, .int (f_Tc_entryField u np up k i)), (0, .ref (ad q)), (1, .int k), (2, .int i)]) hx hb d_Tc_fieldsPass_35 hl (by decide) rfl (fun ls hl => ?_)
          refine lv_iload hx hb d_Tc_fieldsPass_37 (lv_at hl 0 rfl) ?_
          refine lv_if_ne (tgt := 54) hx hb d_Tc_fieldsPass_39 (by decide) (fun hc13 => ?_) (fun hc13 => ?_)
          · refine lv_iinc (k := 4) (v := (i + (1 : Int32))) (lv' := [(2, .int (i + (1 : Int32))), (4, .int (f_Tc_regionFieldFits u np up k i (f_Tc_entryField u np up k i))), (3, .int (f_Tc_entryField u np up k i)), (0, .ref (ad q)), (1, .int k)]) hx hb d_Tc_fieldsPass_54 hl rfl (cd_inc _ _ _ (by decide)) (by decide) rfl (fun ls hl => ?_)
            refine lv_goto (tgt := 2) hx hb d_Tc_fieldsPass_57 (by decide) ?_
            exact ih (i + (1 : Int32)) w (fun k hk => (efr k (by omega))) H locs ls (lv_sub hl [3, 4, 0] rfl) (show (f_Tc_fieldsPass u np up k) = f_Tc_fieldsPass_L2 u np up k gn (i + (1 : Int32)) by rw [he, f_Tc_fieldsPass_L2, if_neg hc3, if_neg hc8, if_neg hc13]) (⟨hn1, fa2⟩) hL1 hP hS (ho.2.2.1 hc3 hc8 hc13)
          · refine lv_aload_n hx hb d_Tc_fieldsPass_42 rfl (lv_at hl 2 rfl) ?_
            refine lv_iconst (v := (3 : Int32)) hx hb d_Tc_fieldsPass_43 (by decide) ?_
            refine lv_aload_n hx hb d_Tc_fieldsPass_44 rfl (lv_at hl 2 rfl) ?_
            refine lv_iload_n hx hb d_Tc_fieldsPass_45 rfl (lv_at hl 3 rfl) ?_
            refine lv_iload_n hx hb d_Tc_fieldsPass_46 rfl (lv_at hl 4 rfl) ?_
            refine va_calli (va_runV (As := [.int k, .int i]) (rest := [.int (3 : Int32), .ref (ad q)]) ⟨hx, hb, hml, hown, hA⟩ (c_Tc_fieldPlace l D tt ad N A zs w q qp u k i (⟨hn1, fa2⟩)) (cwV 2 hA (cd_gV aw_420 aw_421 aw_770 aw_7 aw_422) rfl rfl rfl ⟨rfl, by decide, by decide, by decide +kernel⟩ ⟨Nat.le_of_ble_eq_true rfl, Nat.le_of_ble_eq_true rfl⟩) ⟨cd_blind, cd_recv hK hP (k := q) (by omega) fa2 rfl, fun U hU hW => ⟨rfl, cd_pre hK hP hZ hS U hU hW⟩⟩ rfl rfl hl.1 rfl (lv_room (Nat.le_of_ble_eq_true rfl)) d_Tc_fieldsPass_47 ⟨Nat.zero_le _, Nat.zero_le _⟩) hS (fun _ _ h => h) (fun _ h => h) (fun r14 w3 tE H locs ht hvm hr15 hP hz1 hk1 hS => ?_)
            have hP := cd_Pf ht hP
            obtain ⟨rfl, rfl⟩ := hr15
            refine va_calli (va_runV (As := [.int (3 : Int32), .int (f_Tc_fieldPlace u k i)]) (rest := []) ⟨hx, hb, hml, hown, hA⟩ (c_Tc_refuse l D tt ad N A zs w q qp u (3 : Int32) (f_Tc_fieldPlace u k i) (⟨hn1, fa2⟩)) (cwV 2 hA (cd_gV aw_406 aw_407 aw_768 aw_7 aw_408) rfl rfl rfl ⟨rfl, by decide, by decide, by decide +kernel⟩ ⟨Nat.le_of_ble_eq_true rfl, Nat.le_of_ble_eq_true rfl⟩) ⟨cd_blind, cd_recv hK hP (k := q) (by omega) fa2 rfl, fun U hU hW => ⟨rfl, cd_pre hK hP hZ hS U hU hW⟩⟩ rfl rfl hl.1 rfl (lv_room (Nat.le_of_ble_eq_true rfl)) d_Tc_fieldsPass_50 ⟨Nat.zero_le _, Nat.zero_le _⟩) hS (fun _ _ h => h) (fun _ h => h) (fun r17 w4 tE H locs ht hvm hr18 hP hz1 hk1 hS => ?_)
            have hP := cd_Pf ht hP
            obtain ⟨rfl, hbo20, at21, e4⟩ := hr18
            have at22 := cd_RowAt_keep hL1 (fun k h1 h2 => e4 k (by omega))
            obtain ⟨hn23, fa24⟩ := at21
            have hf25 : (f_Tc_fieldsPass u np up k) = ((f_Tc_refuse u (3 : Int32) (f_Tc_fieldPlace u k i)).1, (f_Tc_refuse u (3 : Int32) (f_Tc_fieldPlace u k i)).2) := by rw [he, f_Tc_fieldsPass_L2, if_neg hc3, if_neg hc8, if_pos hc13]
            exact W.zret (ty := .boolean) (v := (f_Tc_refuse u (3 : Int32) (f_Tc_fieldPlace u k i)).1) hx hb hr (cd_nb hbo20) (fun tE ht _ => ⟨⟨_, w4, rfl, ⟨(by rw [hf25]), hbo20, (by rw [hf25]; exact ⟨hn23, fa24⟩), (fun k hk => ((e4 k (by omega)).trans (efr k (by omega))))⟩, cd_Pt ht hP⟩, hS.F ht⟩) hS.2.2 d_Tc_fieldsPass_53
        · refine lv_aload_n hx hb d_Tc_fieldsPass_19 rfl (lv_at hl 1 rfl) ?_
          refine lv_iload_n hx hb d_Tc_fieldsPass_20 rfl (lv_at hl 3 rfl) ?_
          refine lv_iload_n hx hb d_Tc_fieldsPass_21 rfl (lv_at hl 0 rfl) ?_
          refine va_calli (va_runV (As := [.int i, .int (f_Tc_entryField u np up k i)]) (rest := []) ⟨hx, hb, hml, hown, hA⟩ (c_Tc_notesFieldFits l D tt ad N A zs w q qp u np up i (f_Tc_entryField u np up k i) (⟨hn1, fa2⟩) hL1 (ho.2.2.2.1 hc3 hc8)) (cwV 2 hA (cd_gV aw_433 aw_434 aw_773 aw_7 aw_435) rfl rfl rfl ⟨rfl, by decide, by decide, by decide +kernel⟩ ⟨Nat.le_of_ble_eq_true rfl, Nat.le_of_ble_eq_true rfl⟩) ⟨cd_blind, cd_recv hK hP (k := q) (by omega) fa2 rfl, fun U hU hW => ⟨rfl, cd_pre hK hP hZ hS U hU hW⟩⟩ rfl rfl hl.1 rfl (lv_room (Nat.le_of_ble_eq_true rfl)) d_Tc_fieldsPass_22 ⟨Nat.zero_le _, Nat.zero_le _⟩) hS (fun _ _ h => h) (fun _ h => h) (fun r26 w5 tE H locs ht hvm hr27 hP hz1 hk1 hS => ?_)
          have hP := cd_Pf ht hP
          obtain ⟨rfl, hbo29, rfl⟩ := hr27
          refine lv_goto (tgt := 35) hx hb d_Tc_fieldsPass_25 (by decide) ?_
          refine lv_istore (lv' := [(4, .int (f_Tc_notesFieldFits u np up i (f_Tc_entryField u np up k i))), (3, .int (f_Tc_entryField u np up k i)), (0, .ref (ad q)), (1, .int k), (2, .int i)]) hx hb d_Tc_fieldsPass_35 hl (by decide) rfl (fun ls hl => ?_)
          refine lv_iload hx hb d_Tc_fieldsPass_37 (lv_at hl 0 rfl) ?_
          refine lv_if_ne (tgt := 54) hx hb d_Tc_fieldsPass_39 (by decide) (fun hc30 => ?_) (fun hc30 => ?_)
          · refine lv_iinc (k := 4) (v := (i + (1 : Int32))) (lv' := [(2, .int (i + (1 : Int32))), (4, .int (f_Tc_notesFieldFits u np up i (f_Tc_entryField u np up k i))), (3, .int (f_Tc_entryField u np up k i)), (0, .ref (ad q)), (1, .int k)]) hx hb d_Tc_fieldsPass_54 hl rfl (cd_inc _ _ _ (by decide)) (by decide) rfl (fun ls hl => ?_)
            refine lv_goto (tgt := 2) hx hb d_Tc_fieldsPass_57 (by decide) ?_
            exact ih (i + (1 : Int32)) w (fun k hk => (efr k (by omega))) H locs ls (lv_sub hl [3, 4, 0] rfl) (show (f_Tc_fieldsPass u np up k) = f_Tc_fieldsPass_L2 u np up k gn (i + (1 : Int32)) by rw [he, f_Tc_fieldsPass_L2, if_neg hc3, if_pos hc8, if_neg hc30]) (⟨hn1, fa2⟩) hL1 hP hS (ho.2.2.2.2 hc3 hc8 hc30)
          · refine lv_aload_n hx hb d_Tc_fieldsPass_42 rfl (lv_at hl 2 rfl) ?_
            refine lv_iconst (v := (3 : Int32)) hx hb d_Tc_fieldsPass_43 (by decide) ?_
            refine lv_aload_n hx hb d_Tc_fieldsPass_44 rfl (lv_at hl 2 rfl) ?_
            refine lv_iload_n hx hb d_Tc_fieldsPass_45 rfl (lv_at hl 3 rfl) ?_
            refine lv_iload_n hx hb d_Tc_fieldsPass_46 rfl (lv_at hl 4 rfl) ?_
            refine va_calli (va_runV (As := [.int k, .int i]) (rest := [.int (3 : Int32), .ref (ad q)]) ⟨hx, hb, hml, hown, hA⟩ (c_Tc_fieldPlace l D tt ad N A zs w q qp u k i (⟨hn1, fa2⟩)) (cwV 2 hA (cd_gV aw_420 aw_421 aw_770 aw_7 aw_422) rfl rfl rfl ⟨rfl, by decide, by decide, by decide +kernel⟩ ⟨Nat.le_of_ble_eq_true rfl, Nat.le_of_ble_eq_true rfl⟩) ⟨cd_blind, cd_recv hK hP (k := q) (by omega) fa2 rfl, fun U hU hW => ⟨rfl, cd_pre hK hP hZ hS U hU hW⟩⟩ rfl rfl hl.1 rfl (lv_room (Nat.le_of_ble_eq_true rfl)) d_Tc_fieldsPass_47 ⟨Nat.zero_le _, Nat.zero_le _⟩) hS (fun _ _ h => h) (fun _ h => h) (fun r31 w6 tE H locs ht hvm hr32 hP hz1 hk1 hS => ?_)
            have hP := cd_Pf ht hP
            obtain ⟨rfl, rfl⟩ := hr32
            refine va_calli (va_runV (As := [.int (3 : Int32), .int (f_Tc_fieldPlace u k i)]) (rest := []) ⟨hx, hb, hml, hown, hA⟩ (c_Tc_refuse l D tt ad N A zs w q qp u (3 : Int32) (f_Tc_fieldPlace u k i) (⟨hn1, fa2⟩)) (cwV 2 hA (cd_gV aw_406 aw_407 aw_768 aw_7 aw_408) rfl rfl rfl ⟨rfl, by decide, by decide, by decide +kernel⟩ ⟨Nat.le_of_ble_eq_true rfl, Nat.le_of_ble_eq_true rfl⟩) ⟨cd_blind, cd_recv hK hP (k := q) (by omega) fa2 rfl, fun U hU hW => ⟨rfl, cd_pre hK hP hZ hS U hU hW⟩⟩ rfl rfl hl.1 rfl (lv_room (Nat.le_of_ble_eq_true rfl)) d_Tc_fieldsPass_50 ⟨Nat.zero_le _, Nat.zero_le _⟩) hS (fun _ _ h => h) (fun _ h => h) (fun r34 w7 tE H locs ht hvm hr35 hP hz1 hk1 hS => ?_)
            have hP := cd_Pf ht hP
            obtain ⟨rfl, hbo37, at38, e7⟩ := hr35
            have at39 := cd_RowAt_keep hL1 (fun k h1 h2 => e7 k (by omega))
            obtain ⟨hn40, fa41⟩ := at38
            have hf42 : (f_Tc_fieldsPass u np up k) = ((f_Tc_refuse u (3 : Int32) (f_Tc_fieldPlace u k i)).1, (f_Tc_refuse u (3 : Int32) (f_Tc_fieldPlace u k i)).2) := by rw [he, f_Tc_fieldsPass_L2, if_neg hc3, if_pos hc8, if_pos hc30]
            exact W.zret (ty := .boolean) (v := (f_Tc_refuse u (3 : Int32) (f_Tc_fieldPlace u k i)).1) hx hb hr (cd_nb hbo37) (fun tE ht _ => ⟨⟨_, w7, rfl, ⟨(by rw [hf42]), hbo37, (by rw [hf42]; exact ⟨hn40, fa41⟩), (fun k hk => ((e7 k (by omega)).trans (efr k (by omega))))⟩, cd_Pt ht hP⟩, hS.F ht⟩) hS.2.2 d_Tc_fieldsPass_53
  have hS : va_S A s.heap s.heap [] := va_S.rf
  have hl := lv_entry ([.ref (ad q), .int k]) (n := 5) (Nat.le_of_ble_eq_true rfl)
  rw [lg_entry_eq]
  generalize (lg_sl ([.ref (ad q), .int k]) ++ List.replicate (5 - (lg_sl ([.ref (ad q), .int k])).length) Slot.unset).toArray = ls at hl ⊢
  have hl : lv_has ls 5 [(0, .ref (ad q)), (1, .int k)] := hl
  have ho : (o_Tc_fieldsPass_L2 u np up k 9 (0 : Int32)) := ho
  obtain ⟨hn43, fa44⟩ := hR0
  refine lv_iconst (v := (0 : Int32)) hx hb d_Tc_fieldsPass_0 (by decide) ?_
  refine lv_istore_n (lv' := [(2, .int (0 : Int32)), (0, .ref (ad q)), (1, .int k)]) hx hb d_Tc_fieldsPass_1 rfl hl (by decide) rfl (fun ls hl => ?_)
  exact L2 9 (0 : Int32) w0 (fun _ _ => rfl) s.heap [] ls (lv_sub hl [1, 2, 0] rfl) (show (f_Tc_fieldsPass u np up k) = f_Tc_fieldsPass_L2 u np up k 9 (0 : Int32) by rw [f_Tc_fieldsPass]) (⟨hn43, fa44⟩) hR1 hP hS (ho)
