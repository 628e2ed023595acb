def f_Fw_entries (um : cd_Mem) : Int32 := ((f_Mem_count um) + (1 : Int32))
set_option maxHeartbeats 4000000 in
set_option maxRecDepth 100000 in
theorem c_Fw_entries (l : Launch) (D : va_G) (tt : Nat → ClassId) (ad : Nat → Nat) (N : Nat) (A : Nat → Prop) (zs : Nat → Nat) (w0 : Nat → va_E) (q qf qm qt : Nat) (um : cd_Mem) (hR0 : cd_FwAt N tt ad w0 q qf qm qt) (hR1 : cd_MemAt N tt ad w0 qm um) : Met l y_Fw_entries w_Fw_entries ({ frames := 1, cells := 0, slots := 0, locals := 20 }) (va_Pc [.ref (ad q)] (cd_U D tt ad N A zs w0)) (va_Qi (fun r w' => (f_Fw_entries um) = r ∧ w0 = w') (fun w' t => cd_P D ad N A w' t.heap) A) 0 0 A := by
  refine Met.ofW (cc := b_Fw_entries) (maxL := 1) (ret := (some .int)) (by decide) rfl ?_
  intro p e s m args below meth c s₁ B hml hv
  obtain ⟨rfl, hP, hK, hZ⟩ := hv
  have hx := B.exec
  have hb := B.bytes
  have hr := B.returns
  have hA : ∀ w ∈ cd_AW, w.before _ s = true := fun w h => atoms_spec (ws := w_Fw_entries) B.pre w (List.mem_cons_of_mem _ h)
  have hown : s.vm.findClass R_Fw = some m.cls := findClass_of_methodNamed B.named
  have hlocks := B.notSynchronized
  have hS : va_S A s.heap s.heap [] := va_S.rf
  have hl := lv_entry ([.ref (ad q)]) (n := 1) (Nat.le_of_ble_eq_true rfl)
  rw [lg_entry_eq]
  generalize (lg_sl ([.ref (ad q)]) ++ List.replicate (1 - (lg_sl ([.ref (ad q)])).length) Slot.unset).toArray = ls at hl ⊢
  have hl : lv_has ls 1 [(0, .ref (ad q))] := hl
  obtain ⟨hn1, fa2⟩ := hR0
  refine lv_aload_n hx hb d_Fw_entries_0 rfl (lv_at hl 0 rfl) ?_
  refine g_get (ci := 4) (C := R_Fw) (T := F_Fw) (Nf := 3) (v := .ref (ad qm)) hx hb hA in_Fw hown hK hP (k := q) (by omega) fa2 rfl 1 (by decide) (hA _ aw_79) (fun _ h9 => h9) rfl d_Fw_entries_1 ?_
  obtain ⟨hn3, fa4, ⟨rf8, fa5, fa6⟩, fa7⟩ := hR1
  refine va_calli (va_runV (As := []) (rest := []) ⟨hx, hb, hml, hown, hA⟩ (c_Mem_count l D tt ad N A zs w0 qm um (⟨hn3, fa4, ⟨rf8, fa5, fa6⟩, fa7⟩)) (cwV 0 hA (cd_gV aw_225 aw_226 aw_227 aw_2 aw_228) rfl rfl rfl ⟨rfl, by decide, by decide, by decide +kernel⟩ ⟨Nat.le_of_ble_eq_true rfl, Nat.le_of_ble_eq_true rfl⟩) ⟨cd_blind, cd_recv hK hP (k := qm) (by omega) fa4 rfl, fun U hU hW => ⟨rfl, cd_pre hK hP hZ hS U hU hW⟩⟩ rfl rfl hl.1 rfl (lv_room (Nat.le_of_ble_eq_true rfl)) d_Fw_entries_4 ⟨Nat.zero_le _, Nat.zero_le _⟩) hS (fun _ _ h => h) (fun _ h => h) (fun r9 w1 tE H locs ht hvm hr10 hP hz1 hk1 hS => ?_)
  have hP := cd_Pf ht hP
  obtain ⟨rfl, rfl⟩ := hr10
  refine lv_iconst (v := (1 : Int32)) hx hb d_Fw_entries_7 (by decide) ?_
  refine lv_iadd hx hb d_Fw_entries_8 ?_
  have hf12 : (f_Fw_entries um) = ((f_Mem_count um) + (1 : Int32)) := by rw [f_Fw_entries]
  exact W.iret (v := ((f_Mem_count um) + (1 : Int32))) hx hb hr (fun tE ht _ => ⟨⟨_, w0, rfl, ⟨hf12, rfl⟩, cd_Pt ht hP⟩, hS.F ht⟩) hS.2.2 d_Fw_entries_9
def f_Fw_writeFour (nf : Nat) (uf : cd_Row) (v : Int32) : cd_Row := (f_Row_appendNumber nf uf v (4 : Int32))
def o_Fw_writeFour (nf : Nat) (uf : cd_Row) (v : Int32) : Prop := (o_Row_appendNumber nf uf v (4 : Int32))
set_option maxHeartbeats 4000000 in
set_option maxRecDepth 100000 in
theorem c_Fw_writeFour (l : Launch) (D : va_G) (tt : Nat → ClassId) (ad : Nat → Nat) (N : Nat) (A : Nat → Prop) (zs : Nat → Nat) (w0 : Nat → va_E) (q qf qm qt : Nat) (nf : Nat) (uf : cd_Row) (v : Int32) (hR0 : cd_FwAt N tt ad w0 q qf qm qt) (hR1 : cd_RowAt N tt ad w0 qf nf uf) (hap0 : qf + 2 ≤ q ∨ q + 1 ≤ qf) (ho : o_Fw_writeFour nf uf v) : Met l y_Fw_writeFour w_Fw_writeFour ({ frames := 2, cells := 0, slots := 0, locals := 45 }) (va_Pc [.ref (ad q), .int v] (cd_U D tt ad N A zs w0)) (va_Qv (fun w' => cd_RowAt N tt ad w' qf nf (f_Fw_writeFour nf uf v) ∧ (∀ k : Nat, (k < qf ∨ qf + 2 ≤ k) → w' k = w0 k)) (fun w' t => cd_P D ad N A w' t.heap) A) 0 0 A := by
  refine Met.ofW (cc := b_Fw_writeFour) (maxL := 2) (ret := none) (by decide) rfl ?_
  intro p e s m args below meth c s₁ B hml hv
  obtain ⟨rfl, hP, hK, hZ⟩ := hv
  have hx := B.exec
  have hb := B.bytes
  have hr := B.returns
  have hA : ∀ w ∈ cd_AW, w.before _ s = true := fun w h => atoms_spec (ws := w_Fw_writeFour) B.pre w (List.mem_cons_of_mem _ h)
  have hown : s.vm.findClass R_Fw = some m.cls := findClass_of_methodNamed B.named
  have hlocks := B.notSynchronized
  have hS : va_S A s.heap s.heap [] := va_S.rf
  have hl := lv_entry ([.ref (ad q), .int v]) (n := 2) (Nat.le_of_ble_eq_true rfl)
  rw [lg_entry_eq]
  generalize (lg_sl ([.ref (ad q), .int v]) ++ List.replicate (2 - (lg_sl ([.ref (ad q), .int v])).length) Slot.unset).toArray = ls at hl ⊢
  have hl : lv_has ls 2 [(0, .ref (ad q)), (1, .int v)] := hl
  have ho : (o_Row_appendNumber nf uf v (4 : Int32)) := ho
  obtain ⟨hn1, fa2⟩ := hR0
  refine lv_aload_n hx hb d_Fw_writeFour_0 rfl (lv_at hl 0 rfl) ?_
  refine g_get (ci := 4) (C := R_Fw) (T := F_Fw) (Nf := 3) (v := .ref (ad qf)) hx hb hA in_Fw hown hK hP (k := q) (by omega) fa2 rfl 0 (by decide) (hA _ aw_78) (fun _ h9 => h9) rfl d_Fw_writeFour_1 ?_
  refine lv_iload_n hx hb d_Fw_writeFour_4 rfl (lv_at hl 1 rfl) ?_
  refine lv_iconst (v := (4 : Int32)) hx hb d_Fw_writeFour_5 (by decide) ?_
  obtain ⟨hn3, fa4, fa5⟩ := hR1
  refine va_callv (va_runV (As := [.int v, .int (4 : Int32)]) (rest := []) ⟨hx, hb, hml, hown, hA⟩ (c_Row_appendNumber l D tt ad N A zs w0 qf nf uf v (4 : Int32) (⟨hn3, fa4, fa5⟩) (ho)) (cwV 2 hA (cd_gV aw_229 aw_230 aw_231 aw_5 aw_232) rfl rfl rfl ⟨rfl, by decide, by decide, by decide +kernel⟩ ⟨Nat.le_of_ble_eq_true rfl, Nat.le_of_ble_eq_true rfl⟩) ⟨cd_blind, cd_recv hK hP (k := qf) (by omega) fa4 rfl, fun U hU hW => ⟨rfl, cd_pre hK hP hZ hS U hU hW⟩⟩ rfl rfl hl.1 rfl (lv_room (Nat.le_of_ble_eq_true rfl)) d_Fw_writeFour_6 ⟨Nat.zero_le _, Nat.zero_le _⟩) hS (fun _ _ h => h) (fun _ h => h) (fun w1 tE H locs ht hvm hr7 hP hz1 hk1 hS => ?_)
  have hP := cd_Pf ht hP
  obtain ⟨at9, e1⟩ := hr7
  have fa10 := (e1 q (by omega)).trans fa2
  have hf11 : (f_Fw_writeFour nf uf v) = (f_Row_appendNumber nf uf v (4 : Int32)) := by rw [f_Fw_writeFour]
  exact W.vret hx hb hr (fun tE ht _ => ⟨⟨w1, rfl, ⟨(by rw [hf11]; exact at9), (fun k hk => (e1 k (by omega)))⟩, cd_Pt ht hP⟩, hS.F ht⟩) hS.2.2 d_Fw_writeFour_9
def f_Fw_writeNotesEntry (nf : Nat) (uf : cd_Row) (v : Int32) (x : Int32) : cd_Row := (f_Fw_writeFour nf (f_Fw_writeFour nf (f_Fw_writeFour nf (f_Fw_writeFour nf (f_Fw_writeFour nf (f_Fw_writeFour nf (f_Fw_writeFour nf (f_Fw_writeFour nf uf (4 : Int32)) v) (0 : Int32)) (0 : Int32)) x) x) (0 : Int32)) (4 : Int32))
def o_Fw_writeNotesEntry (nf : Nat) (uf : cd_Row) (v : Int32) (x : Int32) : Prop := (o_Fw_writeFour nf uf (4 : Int32)) ∧ (o_Fw_writeFour nf (f_Fw_writeFour nf uf (4 : Int32)) v) ∧ (o_Fw_writeFour nf (f_Fw_writeFour nf (f_Fw_writeFour nf uf (4 : Int32)) v) (0 : Int32)) ∧ (o_Fw_writeFour nf (f_Fw_writeFour nf (f_Fw_writeFour nf (f_Fw_writeFour nf uf (4 : Int32)) v) (0 : Int32)) (0 : Int32)) ∧ (o_Fw_writeFour nf (f_Fw_writeFour nf (f_Fw_writeFour nf (f_Fw_writeFour nf (f_Fw_writeFour nf uf (4 : Int32)) v) (0 : Int32)) (0 : Int32)) x) ∧ (o_Fw_writeFour nf (f_Fw_writeFour nf (f_Fw_writeFour nf (f_Fw_writeFour nf (f_Fw_writeFour nf (f_Fw_writeFour nf uf (4 : Int32)) v) (0 : Int32)) (0 : Int32)) x) x) ∧ (o_Fw_writeFour nf (f_Fw_writeFour nf (f_Fw_writeFour nf (f_Fw_writeFour nf (f_Fw_writeFour nf (f_Fw_writeFour nf (f_Fw_writeFour nf uf (4 : Int32)) v) (0 : Int32)) (0 : Int32)) x) x) (0 : Int32)) ∧ (o_Fw_writeFour nf (f_Fw_writeFour nf (f_Fw_writeFour nf (f_Fw_writeFour nf (f_Fw_writeFour nf (f_Fw_writeFour nf (f_Fw_writeFour nf (f_Fw_writeFour nf uf (4 : Int32)) v) (0 : Int32)) (0 : Int32)) x) x) (0 : Int32)) (4 : Int32))
set_option maxHeartbeats 4000000 in
set_option maxRecDepth 100000 in
theorem c_Fw_writeNotesEntry (l : Launch) (D : va_G) (tt : Nat → ClassId) (ad : Nat → Nat) (N : Nat) (A : Nat → Prop) (zs : Nat → Nat) (w0 : Nat → va_E) (q qf qm qt : Nat) (nf : Nat) (uf : cd_Row) (v : Int32) (x : Int32) (hR0 : cd_FwAt N tt ad w0 q qf qm qt) (hR1 : cd_RowAt N tt ad w0 qf nf uf) (hap0 : qf + 2 ≤ q ∨ q + 1 ≤ qf) (ho : o_Fw_writeNotesEntry nf uf v x) : Met l y_Fw_writeNotesEntry w_Fw_writeNotesEntry ({ frames := 3, cells := 0, slots := 0, locals := 66 }) (va_Pc [.ref (ad q), .int v, .int x] (cd_U D tt ad N A zs w0)) (va_Qv (fun w' => cd_RowAt N tt ad w' qf nf (f_Fw_writeNotesEntry nf uf v x) ∧ (∀ k : Nat, (k < qf ∨ qf + 2 ≤ k) → w' k = w0 k)) (fun w' t => cd_P D ad N A w' t.heap) A) 0 0 A := by
  refine Met.ofW (cc := b_Fw_writeNotesEntry) (maxL := 3) (ret := none) (by decide) rfl ?_
  intro p e s m args below meth c s₁ B hml hv
  obtain ⟨rfl, hP, hK, hZ⟩ := hv
  have hx := B.exec
  have hb := B.bytes
  have hr := B.returns
  have hA : ∀ w ∈ cd_AW, w.before _ s = true := fun w h => atoms_spec (ws := w_Fw_writeNotesEntry) B.pre w (List.mem_cons_of_mem _ h)
  have hown : s.vm.findClass R_Fw = some m.cls := findClass_of_methodNamed B.named
  have hlocks := B.notSynchronized
  have hS : va_S A s.heap s.heap [] := va_S.rf
  have hl := lv_entry ([.ref (ad q), .int v, .int x]) (n := 3) (Nat.le_of_ble_eq_true rfl)
  rw [lg_entry_eq]
  generalize (lg_sl ([.ref (ad q), .int v, .int x]) ++ List.replicate (3 - (lg_sl ([.ref (ad q), .int v, .int x])).length) Slot.unset).toArray = ls at hl ⊢
  have hl : lv_has ls 3 [(0, .ref (ad q)), (1, .int v), (2, .int x)] := hl
  have ho : (o_Fw_writeFour nf uf (4 : Int32)) ∧ (o_Fw_writeFour nf (f_Fw_writeFour nf uf (4 : Int32)) v) ∧ (o_Fw_writeFour nf (f_Fw_writeFour nf (f_Fw_writeFour nf uf (4 : Int32)) v) (0 : Int32)) ∧ (o_Fw_writeFour nf (f_Fw_writeFour nf (f_Fw_writeFour nf (f_Fw_writeFour nf uf (4 : Int32)) v) (0 : Int32)) (0 : Int32)) ∧ (o_Fw_writeFour nf (f_Fw_writeFour nf (f_Fw_writeFour nf (f_Fw_writeFour nf (f_Fw_writeFour nf uf (4 : Int32)) v) (0 : Int32)) (0 : Int32)) x) ∧ (o_Fw_writeFour nf (f_Fw_writeFour nf (f_Fw_writeFour nf (f_Fw_writeFour nf (f_Fw_writeFour nf (f_Fw_writeFour nf uf (4 : Int32)) v) (0 : Int32)) (0 : Int32)) x) x) ∧ (o_Fw_writeFour nf (f_Fw_writeFour nf (f_Fw_writeFour nf (f_Fw_writeFour nf (f_Fw_writeFour nf (f_Fw_writeFour nf (f_Fw_writeFour nf uf (4 : Int32)) v) (0 : Int32)) (0 : Int32)) x) x) (0 : Int32)) ∧ (o_Fw_writeFour nf (f_Fw_writeFour nf (f_Fw_writeFour nf (f_Fw_writeFour nf (f_Fw_writeFour nf (f_Fw_writeFour nf (f_Fw_writeFour nf (f_Fw_writeFour nf uf (4 : Int32)) v) (0 : Int32)) (0 : Int32)) x) x) (0 : Int32)) (4 : Int32)) := ho
  obtain ⟨hn1, fa2⟩ := hR0
  refine lv_aload_n hx hb d_Fw_writeNotesEntry_0 rfl (lv_at hl 0 rfl) ?_
  refine lv_iconst (v := (4 : Int32)) hx hb d_Fw_writeNotesEntry_1 (by decide) ?_
  refine va_callv (va_runV (As := [.int (4 : Int32)]) (rest := []) ⟨hx, hb, hml, hown, hA⟩ (c_Fw_writeFour l D tt ad N A zs w0 q qf qm qt nf uf (4 : Int32) (⟨hn1, fa2⟩) hR1 (by omega) (ho.1)) (cwV 1 hA (cd_gV aw_247 aw_248 aw_762 aw_6 aw_249) rfl rfl rfl ⟨rfl, by decide, by decide, by decide +kernel⟩ ⟨Nat.le_of_ble_eq_true rfl, Nat.le_of_ble_eq_true rfl⟩) ⟨cd_blind, cd_recv hK hP (k := q) (by omega) fa2 rfl, fun U hU hW => ⟨rfl, cd_pre hK hP hZ hS U hU hW⟩⟩ rfl rfl hl.1 rfl (lv_room (Nat.le_of_ble_eq_true rfl)) d_Fw_writeNotesEntry_2 ⟨Nat.zero_le _, Nat.zero_le _⟩) hS (fun _ _ h => h) (fun _ h => h) (fun w1 tE H locs ht hvm hr4 hP hz1 hk1 hS => ?_)
  have hP := cd_Pf ht hP
  obtain ⟨at6, e1⟩ := hr4
  have fa7 := (e1 q (by omega)).trans fa2
  refine lv_aload_n hx hb d_Fw_writeNotesEntry_5 rfl (lv_at hl 0 rfl) ?_
  refine lv_iload_n hx hb d_Fw_writeNotesEntry_6 rfl (lv_at hl 1 rfl) ?_
  refine va_callv (va_runV (As := [.int v]) (rest := []) ⟨hx, hb, hml, hown, hA⟩ (c_Fw_writeFour l D tt ad N A zs w1 q qf qm qt nf (f_Fw_writeFour nf uf (4 : Int32)) v (⟨hn1, fa7⟩) at6 (by omega) (ho.2.1)) (cwV 1 hA (cd_gV aw_247 aw_248 aw_762 aw_6 aw_249) rfl rfl rfl ⟨rfl, by decide, by decide, by decide +kernel⟩ ⟨Nat.le_of_ble_eq_true rfl, Nat.le_of_ble_eq_true rfl⟩) ⟨cd_blind, cd_recv hK hP (k := q) (by omega) fa7 rfl, fun U hU hW => ⟨rfl, cd_pre hK hP hZ hS U hU hW⟩⟩ rfl rfl hl.1 rfl (lv_room (Nat.le_of_ble_eq_true rfl)) d_Fw_writeNotesEntry_7 ⟨Nat.zero_le _, Nat.zero_le _⟩) hS (fun _ _ h => h) (fun _ h => h) (fun w2 tE H locs ht hvm hr9 hP hz1 hk1 hS => ?_)
  have hP := cd_Pf ht hP
  obtain ⟨at11, e2⟩ := hr9
  have fa12 := (e2 q (by omega)).trans fa7
  refine lv_aload_n hx hb d_Fw_writeNotesEntry_10 rfl (lv_at hl 0 rfl) ?_
  refine lv_iconst (v := (0 : Int32)) hx hb d_Fw_writeNotesEntry_11 (by decide) ?_
  refine va_callv (va_runV (As := [.int (0 : Int32)]) (rest := []) ⟨hx, hb, hml, hown, hA⟩ (c_Fw_writeFour l D tt ad N A zs w2 q qf qm qt nf (f_Fw_writeFour nf (f_Fw_writeFour nf uf (4 : Int32)) v) (0 : Int32) (⟨hn1, fa12⟩) at11 (by omega) (ho.2.2.1)) (cwV 1 hA (cd_gV aw_247 aw_248 aw_762 aw_6 aw_249) rfl rfl rfl ⟨rfl, by decide, by decide, by decide +kernel⟩ ⟨Nat.le_of_ble_eq_true rfl, Nat.le_of_ble_eq_true rfl⟩) ⟨cd_blind, cd_recv hK hP (k := q) (by omega) fa12 rfl, fun U hU hW => ⟨rfl, cd_pre hK hP hZ hS U hU hW⟩⟩ rfl rfl hl.1 rfl (lv_room (Nat.le_of_ble_eq_true rfl)) d_Fw_writeNotesEntry_12 ⟨Nat.zero_le _, Nat.zero_le _⟩) hS (fun _ _ h => h) (fun _ h => h) (fun w3 tE H locs ht hvm hr14 hP hz1 hk1 hS => ?_)
  have hP := cd_Pf ht hP
  obtain ⟨at16, e3⟩ := hr14
  have fa17 := (e3 q (by omega)).trans fa12
  refine lv_aload_n hx hb d_Fw_writeNotesEntry_15 rfl (lv_at hl 0 rfl) ?_
  refine lv_iconst (v := (0 : Int32)) hx hb d_Fw_writeNotesEntry_16 (by decide) ?_
  refine va_callv (va_runV (As := [.int (0 : Int32)]) (rest := []) ⟨hx, hb, hml, hown, hA⟩ (c_Fw_writeFour l D tt ad N A zs w3 q qf qm qt nf (f_Fw_writeFour nf (f_Fw_writeFour nf (f_Fw_writeFour nf uf (4 : Int32)) v) (0 : Int32)) (0 : Int32) (⟨hn1, fa17⟩) at16 (by omega) (ho.2.2.2.1)) (cwV 1 hA (cd_gV aw_247 aw_248 aw_762 aw_6 aw_249) rfl rfl rfl ⟨rfl, by decide, by decide, by decide +kernel⟩ ⟨Nat.le_of_ble_eq_true rfl, Nat.le_of_ble_eq_true rfl⟩) ⟨cd_blind, cd_recv hK hP (k := q) (by omega) fa17 rfl, fun U hU hW => ⟨rfl, cd_pre hK hP hZ hS U hU hW⟩⟩ rfl rfl hl.1 rfl (lv_room (Nat.le_of_ble_eq_true rfl)) d_Fw_writeNotesEntry_17 ⟨Nat.zero_le _, Nat.zero_le _⟩) hS (fun _ _ h => h) (fun _ h => h) (fun w4 tE H locs ht hvm hr19 hP hz1 hk1 hS => ?_)
  have hP := cd_Pf ht hP
  obtain ⟨at21, e4⟩ := hr19
  have fa22 := (e4 q (by omega)).trans fa17
  refine lv_aload_n hx hb d_Fw_writeNotesEntry_20 rfl (lv_at hl 0 rfl) ?_
  refine lv_iload_n hx hb d_Fw_writeNotesEntry_21 rfl (lv_at hl 2 rfl) ?_
  refine va_callv (va_runV (As := [.int x]) (rest := []) ⟨hx, hb, hml, hown, hA⟩ (c_Fw_writeFour l D tt ad N A zs w4 q qf qm qt nf (f_Fw_writeFour nf (f_Fw_writeFour nf (f_Fw_writeFour nf (f_Fw_writeFour nf uf (4 : Int32)) v) (0 : Int32)) (0 : Int32)) x (⟨hn1, fa22⟩) at21 (by omega) (ho.2.2.2.2.1)) (cwV 1 hA (cd_gV aw_247 aw_248 aw_762 aw_6 aw_249) rfl rfl rfl ⟨rfl, by decide, by decide, by decide +kernel⟩ ⟨Nat.le_of_ble_eq_true rfl, Nat.le_of_ble_eq_true rfl⟩) ⟨cd_blind, cd_recv hK hP (k := q) (by omega) fa22 rfl, fun U hU hW => ⟨rfl, cd_pre hK hP hZ hS U hU hW⟩⟩ rfl rfl hl.1 rfl (lv_room (Nat.le_of_ble_eq_true rfl)) d_Fw_writeNotesEntry_22 ⟨Nat.zero_le _, Nat.zero_le _⟩) hS (fun _ _ h => h) (fun _ h => h) (fun w5 tE H locs ht hvm hr24 hP hz1 hk1 hS => ?_)
  have hP := cd_Pf ht hP
  obtain ⟨at26, e5⟩ := hr24
  have fa27 := (e5 q (by omega)).trans fa22
  refine lv_aload_n hx hb d_Fw_writeNotesEntry_25 rfl (lv_at hl 0 rfl) ?_
  refine lv_iload_n hx hb d_Fw_writeNotesEntry_26 rfl (lv_at hl 2 rfl) ?_
  refine va_callv (va_runV (As := [.int x]) (rest := []) ⟨hx, hb, hml, hown, hA⟩ (c_Fw_writeFour l D tt ad N A zs w5 q qf qm qt nf (f_Fw_writeFour nf (f_Fw_writeFour nf (f_Fw_writeFour nf (f_Fw_writeFour nf (f_Fw_writeFour nf uf (4 : Int32)) v) (0 : Int32)) (0 : Int32)) x) x (⟨hn1, fa27⟩) at26 (by omega) (ho.2.2.2.2.2.1)) (cwV 1 hA (cd_gV aw_247 aw_248 aw_762 aw_6 aw_249) rfl rfl rfl ⟨rfl, by decide, by decide, by decide +kernel⟩ ⟨Nat.le_of_ble_eq_true rfl, Nat.le_of_ble_eq_true rfl⟩) ⟨cd_blind, cd_recv hK hP (k := q) (by omega) fa27 rfl, fun U hU hW => ⟨rfl, cd_pre hK hP hZ hS U hU hW⟩⟩ rfl rfl hl.1 rfl (lv_room (Nat.le_of_ble_eq_true rfl)) d_Fw_writeNotesEntry_27 ⟨Nat.zero_le _, Nat.zero_le _⟩) hS (fun _ _ h => h) (fun _ h => h) (fun w6 tE H locs ht hvm hr29 hP hz1 hk1 hS => ?_)
  have hP := cd_Pf ht hP
  obtain ⟨at31, e6⟩ := hr29
  have fa32 := (e6 q (by omega)).trans fa27
  refine lv_aload_n hx hb d_Fw_writeNotesEntry_30 rfl (lv_at hl 0 rfl) ?_
  refine lv_iconst (v := (0 : Int32)) hx hb d_Fw_writeNotesEntry_31 (by decide) ?_
  refine va_callv (va_runV (As := [.int (0 : Int32)]) (rest := []) ⟨hx, hb, hml, hown, hA⟩ (c_Fw_writeFour l D tt ad N A zs w6 q qf qm qt nf (f_Fw_writeFour nf (f_Fw_writeFour nf (f_Fw_writeFour nf (f_Fw_writeFour nf (f_Fw_writeFour nf (f_Fw_writeFour nf uf (4 : Int32)) v) (0 : Int32)) (0 : Int32)) x) x) (0 : Int32) (⟨hn1, fa32⟩) at31 (by omega) (ho.2.2.2.2.2.2.1)) (cwV 1 hA (cd_gV aw_247 aw_248 aw_762 aw_6 aw_249) rfl rfl rfl ⟨rfl, by decide, by decide, by decide +kernel⟩ ⟨Nat.le_of_ble_eq_true rfl, Nat.le_of_ble_eq_true rfl⟩) ⟨cd_blind, cd_recv hK hP (k := q) (by omega) fa32 rfl, fun U hU hW => ⟨rfl, cd_pre hK hP hZ hS U hU hW⟩⟩ rfl rfl hl.1 rfl (lv_room (Nat.le_of_ble_eq_true rfl)) d_Fw_writeNotesEntry_32 ⟨Nat.zero_le _, Nat.zero_le _⟩) hS (fun _ _ h => h) (fun _ h => h) (fun w7 tE H locs ht hvm hr34 hP hz1 hk1 hS => ?_)
  have hP := cd_Pf ht hP
  obtain ⟨at36, e7⟩ := hr34
  have fa37 := (e7 q (by omega)).trans fa32
  refine lv_aload_n hx hb d_Fw_writeNotesEntry_35 rfl (lv_at hl 0 rfl) ?_
  refine lv_iconst (v := (4 : Int32)) hx hb d_Fw_writeNotesEntry_36 (by decide) ?_
  refine va_callv (va_runV (As := [.int (4 : Int32)]) (rest := []) ⟨hx, hb, hml, hown, hA⟩ (c_Fw_writeFour l D tt ad N A zs w7 q qf qm qt nf (f_Fw_writeFour nf (f_Fw_writeFour nf (f_Fw_writeFour nf (f_Fw_writeFour nf (f_Fw_writeFour nf (f_Fw_writeFour nf (f_Fw_writeFour nf uf (4 : Int32)) v) (0 : Int32)) (0 : Int32)) x) x) (0 : Int32)) (4 : Int32) (⟨hn1, fa37⟩) at36 (by omega) (ho.2.2.2.2.2.2.2)) (cwV 1 hA (cd_gV aw_247 aw_248 aw_762 aw_6 aw_249) rfl rfl rfl ⟨rfl, by decide, by decide, by decide +kernel⟩ ⟨Nat.le_of_ble_eq_true rfl, Nat.le_of_ble_eq_true rfl⟩) ⟨cd_blind, cd_recv hK hP (k := q) (by omega) fa37 rfl, fun U hU hW => ⟨rfl, cd_pre hK hP hZ hS U hU hW⟩⟩ rfl rfl hl.1 rfl (lv_room (Nat.le_of_ble_eq_true rfl)) d_Fw_writeNotesEntry_37 ⟨Nat.zero_le _, Nat.zero_le _⟩) hS (fun _ _ h => h) (fun _ h => h) (fun w8 tE H locs ht hvm hr39 hP hz1 hk1 hS => ?_)
  have hP := cd_Pf ht hP
  obtain ⟨at41, e8⟩ := hr39
  have fa42 := (e8 q (by omega)).trans fa37
  have hf43 : (f_Fw_writeNotesEntry nf uf v x) = (f_Fw_writeFour nf (f_Fw_writeFour nf (f_Fw_writeFour nf (f_Fw_writeFour nf (f_Fw_writeFour nf (f_Fw_writeFour nf (f_Fw_writeFour nf (f_Fw_writeFour nf uf (4 : Int32)) v) (0 : Int32)) (0 : Int32)) x) x) (0 : Int32)) (4 : Int32)) := by rw [f_Fw_writeNotesEntry]
  exact W.vret hx hb hr (fun tE ht _ => ⟨⟨w8, rfl, ⟨(by rw [hf43]; exact at41), (fun k hk => ((e8 k (by omega)).trans ((e7 k (by omega)).trans ((e6 k (by omega)).trans ((e5 k (by omega)).trans ((e4 k (by omega)).trans ((e3 k (by omega)).trans ((e2 k (by omega)).trans (e1 k (by omega))))))))))⟩, cd_Pt ht hP⟩, hS.F ht⟩) hS.2.2 d_Fw_writeNotesEntry_40
def f_Fw_writeRegionEntry (u1 : cd_Reg) (nf : Nat) (uf : cd_Row) (v : Int32) (x : Int32) : cd_Row := (f_Fw_writeFour nf (f_Fw_writeFour nf (f_Fw_writeFour nf (f_Fw_writeFour nf (f_Fw_writeFour nf (f_Fw_writeFour nf (f_Fw_writeFour nf (f_Fw_writeFour nf uf (1 : Int32)) v) u1.1) (0 : Int32)) x) u1.2.1) u1.2.2.1) (64 : Int32))
def o_Fw_writeRegionEntry (u1 : cd_Reg) (nf : Nat) (uf : cd_Row) (v : Int32) (x : Int32) : Prop := (o_Fw_writeFour nf uf (1 : Int32)) ∧ (o_Fw_writeFour nf (f_Fw_writeFour nf uf (1 : Int32)) v) ∧ (o_Fw_writeFour nf (f_Fw_writeFour nf (f_Fw_writeFour nf uf (1 : Int32)) v) u1.1) ∧ (o_Fw_writeFour nf (f_Fw_writeFour nf (f_Fw_writeFour nf (f_Fw_writeFour nf uf (1 : Int32)) v) u1.1) (0 : Int32)) ∧ (o_Fw_writeFour nf (f_Fw_writeFour nf (f_Fw_writeFour nf (f_Fw_writeFour nf (f_Fw_writeFour nf uf (1 : Int32)) v) u1.1) (0 : Int32)) x) ∧ (o_Fw_writeFour nf (f_Fw_writeFour nf (f_Fw_writeFour nf (f_Fw_writeFour nf (f_Fw_writeFour nf (f_Fw_writeFour nf uf (1 : Int32)) v) u1.1) (0 : Int32)) x) u1.2.1) ∧ (o_Fw_writeFour nf (f_Fw_writeFour nf (f_Fw_writeFour nf (f_Fw_writeFour nf (f_Fw_writeFour nf (f_Fw_writeFour nf (f_Fw_writeFour nf uf (1 : Int32)) v) u1.1) (0 : Int32)) x) u1.2.1) u1.2.2.1) ∧ (o_Fw_writeFour nf (f_Fw_writeFour nf (f_Fw_writeFour nf (f_Fw_writeFour nf (f_Fw_writeFour nf (f_Fw_writeFour nf (f_Fw_writeFour nf (f_Fw_writeFour nf uf (1 : Int32)) v) u1.1) (0 : Int32)) x) u1.2.1) u1.2.2.1) (64 : Int32))
set_option maxHeartbeats 4000000 in
set_option maxRecDepth 100000 in
theorem c_Fw_writeRegionEntry (l : Launch) (D : va_G) (tt : Nat → ClassId) (ad : Nat → Nat) (N : Nat) (A : Nat → Prop) (zs : Nat → Nat) (w0 : Nat → va_E) (q qf qm qt : Nat) (q1 : Nat) (u1 : cd_Reg) (nf : Nat) (uf : cd_Row) (v : Int32) (x : Int32) (hR0 : cd_FwAt N tt ad w0 q qf qm qt) (hR1 : cd_RegAt N tt ad w0 q1 u1) (hR2 : cd_RowAt N tt ad w0 qf nf uf) (hap0 : qf + 2 ≤ q ∨ q + 1 ≤ qf) (hap1 : qf + 2 ≤ q1 ∨ q1 + 2 ≤ qf) (ho : o_Fw_writeRegionEntry u1 nf uf v x) : Met l y_Fw_writeRegionEntry w_Fw_writeRegionEntry ({ frames := 3, cells := 0, slots := 0, locals := 66 }) (va_Pc [.ref (ad q), .int v, .ref (ad q1), .int x] (cd_U D tt ad N A zs w0)) (va_Qv (fun w' => cd_RowAt N tt ad w' qf nf (f_Fw_writeRegionEntry u1 nf uf v x) ∧ (∀ k : Nat, (k < qf ∨ qf + 2 ≤ k) → w' k = w0 k)) (fun w' t => cd_P D ad N A w' t.heap) A) 0 0 A := by
  refine Met.ofW (cc := b_Fw_writeRegionEntry) (maxL := 4) (ret := none) (by decide) rfl ?_
  intro p e s m args below meth c s₁ B hml hv
  obtain ⟨rfl, hP, hK, hZ⟩ := hv
  have hx := B.exec
  have hb := B.bytes
  have hr := B.returns
  have hA : ∀ w ∈ cd_AW, w.before _ s = true := fun w h => atoms_spec (ws := w_Fw_writeRegionEntry) B.pre w (List.mem_cons_of_mem _ h)
  have hown : s.vm.findClass R_Fw = some m.cls := findClass_of_methodNamed B.named
  have hlocks := B.notSynchronized
  have hS : va_S A s.heap s.heap [] := va_S.rf
  have hl := lv_entry ([.ref (ad q), .int v, .ref (ad q1), .int x]) (n := 4) (Nat.le_of_ble_eq_true rfl)
  rw [lg_entry_eq]
  generalize (lg_sl ([.ref (ad q), .int v, .ref (ad q1), .int x]) ++ List.replicate (4 - (lg_sl ([.ref (ad q), .int v, .ref (ad q1), .int x])).length) Slot.unset).toArray = ls at hl ⊢
  have hl : lv_has ls 4 [(0, .ref (ad q)), (1, .int v), (2, .ref (ad q1)), (3, .int x)] := hl
  have ho : (o_Fw_writeFour nf uf (1 : Int32)) ∧ (o_Fw_writeFour nf (f_Fw_writeFour nf uf (1 : Int32)) v) ∧ (o_Fw_writeFour nf (f_Fw_writeFour nf (f_Fw_writeFour nf uf (1 : Int32)) v) u1.1) ∧ (o_Fw_writeFour nf (f_Fw_writeFour nf (f_Fw_writeFour nf (f_Fw_writeFour nf uf (1 : Int32)) v) u1.1) (0 : Int32)) ∧ (o_Fw_writeFour nf (f_Fw_writeFour nf (f_Fw_writeFour nf (f_Fw_writeFour nf (f_Fw_writeFour nf uf (1 : Int32)) v) u1.1) (0 : Int32)) x) ∧ (o_Fw_writeFour nf (f_Fw_writeFour nf (f_Fw_writeFour nf (f_Fw_writeFour nf (f_Fw_writeFour nf (f_Fw_writeFour nf uf (1 : Int32)) v) u1.1) (0 : Int32)) x) u1.2.1) ∧ (o_Fw_writeFour nf (f_Fw_writeFour nf (f_Fw_writeFour nf (f_Fw_writeFour nf (f_Fw_writeFour nf (f_Fw_writeFour nf (f_Fw_writeFour nf uf (1 : Int32)) v) u1.1) (0 : Int32)) x) u1.2.1) u1.2.2.1) ∧ (o_Fw_writeFour nf (f_Fw_writeFour nf (f_Fw_writeFour nf (f_Fw_writeFour nf (f_Fw_writeFour nf (f_Fw_writeFour nf (f_Fw_writeFour nf (f_Fw_writeFour nf uf (1 : Int32)) v) u1.1) (0 : Int32)) x) u1.2.1) u1.2.2.1) (64 : Int32)) := ho
  obtain ⟨hn1, fa2⟩ := hR0
  refine lv_aload_n hx hb d_Fw_writeRegionEntry_0 rfl (lv_at hl 0 rfl) ?_
  refine lv_iconst (v := (1 : Int32)) hx hb d_Fw_writeRegionEntry_1 (by decide) ?_
  refine va_callv (va_runV (As := [.int (1 : Int32)]) (rest := []) ⟨hx, hb, hml, hown, hA⟩ (c_Fw_writeFour l D tt ad N A zs w0 q qf qm qt nf uf (1 : Int32) (⟨hn1, fa2⟩) hR2 (by omega) (ho.1)) (cwV 1 hA (cd_gV aw_247 aw_248 aw_762 aw_6 aw_249) rfl rfl rfl ⟨rfl, by decide, by decide, by decide +kernel⟩ ⟨Nat.le_of_ble_eq_true rfl, Nat.le_of_ble_eq_true rfl⟩) ⟨cd_blind, cd_recv hK hP (k := q) (by omega) fa2 rfl, fun U hU hW => ⟨rfl, cd_pre hK hP hZ hS U hU hW⟩⟩ rfl rfl hl.1 rfl (lv_room (Nat.le_of_ble_eq_true rfl)) d_Fw_writeRegionEntry_2 ⟨Nat.zero_le _, Nat.zero_le _⟩) hS (fun _ _ h => h) (fun _ h => h) (fun w1 tE H locs ht hvm hr4 hP hz1 hk1 hS => ?_)
  have hP := cd_Pf ht hP
  obtain ⟨at6, e1⟩ := hr4
  have fa7 := (e1 q (by omega)).trans fa2
  have at8 := cd_RegAt_keep hR1 (fun k h1 h2 => e1 k (by omega))
  refine lv_aload_n hx hb d_Fw_writeRegionEntry_5 rfl (lv_at hl 0 rfl) ?_
  refine lv_iload_n hx hb d_Fw_writeRegionEntry_6 rfl (lv_at hl 1 rfl) ?_
  refine va_callv (va_runV (As := [.int v]) (rest := []) ⟨hx, hb, hml, hown, hA⟩ (c_Fw_writeFour l D tt ad N A zs w1 q qf qm qt nf (f_Fw_writeFour nf uf (1 : Int32)) v (⟨hn1, fa7⟩) at6 (by omega) (ho.2.1)) (cwV 1 hA (cd_gV aw_247 aw_248 aw_762 aw_6 aw_249) rfl rfl rfl ⟨rfl, by decide, by decide, by decide +kernel⟩ ⟨Nat.le_of_ble_eq_true rfl, Nat.le_of_ble_eq_true rfl⟩) ⟨cd_blind, cd_recv hK hP (k := q) (by omega) fa7 rfl, fun U hU hW => ⟨rfl, cd_pre hK hP hZ hS U hU hW⟩⟩ rfl rfl hl.1 rfl (lv_room (Nat.le_of_ble_eq_true rfl)) d_Fw_writeRegionEntry_7 ⟨Nat.zero_le _, Nat.zero_le _⟩) hS (fun _ _ h => h) (fun _ h => h) (fun w2 tE H locs ht hvm hr10 hP hz1 hk1 hS => ?_)
  have hP := cd_Pf ht hP
  obtain ⟨at12, e2⟩ := hr10
  have fa13 := (e2 q (by omega)).trans fa7
  have at14 := cd_RegAt_keep at8 (fun k h1 h2 => e2 k (by omega))
  refine lv_aload_n hx hb d_Fw_writeRegionEntry_10 rfl (lv_at hl 0 rfl) ?_
  refine lv_aload_n hx hb d_Fw_writeRegionEntry_11 rfl (lv_at hl 2 rfl) ?_
  obtain ⟨hn15, fa16, fa17⟩ := at14
  refine g_getN (ci := 1) (C := R_Reg) (T := F_Reg) (Nf := 4) (v := .int u1.1) hx hb hA in_Reg hown hK hP (k := q1) (by omega) fa16 rfl 1 (by decide) (va_Nw.use rfl (nw_3 hZ.2.2.2.2.2.2)) (fun _ h9 => h9) rfl d_Fw_writeRegionEntry_12 ?_
  refine va_callv (va_runV (As := [.int u1.1]) (rest := []) ⟨hx, hb, hml, hown, hA⟩ (c_Fw_writeFour l D tt ad N A zs w2 q qf qm qt nf (f_Fw_writeFour nf (f_Fw_writeFour nf uf (1 : Int32)) v) u1.1 (⟨hn1, fa13⟩) at12 (by omega) (ho.2.2.1)) (cwV 1 hA (cd_gV aw_247 aw_248 aw_762 aw_6 aw_249) rfl rfl rfl ⟨rfl, by decide, by decide, by decide +kernel⟩ ⟨Nat.le_of_ble_eq_true rfl, Nat.le_of_ble_eq_true rfl⟩) ⟨cd_blind, cd_recv hK hP (k := q) (by omega) fa13 rfl, fun U hU hW => ⟨rfl, cd_pre hK hP hZ hS U hU hW⟩⟩ rfl rfl hl.1 rfl (lv_room (Nat.le_of_ble_eq_true rfl)) d_Fw_writeRegionEntry_15 ⟨Nat.zero_le _, Nat.zero_le _⟩) hS (fun _ _ h => h) (fun _ h => h) (fun w3 tE H locs ht hvm hr19 hP hz1 hk1 hS => ?_)
  have hP := cd_Pf ht hP
  obtain ⟨at21, e3⟩ := hr19
  have fa22 := (e3 q (by omega)).trans fa13
  have fa23 := (e3 q1 (by omega)).trans fa16
  have fa24 := (e3 (q1 + 1) (by omega)).trans fa17
  refine lv_aload_n hx hb d_Fw_writeRegionEntry_18 rfl (lv_at hl 0 rfl) ?_
  refine lv_iconst (v := (0 : Int32)) hx hb d_Fw_writeRegionEntry_19 (by decide) ?_
  refine va_callv (va_runV (As := [.int (0 : Int32)]) (rest := []) ⟨hx, hb, hml, hown, hA⟩ (c_Fw_writeFour l D tt ad N A zs w3 q qf qm qt nf (f_Fw_writeFour nf (f_Fw_writeFour nf (f_Fw_writeFour nf uf (1 : Int32)) v) u1.1) (0 : Int32) (⟨hn1, fa22⟩) at21 (by omega) (ho.2.2.2.1)) (cwV 1 hA (cd_gV aw_247 aw_248 aw_762 aw_6 aw_249) rfl rfl rfl ⟨rfl, by decide, by decide, by decide +kernel⟩ ⟨Nat.le_of_ble_eq_true rfl, Nat.le_of_ble_eq_true rfl⟩) ⟨cd_blind, cd_recv hK hP (k := q) (by omega) fa22 rfl, fun U hU hW => ⟨rfl, cd_pre hK hP hZ hS U hU hW⟩⟩ rfl rfl hl.1 rfl (lv_room (Nat.le_of_ble_eq_true rfl)) d_Fw_writeRegionEntry_20 ⟨Nat.zero_le _, Nat.zero_le _⟩) hS (fun _ _ h => h) (fun _ h => h) (fun w4 tE H locs ht hvm hr26 hP hz1 hk1 hS => ?_)
  have hP := cd_Pf ht hP
  obtain ⟨at28, e4⟩ := hr26
  have fa29 := (e4 q (by omega)).trans fa22
  have fa30 := (e4 q1 (by omega)).trans fa23
  have fa31 := (e4 (q1 + 1) (by omega)).trans fa24
  refine lv_aload_n hx hb d_Fw_writeRegionEntry_23 rfl (lv_at hl 0 rfl) ?_
  refine lv_iload_n hx hb d_Fw_writeRegionEntry_24 rfl (lv_at hl 3 rfl) ?_
  refine va_callv (va_runV (As := [.int x]) (rest := []) ⟨hx, hb, hml, hown, hA⟩ (c_Fw_writeFour l D tt ad N A zs w4 q qf qm qt nf (f_Fw_writeFour nf (f_Fw_writeFour nf (f_Fw_writeFour nf (f_Fw_writeFour nf uf (1 : Int32)) v) u1.1) (0 : Int32)) x (⟨hn1, fa29⟩) at28 (by omega) (ho.2.2.2.2.1)) (cwV 1 hA (cd_gV aw_247 aw_248 aw_762 aw_6 aw_249) rfl rfl rfl ⟨rfl, by decide, by decide, by decide +kernel⟩ ⟨Nat.le_of_ble_eq_true rfl, Nat.le_of_ble_eq_true rfl⟩) ⟨cd_blind, cd_recv hK hP (k := q) (by omega) fa29 rfl, fun U hU hW => ⟨rfl, cd_pre hK hP hZ hS U hU hW⟩⟩ rfl rfl hl.1 rfl (lv_room (Nat.le_of_ble_eq_true rfl)) d_Fw_writeRegionEntry_25 ⟨Nat.zero_le _, Nat.zero_le _⟩) hS (fun _ _ h => h) (fun _ h => h) (fun w5 tE H locs ht hvm hr33 hP hz1 hk1 hS => ?_)
  have hP := cd_Pf ht hP
  obtain ⟨at35, e5⟩ := hr33
  have fa36 := (e5 q (by omega)).trans fa29
  have fa37 := (e5 q1 (by omega)).trans fa30
  have fa38 := (e5 (q1 + 1) (by omega)).trans fa31
  refine lv_aload_n hx hb d_Fw_writeRegionEntry_28 rfl (lv_at hl 0 rfl) ?_
  refine lv_aload_n hx hb d_Fw_writeRegionEntry_29 rfl (lv_at hl 2 rfl) ?_
  refine g_getN (ci := 1) (C := R_Reg) (T := F_Reg) (Nf := 4) (v := .int u1.2.1) hx hb hA in_Reg hown hK hP (k := q1) (by omega) fa37 rfl 2 (by decide) (va_Nw.use rfl (nw_5 hZ.2.2.2.2.2.2)) (fun _ h9 => h9) rfl d_Fw_writeRegionEntry_30 ?_
  refine va_callv (va_runV (As := [.int u1.2.1]) (rest := []) ⟨hx, hb, hml, hown, hA⟩ (c_Fw_writeFour l D tt ad N A zs w5 q qf qm qt nf (f_Fw_writeFour nf (f_Fw_writeFour nf (f_Fw_writeFour nf (f_Fw_writeFour nf (f_Fw_writeFour nf uf (1 : Int32)) v) u1.1) (0 : Int32)) x) u1.2.1 (⟨hn1, fa36⟩) at35 (by omega) (ho.2.2.2.2.2.1)) (cwV 1 hA (cd_gV aw_247 aw_248 aw_762 aw_6 aw_249) rfl rfl rfl ⟨rfl, by decide, by decide, by decide +kernel⟩ ⟨Nat.le_of_ble_eq_true rfl, Nat.le_of_ble_eq_true rfl⟩) ⟨cd_blind, cd_recv hK hP (k := q) (by omega) fa36 rfl, fun U hU hW => ⟨rfl, cd_pre hK hP hZ hS U hU hW⟩⟩ rfl rfl hl.1 rfl (lv_room (Nat.le_of_ble_eq_true rfl)) d_Fw_writeRegionEntry_33 ⟨Nat.zero_le _, Nat.zero_le _⟩) hS (fun _ _ h => h) (fun _ h => h) (fun w6 tE H locs ht hvm hr40 hP hz1 hk1 hS => ?_)
  have hP := cd_Pf ht hP
  obtain ⟨at42, e6⟩ := hr40
  have fa43 := (e6 q (by omega)).trans fa36
  have fa44 := (e6 q1 (by omega)).trans fa37
  have fa45 := (e6 (q1 + 1) (by omega)).trans fa38
  refine lv_aload_n hx hb d_Fw_writeRegionEntry_36 rfl (lv_at hl 0 rfl) ?_
  refine lv_aload_n hx hb d_Fw_writeRegionEntry_37 rfl (lv_at hl 2 rfl) ?_
  refine g_getN (ci := 1) (C := R_Reg) (T := F_Reg) (Nf := 4) (v := .int u1.2.2.1) hx hb hA in_Reg hown hK hP (k := q1) (by omega) fa44 rfl 3 (by decide) (va_Nw.use rfl (nw_6 hZ.2.2.2.2.2.2)) (fun _ h9 => h9) rfl d_Fw_writeRegionEntry_38 ?_
  refine va_callv (va_runV (As := [.int u1.2.2.1]) (rest := []) ⟨hx, hb, hml, hown, hA⟩ (c_Fw_writeFour l D tt ad N A zs w6 q qf qm qt nf (f_Fw_writeFour nf (f_Fw_writeFour nf (f_Fw_writeFour nf (f_Fw_writeFour nf (f_Fw_writeFour nf (f_Fw_writeFour nf uf (1 : Int32)) v) u1.1) (0 : Int32)) x) u1.2.1) u1.2.2.1 (⟨hn1, fa43⟩) at42 (by omega) (ho.2.2.2.2.2.2.1)) (cwV 1 hA (cd_gV aw_247 aw_248 aw_762 aw_6 aw_249) rfl rfl rfl ⟨rfl, by decide, by decide, by decide +kernel⟩ ⟨Nat.le_of_ble_eq_true rfl, Nat.le_of_ble_eq_true rfl⟩) ⟨cd_blind, cd_recv hK hP (k := q) (by omega) fa43 rfl, fun U hU hW => ⟨rfl, cd_pre hK hP hZ hS U hU hW⟩⟩ rfl rfl hl.1 rfl (lv_room (Nat.le_of_ble_eq_true rfl)) d_Fw_writeRegionEntry_41 ⟨Nat.zero_le _, Nat.zero_le _⟩) hS (fun _ _ h => h) (fun _ h => h) (fun w7 tE H locs ht hvm hr47 hP hz1 hk1 hS => ?_)
  have hP := cd_Pf ht hP
  obtain ⟨at49, e7⟩ := hr47
  have fa50 := (e7 q (by omega)).trans fa43
  have fa51 := (e7 q1 (by omega)).trans fa44
  have fa52 := (e7 (q1 + 1) (by omega)).trans fa45
  refine lv_aload_n hx hb d_Fw_writeRegionEntry_44 rfl (lv_at hl 0 rfl) ?_
  refine lv_bipush (v := (64 : Int32)) hx hb d_Fw_writeRegionEntry_45 (by decide) ?_
  refine va_callv (va_runV (As := [.int (64 : Int32)]) (rest := []) ⟨hx, hb, hml, hown, hA⟩ (c_Fw_writeFour l D tt ad N A zs w7 q qf qm qt nf (f_Fw_writeFour nf (f_Fw_writeFour nf (f_Fw_writeFour nf (f_Fw_writeFour nf (f_Fw_writeFour nf (f_Fw_writeFour nf (f_Fw_writeFour nf uf (1 : Int32)) v) u1.1) (0 : Int32)) x) u1.2.1) u1.2.2.1) (64 : Int32) (⟨hn1, fa50⟩) at49 (by omega) (ho.2.2.2.2.2.2.2)) (cwV 1 hA (cd_gV aw_247 aw_248 aw_762 aw_6 aw_249) rfl rfl rfl ⟨rfl, by decide, by decide, by decide +kernel⟩ ⟨Nat.le_of_ble_eq_true rfl, Nat.le_of_ble_eq_true rfl⟩) ⟨cd_blind, cd_recv hK hP (k := q) (by omega) fa50 rfl, fun U hU hW => ⟨rfl, cd_pre hK hP hZ hS U hU hW⟩⟩ rfl rfl hl.1 rfl (lv_room (Nat.le_of_ble_eq_true rfl)) d_Fw_writeRegionEntry_47 ⟨Nat.zero_le _, Nat.zero_le _⟩) hS (fun _ _ h => h) (fun _ h => h) (fun w8 tE H locs ht hvm hr54 hP hz1 hk1 hS => ?_)
  have hP := cd_Pf ht hP
  obtain ⟨at56, e8⟩ := hr54
  have fa57 := (e8 q (by omega)).trans fa50
  have fa58 := (e8 q1 (by omega)).trans fa51
  have fa59 := (e8 (q1 + 1) (by omega)).trans fa52
  have hf60 : (f_Fw_writeRegionEntry u1 nf uf v x) = (f_Fw_writeFour nf (f_Fw_writeFour nf (f_Fw_writeFour nf (f_Fw_writeFour nf (f_Fw_writeFour nf (f_Fw_writeFour nf (f_Fw_writeFour nf (f_Fw_writeFour nf uf (1 : Int32)) v) u1.1) (0 : Int32)) x) u1.2.1) u1.2.2.1) (64 : Int32)) := by rw [f_Fw_writeRegionEntry]
  exact W.vret hx hb hr (fun tE ht _ => ⟨⟨w8, rfl, ⟨(by rw [hf60]; exact at56), (fun k hk => ((e8 k (by omega)).trans ((e7 k (by omega)).trans ((e6 k (by omega)).trans ((e5 k (by omega)).trans ((e4 k (by omega)).trans ((e3 k (by omega)).trans ((e2 k (by omega)).trans (e1 k (by omega))))))))))⟩, cd_Pt ht hP⟩, hS.F ht⟩) hS.2.2 d_Fw_writeRegionEntry_50
def f_Fw_writeHeader_L2 (nf : Nat) (uf : cd_Row) (um : cd_Mem) : Nat → Int32 → cd_Row → cd_Row
  | 0, _, _ => default
  | gn + 1, i, uf' => (if (29 : Int32) ≤ i then uf' else (if i = (25 : Int32) then (f_Fw_writeHeader_L2 nf uf um gn (i + (1 : Int32)) (f_Row_appendNumber nf uf' (f_Fw_entries um) (cd_hw i.toNatClampNeg))) else (f_Fw_writeHeader_L2 nf uf um gn (i + (1 : Int32)) (f_Row_appendNumber nf uf' (cd_hv i.toNatClampNeg) (cd_hw i.toNatClampNeg)))))
def f_Fw_writeHeader (nf : Nat) (uf : cd_Row) (um : cd_Mem) : cd_Row := (f_Fw_writeHeader_L2 nf uf um 30 (0 : Int32) uf)
def o_Fw_writeHeader_L2 (nf : Nat) (uf : cd_Row) (um : cd_Mem) : Nat → Int32 → cd_Row → Prop
  | 0, _, _ => False
  | gn + 1, i, uf' => (¬ (29 : Int32) ≤ i → ¬ i = (25 : Int32) → vp_in i 29) ∧ (¬ (29 : Int32) ≤ i → ¬ i = (25 : Int32) → vp_in i 29) ∧ (¬ (29 : Int32) ≤ i → ¬ i = (25 : Int32) → o_Row_appendNumber nf uf' (cd_hv i.toNatClampNeg) (cd_hw i.toNatClampNeg)) ∧ (¬ (29 : Int32) ≤ i → ¬ i = (25 : Int32) → o_Fw_writeHeader_L2 nf uf um gn (i + (1 : Int32)) (f_Row_appendNumber nf uf' (cd_hv i.toNatClampNeg) (cd_hw i.toNatClampNeg))) ∧ (¬ (29 : Int32) ≤ i → i = (25 : Int32) → vp_in i 29) ∧ (¬ (29 : Int32) ≤ i → i = (25 : Int32) → o_Row_appendNumber nf uf' (f_Fw_entries um) (cd_hw i.toNatClampNeg)) ∧ (¬ (29 : Int32) ≤ i → i = (25 : Int32) → o_Fw_writeHeader_L2 nf uf um gn (i + (1 : Int32)) (f_Row_appendNumber nf uf' (f_Fw_entries um) (cd_hw i.toNatClampNeg)))
def o_Fw_writeHeader (nf : Nat) (uf : cd_Row) (um : cd_Mem) : Prop := (o_Fw_writeHeader_L2 nf uf um 30 (0 : Int32) uf)
set_option maxHeartbeats 4000000 in
set_option maxRecDepth 100000 in
theorem c_Fw_writeHeader (l : Launch) (D : va_G) (tt : Nat → ClassId) (ad : Nat → Nat) (N : Nat) (A : Nat → Prop) (zs : Nat → Nat) (w0 : Nat → va_E) (q qf qm qt : Nat) (nf : Nat) (uf : cd_Row) (um : cd_Mem) (hR0 : cd_FwAt N tt ad w0 q qf qm qt) (hR1 : cd_RowAt N tt ad w0 qf nf uf) (hR2 : cd_MemAt N tt ad w0 qm um) (hap0 : qf + 2 ≤ qm ∨ qm + 14 ≤ qf) (hap1 : qf + 2 ≤ q ∨ q + 1 ≤ qf) (ho : o_Fw_writeHeader nf uf um) : Met l y_Fw_writeHeader w_Fw_writeHeader ({ frames := 2, cells := 0, slots := 0, locals := 45 }) (va_Pc [.ref (ad q)] (cd_U D tt ad N A zs w0)) (va_Qv (fun w' => cd_RowAt N tt ad w' qf nf (f_Fw_writeHeader nf uf um) ∧ (∀ k : Nat, (k < qf ∨ qf + 2 ≤ k) → w' k = w0 k)) (fun w' t => cd_P D ad N A w' t.heap) A) 0 0 A := by
  refine Met.ofW (cc := b_Fw_writeHeader) (maxL := 3) (ret := none) (by decide) rfl ?_
  intro p e s m args below meth c s₁ B hml hv
  obtain ⟨rfl, hP, hK, hZ⟩ := hv
  have hx := B.exec
  have hb := B.bytes
  have hr := B.returns
  have hA : ∀ w ∈ cd_AW, w.before _ s = true := fun w h => atoms_spec (ws := w_Fw_writeHeader) B.pre w (List.mem_cons_of_mem _ h)
  have hown : s.vm.findClass R_Fw = some m.cls := findClass_of_methodNamed B.named
  have hlocks := B.notSynchronized
  have L2 : ∀ (gn : Nat) (i : Int32) (uf' : cd_Row) (w : Nat → va_E) (efr : ∀ k : Nat, (k < qf ∨ qf + 2 ≤ k) → w k = w0 k) (H : Heap) (locs : List Loc) (ls : Array Slot), lv_has ls 3 [(0, .ref (ad q)), (1, .int i)] → (f_Fw_writeHeader nf uf um) = f_Fw_writeHeader_L2 nf uf um gn i uf' → cd_FwAt N tt ad w q qf qm qt → cd_RowAt N tt ad w qf nf uf' → cd_MemAt N tt ad w qm um → cd_P D ad N A w H → va_S A s.heap H locs → o_Fw_writeHeader_L2 nf uf um gn i uf' → W p l e (headSpec w_Fw_writeHeader ({ frames := 2, cells := 0, slots := 0, locals := 45 })).room s m [.ref (ad q)].toArray below meth c H locs 0 0 (MQ below (va_Qv (fun w' => cd_RowAt N tt ad w' qf nf (f_Fw_writeHeader nf uf um) ∧ (∀ k : Nat, (k < qf ∨ qf + 2 ≤ k) → w' k = w0 k)) (fun w' t => cd_P D ad N A w' t.heap) A) [.ref (ad q)].toArray s 0 0 A) (F0 m 2 ls []) := by
    intro gn
    induction gn with
    | zero => intro i uf' w efr H locs ls hl he hL0 hL1 hL2 hP hS ho; exact ho.elim
    | succ gn ih =>
      intro i uf' w efr H locs ls hl he hL0 hL1 hL2 hP hS ho
      have ho : (¬ (29 : Int32) ≤ i → ¬ i = (25 : Int32) → vp_in i 29) ∧ (¬ (29 : Int32) ≤ i → ¬ i = (25 : Int32) → vp_in i 29) ∧ (¬ (29 : Int32) ≤ i → ¬ i = (25 : Int32) → o_Row_appendNumber nf uf' (cd_hv i.toNatClampNeg) (cd_hw i.toNatClampNeg)) ∧ (¬ (29 : Int32) ≤ i → ¬ i = (25 : Int32) → o_Fw_writeHeader_L2 nf uf um gn (i + (1 : Int32)) (f_Row_appendNumber nf uf' (cd_hv i.toNatClampNeg) (cd_hw i.toNatClampNeg))) ∧ (¬ (29 : Int32) ≤ i → i = (25 : Int32) → vp_in i 29) ∧ (¬ (29 : Int32) ≤ i → i = (25 : Int32) → o_Row_appendNumber nf uf' (f_Fw_entries um) (cd_hw i.toNatClampNeg)) ∧ (¬ (29 : Int32) ≤ i → i = (25 : Int32) → o_Fw_writeHeader_L2 nf uf um gn (i + (1 : Int32)) (f_Row_appendNumber nf uf' (f_Fw_entries um) (cd_hw i.toNatClampNeg))) := ho
      obtain ⟨hn1, fa2⟩ := hL0
      refine lv_iload_n hx hb d_Fw_writeHeader_2 rfl (lv_at hl 1 rfl) ?_
      refine va_getsN hx hb hZ.1 hS hown (va_Nw.use rfl (nw_8 hZ.2.2.2.2.2.2)) (fun _ h9 => h9) d_Fw_writeHeader_3 ?_
      refine va_tlen (v := (29 : Int32)) hx hb hZ.2.1 hS (by decide) d_Fw_writeHeader_6 ?_
      refine lv_icmp_ge (tgt := 56) hx hb d_Fw_writeHeader_7 (by decide) (fun hc3 => ?_) (fun hc3 => ?_)
      · have hf4 : (f_Fw_writeHeader nf uf um) = uf' := by rw [he, f_Fw_writeHeader_L2, if_pos hc3]
        exact W.vret hx hb hr (fun tE ht _ => ⟨⟨w, rfl, ⟨(by rw [hf4]; exact hL1), (fun k hk => (efr k (by omega)))⟩, cd_Pt ht hP⟩, hS.F ht⟩) hS.2.2 d_Fw_writeHeader_56
      · refine lv_iload_n hx hb d_Fw_writeHeader_10 rfl (lv_at hl 1 rfl) ?_
        refine va_getsN hx hb hZ.2.2.1 hS hown (va_Nw.use rfl (nw_9 hZ.2.2.2.2.2.2)) (fun _ h9 => h9) d_Fw_writeHeader_11 ?_
        refine va_tlen (v := (29 : Int32)) hx hb hZ.2.2.2.1 hS (by decide) d_Fw_writeHeader_14 ?_
        refine lv_icmp_ge (tgt := 56) hx hb d_Fw_writeHeader_15 (by decide) (fun h9 => absurd h9 hc3) (fun _ => ?_)
        refine lv_iload_n hx hb d_Fw_writeHeader_18 rfl (lv_at hl 1 rfl) ?_
        refine lv_bipush (v := (25 : Int32)) hx hb d_Fw_writeHeader_19 (by decide) ?_
        refine lv_icmp_ne (tgt := 31) hx hb d_Fw_writeHeader_21 (by decide) (fun hc6 => ?_) (fun hc6 => ?_)
        · refine va_getsN hx hb hZ.1 hS hown (va_Nw.use rfl (nw_8 hZ.2.2.2.2.2.2)) (fun _ h9 => h9) d_Fw_writeHeader_31 ?_
          refine lv_iload_n hx hb d_Fw_writeHeader_34 rfl (lv_at hl 1 rfl) ?_
          refine va_ti hx hb hZ.2.1 hS (ho.1 hc3 hc6) rfl d_Fw_writeHeader_35 ?_
          refine lv_istore_n (lv' := [(2, .int (cd_hv i.toNatClampNeg)), (0, .ref (ad q)), (1, .int i)]) hx hb d_Fw_writeHeader_36 rfl hl (by decide) rfl (fun ls hl => ?_)
          refine lv_aload_n hx hb d_Fw_writeHeader_37 rfl (lv_at hl 1 rfl) ?_
          refine g_get (ci := 4) (C := R_Fw) (T := F_Fw) (Nf := 3) (v := .ref (ad qf)) hx hb hA in_Fw hown hK hP (k := q) (by omega) fa2 rfl 0 (by decide) (hA _ aw_78) (fun _ h9 => h9) rfl d_Fw_writeHeader_38 ?_
          refine lv_iload_n hx hb d_Fw_writeHeader_41 rfl (lv_at hl 0 rfl) ?_
          refine va_getsN hx hb hZ.2.2.1 hS hown (va_Nw.use rfl (nw_9 hZ.2.2.2.2.2.2)) (fun _ h9 => h9) d_Fw_writeHeader_42 ?_
          refine lv_iload_n hx hb d_Fw_writeHeader_45 rfl (lv_at hl 2 rfl) ?_
          refine va_ti hx hb hZ.2.2.2.1 hS (ho.2.1 hc3 hc6) rfl d_Fw_writeHeader_46 ?_
          obtain ⟨hn7, fa8, fa9⟩ := hL1
          refine va_callv (va_runV (As := [.int (cd_hv i.toNatClampNeg), .int (cd_hw i.toNatClampNeg)]) (rest := []) ⟨hx, hb, hml, hown, hA⟩ (c_Row_appendNumber l D tt ad N A zs w qf nf uf' (cd_hv i.toNatClampNeg) (cd_hw i.toNatClampNeg) (⟨hn7, fa8, fa9⟩) (ho.2.2.1 hc3 hc6)) (cwV 2 hA (cd_gV aw_229 aw_230 aw_231 aw_5 aw_232) rfl rfl rfl ⟨rfl, by decide, by decide, by decide +kernel⟩ ⟨Nat.le_of_ble_eq_true rfl, Nat.le_of_ble_eq_true rfl⟩) ⟨cd_blind, cd_recv hK hP (k := qf) (by omega) fa8 rfl, fun U hU hW => ⟨rfl, cd_pre hK hP hZ hS U hU hW⟩⟩ rfl rfl hl.1 rfl (lv_room (Nat.le_of_ble_eq_true rfl)) d_Fw_writeHeader_47 ⟨Nat.zero_le _, Nat.zero_le _⟩) hS (fun _ _ h => h) (fun _ h => h) (fun w1 tE H locs ht hvm hr11 hP hz1 hk1 hS => ?_)
          have hP := cd_Pf ht hP
          obtain ⟨at13, e1⟩ := hr11
          have fa14 := (e1 q (by omega)).trans fa2
          have at15 := cd_MemAt_keep hL2 (fun k h1 h2 => e1 k (by omega))
          refine lv_iinc (k := 2) (v := (i + (1 : Int32))) (lv' := [(1, .int (i + (1 : Int32))), (2, .int (cd_hv i.toNatClampNeg)), (0, .ref (ad q))]) hx hb d_Fw_writeHeader_50 hl rfl (cd_inc _ _ _ (by decide)) (by decide) rfl (fun ls hl => ?_)
          refine lv_goto (tgt := 2) hx hb d_Fw_writeHeader_53 (by decide) ?_
          exact ih (i + (1 : Int32)) (f_Row_appendNumber nf uf' (cd_hv i.toNatClampNeg) (cd_hw i.toNatClampNeg)) w1 (fun k hk => ((e1 k (by omega)).trans (efr k (by omega)))) H locs ls (lv_sub hl [2, 0] rfl) (show (f_Fw_writeHeader nf uf um) = f_Fw_writeHeader_L2 nf uf um gn (i + (1 : Int32)) (f_Row_appendNumber nf uf' (cd_hv i.toNatClampNeg) (cd_hw i.toNatClampNeg)) by rw [he, f_Fw_writeHeader_L2, if_neg hc3, if_neg hc6]) (⟨hn1, fa14⟩) at13 at15 hP hS (ho.2.2.2.1 hc3 hc6)
        · refine lv_aload_n hx hb d_Fw_writeHeader_24 rfl (lv_at hl 0 rfl) ?_
          refine va_calli (va_runV (As := []) (rest := []) ⟨hx, hb, hml, hown, hA⟩ (c_Fw_entries l D tt ad N A zs w q qf qm qt um (⟨hn1, fa2⟩) hL2) (cwV 0 hA (cd_gV aw_222 aw_223 aw_759 aw_6 aw_224) rfl rfl rfl ⟨rfl, by decide, by decide, by decide +kernel⟩ ⟨Nat.le_of_ble_eq_true rfl, Nat.le_of_ble_eq_true rfl⟩) ⟨cd_blind, cd_recv hK hP (k := q) (by omega) fa2 rfl, fun U hU hW => ⟨rfl, cd_pre hK hP hZ hS U hU hW⟩⟩ rfl rfl hl.1 rfl (lv_room (Nat.le_of_ble_eq_true rfl)) d_Fw_writeHeader_25 ⟨Nat.zero_le _, Nat.zero_le _⟩) hS (fun _ _ h => h) (fun _ h => h) (fun r16 w2 tE H locs ht hvm hr17 hP hz1 hk1 hS => ?_)
          have hP := cd_Pf ht hP
          obtain ⟨rfl, rfl⟩ := hr17
          refine lv_goto (tgt := 36) hx hb d_Fw_writeHeader_28 (by decide) ?_
          refine lv_istore_n (lv' := [(2, .int (f_Fw_entries um)), (0, .ref (ad q)), (1, .int i)]) hx hb d_Fw_writeHeader_36 rfl hl (by decide) rfl (fun ls hl => ?_)
          refine lv_aload_n hx hb d_Fw_writeHeader_37 rfl (lv_at hl 1 rfl) ?_
          refine g_get (ci := 4) (C := R_Fw) (T := F_Fw) (Nf := 3) (v := .ref (ad qf)) hx hb hA in_Fw hown hK hP (k := q) (by omega) fa2 rfl 0 (by decide) (hA _ aw_78) (fun _ h9 => h9) rfl d_Fw_writeHeader_38 ?_
          refine lv_iload_n hx hb d_Fw_writeHeader_41 rfl (lv_at hl 0 rfl) ?_
          refine va_getsN hx hb hZ.2.2.1 hS hown (va_Nw.use rfl (nw_9 hZ.2.2.2.2.2.2)) (fun _ h9 => h9) d_Fw_writeHeader_42 ?_
          refine lv_iload_n hx hb d_Fw_writeHeader_45 rfl (lv_at hl 2 rfl) ?_
          refine va_ti hx hb hZ.2.2.2.1 hS (ho.2.2.2.2.1 hc3 hc6) rfl d_Fw_writeHeader_46 ?_
          obtain ⟨hn19, fa20, fa21⟩ := hL1
          refine va_callv (va_runV (As := [.int (f_Fw_entries um), .int (cd_hw i.toNatClampNeg)]) (rest := []) ⟨hx, hb, hml, hown, hA⟩ (c_Row_appendNumber l D tt ad N A zs w qf nf uf' (f_Fw_entries um) (cd_hw i.toNatClampNeg) (⟨hn19, fa20, fa21⟩) (ho.2.2.2.2.2.1 hc3 hc6)) (cwV 2 hA (cd_gV aw_229 aw_230 aw_231 aw_5 aw_232) rfl rfl rfl ⟨rfl, by decide, by decide, by decide +kernel⟩ ⟨Nat.le_of_ble_eq_true rfl, Nat.le_of_ble_eq_true rfl⟩) ⟨cd_blind, cd_recv hK hP (k := qf) (by omega) fa20 rfl, fun U hU hW => ⟨rfl, cd_pre hK hP hZ hS U hU hW⟩⟩ rfl rfl hl.1 rfl (lv_room (Nat.le_of_ble_eq_true rfl)) d_Fw_writeHeader_47 ⟨Nat.zero_le _, Nat.zero_le _⟩) hS (fun _ _ h => h) (fun _ h => h) (fun w3 tE H locs ht hvm hr23 hP hz1 hk1 hS => ?_)
          have hP := cd_Pf ht hP
          obtain ⟨at25, e3⟩ := hr23
          have fa26 := (e3 q (by omega)).trans fa2
          have at27 := cd_MemAt_keep hL2 (fun k h1 h2 => e3 k (by omega))
          refine lv_iinc (k := 2) (v := (i + (1 : Int32))) (lv' := [(1, .int (i + (1 : Int32))), (2, .int (f_Fw_entries um)), (0, .ref (ad q))]) hx hb d_Fw_writeHeader_50 hl rfl (cd_inc _ _ _ (by decide)) (by decide) rfl (fun ls hl => ?_)
          refine lv_goto (tgt := 2) hx hb d_Fw_writeHeader_53 (by decide) ?_
          exact ih (i + (1 : Int32)) (f_Row_appendNumber nf uf' (f_Fw_entries um) (cd_hw i.toNatClampNeg)) w3 (fun k hk => ((e3 k (by omega)).trans (efr k (by omega)))) H locs ls (lv_sub hl [2, 0] rfl) (show (f_Fw_writeHeader nf uf um) = f_Fw_writeHeader_L2 nf uf um gn (i + (1 : Int32)) (f_Row_appendNumber nf uf' (f_Fw_entries um) (cd_hw i.toNatClampNeg)) by rw [he, f_Fw_writeHeader_L2, if_neg hc3, if_pos hc6]) (⟨hn1, fa26⟩) at25 at27 hP hS (ho.2.2.2.2.2.2 hc3 hc6)
  have hS : va_S A s.heap s.heap [] := va_S.rf
  have hl := lv_entry ([.ref (ad q)]) (n := 3) (Nat.le_of_ble_eq_true rfl)
  rw [lg_entry_eq]
  generalize (lg_sl ([.ref (ad q)]) ++ List.replicate (3 - (lg_sl ([.ref (ad q)])).length) Slot.unset).toArray = ls at hl ⊢
  have hl : lv_has ls 3 [(0, .ref (ad q))] := hl
  have ho : (o_Fw_writeHeader_L2 nf uf um 30 (0 : Int32) uf) := ho
  obtain ⟨hn28, fa29⟩ := hR0
  refine lv_iconst (v := (0 : Int32)) hx hb d_Fw_writeHeader_0 (by decide) ?_
  refine lv_istore_n (lv' := [(1, .int (0 : Int32)), (0, .ref (ad q))]) hx hb d_Fw_writeHeader_1 rfl hl (by decide) rfl (fun ls hl => ?_)
  exact L2 30 (0 : Int32) uf w0 (fun _ _ => rfl) s.heap [] ls (lv_sub hl [1, 0] rfl) (show (f_Fw_writeHeader nf uf um) = f_Fw_writeHeader_L2 nf uf um 30 (0 : Int32) uf by rw [f_Fw_writeHeader]) (⟨hn28, fa29⟩) hR1 hR2 hP hS (ho)
def f_Fw_writeEntries_L34 (nf : Nat) (uf : cd_Row) (um : cd_Mem) (ut : cd_Tt) : Nat → Int32 → Int32 → cd_Row → cd_Row
  | 0, _, _, _ => default
  | gn + 1, z, i, uf' => (if (f_Mem_count um) ≤ i then uf' else (if (f_Mem_regionAt um i) = none then (f_Fw_writeEntries_L34 nf uf um ut gn z (i + (1 : Int32)) uf') else (f_Fw_writeEntries_L34 nf uf um ut gn (z + (f_Reg_usedBytes (um.2.2 ((f_Mem_regionAt um i).getD 0)))) (i + (1 : Int32)) (f_Fw_writeRegionEntry (um.2.2 ((f_Mem_regionAt um i).getD 0)) nf uf' z (f_Reg_usedBytes (um.2.2 ((f_Mem_regionAt um i).getD 0)))))))
def f_Fw_writeEntries (nf : Nat) (uf : cd_Row) (um : cd_Mem) (ut : cd_Tt) : cd_Row := (f_Fw_writeEntries_L34 nf uf um ut 7 (((52 : Int32) + ((f_Fw_entries um) * (32 : Int32))) + ((f_Tt_count ut) * (56 : Int32))) (0 : Int32) (f_Fw_writeNotesEntry nf uf ((52 : Int32) + ((f_Fw_entries um) * (32 : Int32))) ((f_Tt_count ut) * (56 : Int32))))
def o_Fw_writeEntries_L34 (nf : Nat) (uf : cd_Row) (um : cd_Mem) (ut : cd_Tt) : Nat → Int32 → Int32 → cd_Row → Prop
  | 0, _, _, _ => False
  | gn + 1, z, i, uf' => (¬ (f_Mem_count um) ≤ i → o_Mem_regionAt um i) ∧ (¬ (f_Mem_count um) ≤ i → (f_Mem_regionAt um i) = none → o_Fw_writeEntries_L34 nf uf um ut gn z (i + (1 : Int32)) uf') ∧ (¬ (f_Mem_count um) ≤ i → ¬ (f_Mem_regionAt um i) = none → o_Reg_usedBytes (um.2.2 ((f_Mem_regionAt um i).getD 0))) ∧ (¬ (f_Mem_count um) ≤ i → ¬ (f_Mem_regionAt um i) = none → o_Fw_writeRegionEntry (um.2.2 ((f_Mem_regionAt um i).getD 0)) nf uf' z (f_Reg_usedBytes (um.2.2 ((f_Mem_regionAt um i).getD 0)))) ∧ (¬ (f_Mem_count um) ≤ i → ¬ (f_Mem_regionAt um i) = none → o_Fw_writeEntries_L34 nf uf um ut gn (z + (f_Reg_usedBytes (um.2.2 ((f_Mem_regionAt um i).getD 0)))) (i + (1 : Int32)) (f_Fw_writeRegionEntry (um.2.2 ((f_Mem_regionAt um i).getD 0)) nf uf' z (f_Reg_usedBytes (um.2.2 ((f_Mem_regionAt um i).getD 0)))))
def o_Fw_writeEntries (nf : Nat) (uf : cd_Row) (um : cd_Mem) (ut : cd_Tt) : Prop := (o_Fw_writeNotesEntry nf uf ((52 : Int32) + ((f_Fw_entries um) * (32 : Int32))) ((f_Tt_count ut) * (56 : Int32))) ∧ (o_Fw_writeEntries_L34 nf uf um ut 7 (((52 : Int32) + ((f_Fw_entries um) * (32 : Int32))) + ((f_Tt_count ut) * (56 : Int32))) (0 : Int32) (f_Fw_writeNotesEntry nf uf ((52 : Int32) + ((f_Fw_entries um) * (32 : Int32))) ((f_Tt_count ut) * (56 : Int32))))
set_option maxHeartbeats 4000000 in
set_option maxRecDepth 100000 in
theorem c_Fw_writeEntries (l : Launch) (D : va_G) (tt : Nat → ClassId) (ad : Nat → Nat) (N : Nat) (A : Nat → Prop) (zs : Nat → Nat) (w0 : Nat → va_E) (q qf qm qt : Nat) (nf : Nat) (uf : cd_Row) (um : cd_Mem) (ut : cd_Tt) (hR0 : cd_FwAt N tt ad w0 q qf qm qt) (hR1 : cd_RowAt N tt ad w0 qf nf uf) (hR2 : cd_MemAt N tt ad w0 qm um) (hR3 : cd_TtAt N tt ad w0 qt ut) (hap0 : qf + 2 ≤ qm ∨ qm + 14 ≤ qf) (hap1 : qf + 2 ≤ qt ∨ qt + 3 ≤ qf) (hap2 : qf + 2 ≤ q ∨ q + 1 ≤ qf) (ho : o_Fw_writeEntries nf uf um ut) : Met l y_Fw_writeEntries w_Fw_writeEntries ({ frames := 4, cells := 0, slots := 0, locals := 89 }) (va_Pc [.ref (ad q)] (cd_U D tt ad N A zs w0)) (va_Qv (fun w' => cd_RowAt N tt ad w' qf nf (f_Fw_writeEntries nf uf um ut) ∧ (∀ k : Nat, (k < qf ∨ qf + 2 ≤ k) → w' k = w0 k)) (fun w' t => cd_P D ad N A w' t.heap) A) 0 0 A := by
  refine Met.ofW (cc := b_Fw_writeEntries) (maxL := 6) (ret := none) (by decide) rfl ?_
  intro p e s m args below meth c s₁ B hml hv
  obtain ⟨rfl, hP, hK, hZ⟩ := hv
  have hx := B.exec
  have hb := B.bytes
  have hr := B.returns
  have hA : ∀ w ∈ cd_AW, w.before _ s = true := fun w h => atoms_spec (ws := w_Fw_writeEntries) B.pre w (List.mem_cons_of_mem _ h)
  have hown : s.vm.findClass R_Fw = some m.cls := findClass_of_methodNamed B.named
  have hlocks := B.notSynchronized
  have L34 : ∀ (gn : Nat) (z : Int32) (i : Int32) (uf' : cd_Row) (w : Nat → va_E) (efr : ∀ k : Nat, (k < qf ∨ qf + 2 ≤ k) → w k = w0 k) (H : Heap) (locs : List Loc) (ls : Array Slot), lv_has ls 6 [(0, .ref (ad q)), (1, .int z), (3, .int i)] → (f_Fw_writeEntries nf uf um ut) = f_Fw_writeEntries_L34 nf uf um ut gn z i uf' → cd_FwAt N tt ad w q qf qm qt → cd_RowAt N tt ad w qf nf uf' → cd_MemAt N tt ad w qm um → cd_TtAt N tt ad w qt ut → cd_P D ad N A w H → va_S A s.heap H locs → o_Fw_writeEntries_L34 nf uf um ut gn z i uf' → W p l e (headSpec w_Fw_writeEntries ({ frames := 4, cells := 0, slots := 0, locals := 89 })).room s m [.ref (ad q)].toArray below meth c H locs 0 0 (MQ below (va_Qv (fun w' => cd_RowAt N tt ad w' qf nf (f_Fw_writeEntries nf uf um ut) ∧ (∀ k : Nat, (k < qf ∨ qf + 2 ≤ k) → w' k = w0 k)) (fun w' t => cd_P D ad N A w' t.heap) A) [.ref (ad q)].toArray s 0 0 A) (F0 m 34 ls []) := by
    intro gn
    induction gn with
    | zero => intro z i uf' w efr H locs ls hl he hL0 hL1 hL2 hL3 hP hS ho; exact ho.elim
    | succ gn ih =>
      intro z i uf' w efr H locs ls hl he hL0 hL1 hL2 hL3 hP hS ho
      have ho : (¬ (f_Mem_count um) ≤ i → o_Mem_regionAt um i) ∧ (¬ (f_Mem_count um) ≤ i → (f_Mem_regionAt um i) = none → o_Fw_writeEntries_L34 nf uf um ut gn z (i + (1 : Int32)) uf') ∧ (¬ (f_Mem_count um) ≤ i → ¬ (f_Mem_regionAt um i) = none → o_Reg_usedBytes (um.2.2 ((f_Mem_regionAt um i).getD 0))) ∧ (¬ (f_Mem_count um) ≤ i → ¬ (f_Mem_regionAt um i) = none → o_Fw_writeRegionEntry (um.2.2 ((f_Mem_regionAt um i).getD 0)) nf uf' z (f_Reg_usedBytes (um.2.2 ((f_Mem_regionAt um i).getD 0)))) ∧ (¬ (f_Mem_count um) ≤ i → ¬ (f_Mem_regionAt um i) = none → o_Fw_writeEntries_L34 nf uf um ut gn (z + (f_Reg_usedBytes (um.2.2 ((f_Mem_regionAt um i).getD 0)))) (i + (1 : Int32)) (f_Fw_writeRegionEntry (um.2.2 ((f_Mem_regionAt um i).getD 0)) nf uf' z (f_Reg_usedBytes (um.2.2 ((f_Mem_regionAt um i).getD 0))))) := ho
      obtain ⟨hn1, fa2⟩ := hL0
      refine lv_iload_n hx hb d_Fw_writeEntries_34 rfl (lv_at hl 2 rfl) ?_
      refine lv_aload_n hx hb d_Fw_writeEntries_35 rfl (lv_at hl 0 rfl) ?_
      refine g_get (ci := 4) (C := R_Fw) (T := F_Fw) (Nf := 3) (v := .ref (ad qm)) hx hb hA in_Fw hown hK hP (k := q) (by omega) fa2 rfl 1 (by decide) (hA _ aw_79) (fun _ h9 => h9) rfl d_Fw_writeEntries_36 ?_
      obtain ⟨hn3, fa4, ⟨rf8, fa5, fa6⟩, fa7⟩ := hL2
      refine va_calli (va_runV (As := []) (rest := [.int i]) ⟨hx, hb, hml, hown, hA⟩ (c_Mem_count l D tt ad N A zs w qm um (⟨hn3, fa4, ⟨rf8, fa5, fa6⟩, fa7⟩)) (cwV 0 hA (cd_gV aw_225 aw_226 aw_227 aw_2 aw_228) rfl rfl rfl ⟨rfl, by decide, by decide, by decide +kernel⟩ ⟨Nat.le_of_ble_eq_true rfl, Nat.le_of_ble_eq_true rfl⟩) ⟨cd_blind, cd_recv hK hP (k := qm) (by omega) fa4 rfl, fun U hU hW => ⟨rfl, cd_pre hK hP hZ hS U hU hW⟩⟩ rfl rfl hl.1 rfl (lv_room (Nat.le_of_ble_eq_true rfl)) d_Fw_writeEntries_39 ⟨Nat.zero_le _, Nat.zero_le _⟩) hS (fun _ _ h => h) (fun _ h => h) (fun r9 w1 tE H locs ht hvm hr10 hP hz1 hk1 hS => ?_)
      have hP := cd_Pf ht hP
      obtain ⟨rfl, rfl⟩ := hr10
      refine lv_icmp_ge (tgt := 87) hx hb d_Fw_writeEntries_42 (by decide) (fun hc12 => ?_) (fun hc12 => ?_)
      · have hf13 : (f_Fw_writeEntries nf uf um ut) = uf' := by rw [he, f_Fw_writeEntries_L34, if_pos hc12]
        exact W.vret hx hb hr (fun tE ht _ => ⟨⟨w, rfl, ⟨(by rw [hf13]; exact hL1), (fun k hk => (efr k (by omega)))⟩, cd_Pt ht hP⟩, hS.F ht⟩) hS.2.2 d_Fw_writeEntries_87
      · refine lv_aload_n hx hb d_Fw_writeEntries_45 rfl (lv_at hl 0 rfl) ?_
        refine g_get (ci := 4) (C := R_Fw) (T := F_Fw) (Nf := 3) (v := .ref (ad qm)) hx hb hA in_Fw hown hK hP (k := q) (by omega) fa2 rfl 1 (by decide) (hA _ aw_79) (fun _ h9 => h9) rfl d_Fw_writeEntries_46 ?_
        refine lv_iload_n hx hb d_Fw_writeEntries_49 rfl (lv_at hl 2 rfl) ?_
        refine va_callq (va_runV (As := [.int i]) (rest := []) ⟨hx, hb, hml, hown, hA⟩ (c_Mem_regionAt l D tt ad N A zs w qm um i (⟨hn3, fa4, ⟨rf8, fa5, fa6⟩, fa7⟩) (ho.1 hc12)) (cwV 1 hA (cd_gV aw_250 aw_251 aw_252 aw_2 aw_253) rfl rfl rfl ⟨rfl, by decide, by decide, by decide +kernel⟩ ⟨Nat.le_of_ble_eq_true rfl, Nat.le_of_ble_eq_true rfl⟩) ⟨cd_blind, cd_recv hK hP (k := qm) (by omega) fa4 rfl, fun U hU hW => ⟨rfl, cd_pre hK hP hZ hS U hU hW⟩⟩ rfl rfl hl.1 rfl (lv_room (Nat.le_of_ble_eq_true rfl)) d_Fw_writeEntries_50 ⟨Nat.zero_le _, Nat.zero_le _⟩) hS (fun _ _ h => h) (fun _ h => h) (fun r14 w2 tE H locs ht hvm hr15 hP hz1 hk1 hS => ?_)
        have hP := cd_Pf ht hP
        obtain ⟨rfl, rfl, hq16⟩ := hr15
        by_cases hc17 : (f_Mem_regionAt um i) = none
        · refine g_optN hc17 ?_
          refine lv_astoreN (lv' := [(4, .null), (0, .ref (ad q)), (1, .int z), (3, .int i)]) hx hb d_Fw_writeEntries_53 hl (by decide) rfl (fun ls hl => ?_)
          refine lv_aloadN hx hb d_Fw_writeEntries_55 (lv_at hl 0 rfl) ?_
          refine lv_ifnullN (tgt := 81) hx hb d_Fw_writeEntries_57 (by decide) ?_
          refine lv_iinc (k := 3) (v := (i + (1 : Int32))) (lv' := [(3, .int (i + (1 : Int32))), (4, .null), (0, .ref (ad q)), (1, .int z)]) hx hb d_Fw_writeEntries_81 hl rfl (cd_inc _ _ _ (by decide)) (by decide) rfl (fun ls hl => ?_)
          refine lv_goto (tgt := 34) hx hb d_Fw_writeEntries_84 (by decide) ?_
          exact ih z (i + (1 : Int32)) uf' w (fun k hk => (efr k (by omega))) H locs ls (lv_sub hl [2, 3, 0] rfl) (show (f_Fw_writeEntries nf uf um ut) = f_Fw_writeEntries_L34 nf uf um ut gn z (i + (1 : Int32)) uf' by rw [he, f_Fw_writeEntries_L34, if_neg hc12, if_pos hc17]) (⟨hn1, fa2⟩) hL1 (⟨hn3, fa4, ⟨rf8, fa5, fa6⟩, fa7⟩) hL3 hP hS (ho.2.1 hc12 hc17)
        · refine g_optS hc17 ?_
          have hi18 := hq16 hc17
          refine lv_astore (lv' := [(4, .ref (ad ((qm + 2) + 2 * ((f_Mem_regionAt um i).getD 0)))), (0, .ref (ad q)), (1, .int z), (3, .int i)]) hx hb d_Fw_writeEntries_53 hl (by decide) rfl (fun ls hl => ?_)
          refine lv_aload hx hb d_Fw_writeEntries_55 (lv_at hl 0 rfl) ?_
          refine lv_ifnull hx hb d_Fw_writeEntries_57 ?_
          refine lv_aload hx hb d_Fw_writeEntries_60 (lv_at hl 0 rfl) ?_
          obtain ⟨hn19, fa20, fa21⟩ := (fa7 ((f_Mem_regionAt um i).getD 0) hi18)
          refine va_calli (va_runV (As := []) (rest := []) ⟨hx, hb, hml, hown, hA⟩ (c_Reg_usedBytes l D tt ad N A zs w ((qm + 2) + 2 * ((f_Mem_regionAt um i).getD 0)) (um.2.2 ((f_Mem_regionAt um i).getD 0)) (⟨hn19, fa20, fa21⟩) (ho.2.2.1 hc12 hc17)) (cwV 0 hA (cd_gV aw_254 aw_255 aw_256 aw_3 aw_257) rfl rfl rfl ⟨rfl, by decide, by decide, by decide +kernel⟩ ⟨Nat.le_of_ble_eq_true rfl, Nat.le_of_ble_eq_true rfl⟩) ⟨cd_blind, cd_recv hK hP (k := ((qm + 2) + 2 * ((f_Mem_regionAt um i).getD 0))) (by omega) fa20 rfl, fun U hU hW => ⟨rfl, cd_pre hK hP hZ hS U hU hW⟩⟩ rfl rfl hl.1 rfl (lv_room (Nat.le_of_ble_eq_true rfl)) d_Fw_writeEntries_62 ⟨Nat.zero_le _, Nat.zero_le _⟩) hS (fun _ _ h => h) (fun _ h => h) (fun r22 w3 tE H locs ht hvm hr23 hP hz1 hk1 hS => ?_)
          have hP := cd_Pf ht hP
          obtain ⟨rfl, rfl⟩ := hr23
          refine lv_istore (lv' := [(5, .int (f_Reg_usedBytes (um.2.2 ((f_Mem_regionAt um i).getD 0)))), (4, .ref (ad ((qm + 2) + 2 * ((f_Mem_regionAt um i).getD 0)))), (0, .ref (ad q)), (1, .int z), (3, .int i)]) hx hb d_Fw_writeEntries_65 hl (by decide) rfl (fun ls hl => ?_)
          refine lv_aload_n hx hb d_Fw_writeEntries_67 rfl (lv_at hl 2 rfl) ?_
          refine lv_iload_n hx hb d_Fw_writeEntries_68 rfl (lv_at hl 3 rfl) ?_
          refine lv_aload hx hb d_Fw_writeEntries_69 (lv_at hl 1 rfl) ?_
          refine lv_iload hx hb d_Fw_writeEntries_71 (lv_at hl 0 rfl) ?_
          refine va_callv (va_runV (As := [.int z, .ref (ad ((qm + 2) + 2 * ((f_Mem_regionAt um i).getD 0))), .int (f_Reg_usedBytes (um.2.2 ((f_Mem_regionAt um i).getD 0)))]) (rest := []) ⟨hx, hb, hml, hown, hA⟩ (c_Fw_writeRegionEntry l D tt ad N A zs w q qf qm qt ((qm + 2) + 2 * ((f_Mem_regionAt um i).getD 0)) (um.2.2 ((f_Mem_regionAt um i).getD 0)) nf uf' z (f_Reg_usedBytes (um.2.2 ((f_Mem_regionAt um i).getD 0))) (⟨hn1, fa2⟩) (⟨hn19, fa20, fa21⟩) hL1 (by omega) (by omega) (ho.2.2.2.1 hc12 hc17)) (cwV 3 hA (cd_gV aw_262 aw_263 aw_763 aw_6 aw_264) rfl rfl rfl ⟨rfl, by decide, by decide, by decide +kernel⟩ ⟨Nat.le_of_ble_eq_true rfl, Nat.le_of_ble_eq_true rfl⟩) ⟨cd_blind, cd_recv hK hP (k := q) (by omega) fa2 rfl, fun U hU hW => ⟨rfl, cd_pre hK hP hZ hS U hU hW⟩⟩ rfl rfl hl.1 rfl (lv_room (Nat.le_of_ble_eq_true rfl)) d_Fw_writeEntries_73 ⟨Nat.zero_le _, Nat.zero_le _⟩) hS (fun _ _ h => h) (fun _ h => h) (fun w4 tE H locs ht hvm hr26 hP hz1 hk1 hS => ?_)
          have hP := cd_Pf ht hP
          obtain ⟨at28, e4⟩ := hr26
          have fa29 := (e4 q (by omega)).trans fa2
          have fa30 := (e4 qm (by omega)).trans fa4
          have fa31 := (e4 (qm + 1) (by omega)).trans fa5
          have fa32 := cd_pool_keep fa7 (fun k h1 h2 => e4 k (by omega))
          have at33 := cd_TtAt_keep hL3 (fun k h1 h2 => e4 k (by omega))
          refine lv_iload_n hx hb d_Fw_writeEntries_76 rfl (lv_at hl 3 rfl) ?_
          refine lv_iload hx hb d_Fw_writeEntries_77 (lv_at hl 0 rfl) ?_
          refine lv_iadd hx hb d_Fw_writeEntries_79 ?_
          refine lv_istore_n (lv' := [(1, .int (z + (f_Reg_usedBytes (um.2.2 ((f_Mem_regionAt um i).getD 0))))), (5, .int (f_Reg_usedBytes (um.2.2 ((f_Mem_regionAt um i).getD 0)))), (4, .ref (ad ((qm + 2) + 2 * ((f_Mem_regionAt um i).getD 0)))), (0, .ref (ad q)), (3, .int i)]) hx hb d_Fw_writeEntries_80 rfl hl (by decide) rfl (fun ls hl => ?_)
          refine lv_iinc (k := 4) (v := (i + (1 : Int32))) (lv' := [(3, .int (i + (1 : Int32))), (1, .int (z + (f_Reg_usedBytes (um.2.2 ((f_Mem_regionAt um i).getD 0))))), (5, .int (f_Reg_usedBytes (um.2.2 ((f_Mem_regionAt um i).getD 0)))), (4, .ref (ad ((qm + 2) + 2 * ((f_Mem_regionAt um i).getD 0)))), (0, .ref (ad q))]) hx hb d_Fw_writeEntries_81 hl rfl (cd_inc _ _ _ (by decide)) (by decide) rfl (fun ls hl => ?_)
          refine lv_goto (tgt := 34) hx hb d_Fw_writeEntries_84 (by decide) ?_
          exact ih (z + (f_Reg_usedBytes (um.2.2 ((f_Mem_regionAt um i).getD 0)))) (i + (1 : Int32)) (f_Fw_writeRegionEntry (um.2.2 ((f_Mem_regionAt um i).getD 0)) nf uf' z (f_Reg_usedBytes (um.2.2 ((f_Mem_regionAt um i).getD 0)))) w4 (fun k hk => ((e4 k (by omega)).trans (efr k (by omega)))) H locs ls (lv_sub hl [4, 1, 0] rfl) (show (f_Fw_writeEntries nf uf um ut) = f_Fw_writeEntries_L34 nf uf um ut gn (z + (f_Reg_usedBytes (um.2.2 ((f_Mem_regionAt um i).getD 0)))) (i + (1 : Int32)) (f_Fw_writeRegionEntry (um.2.2 ((f_Mem_regionAt um i).getD 0)) nf uf' z (f_Reg_usedBytes (um.2.2 ((f_Mem_regionAt um i).getD 0)))) by rw [he, f_Fw_writeEntries_L34, if_neg hc12, if_neg hc17]) (⟨hn1, fa29⟩) at28 (⟨hn3, fa30, ⟨rf8, fa31, fa6⟩, fa32⟩) at33 hP hS (ho.2.2.2.2 hc12 hc17)
  have hS : va_S A s.heap s.heap [] := va_S.rf
  have hl := lv_entry ([.ref (ad q)]) (n := 6) (Nat.le_of_ble_eq_true rfl)
  rw [lg_entry_eq]
  generalize (lg_sl ([.ref (ad q)]) ++ List.replicate (6 - (lg_sl ([.ref (ad q)])).length) Slot.unset).toArray = ls at hl ⊢
  have hl : lv_has ls 6 [(0, .ref (ad q))] := hl
  have ho : (o_Fw_writeNotesEntry nf uf ((52 : Int32) + ((f_Fw_entries um) * (32 : Int32))) ((f_Tt_count ut) * (56 : Int32))) ∧ (o_Fw_writeEntries_L34 nf uf um ut 7 (((52 : Int32) + ((f_Fw_entries um) * (32 : Int32))) + ((f_Tt_count ut) * (56 : Int32))) (0 : Int32) (f_Fw_writeNotesEntry nf uf ((52 : Int32) + ((f_Fw_entries um) * (32 : Int32))) ((f_Tt_count ut) * (56 : Int32)))) := ho
  obtain ⟨hn34, fa35⟩ := hR0
  refine lv_bipush (v := (52 : Int32)) hx hb d_Fw_writeEntries_0 (by decide) ?_
  refine lv_aload_n hx hb d_Fw_writeEntries_2 rfl (lv_at hl 0 rfl) ?_
  refine va_calli (va_runV (As := []) (rest := [.int (52 : Int32)]) ⟨hx, hb, hml, hown, hA⟩ (c_Fw_entries l D tt ad N A zs w0 q qf qm qt um (⟨hn34, fa35⟩) hR2) (cwV 0 hA (cd_gV aw_222 aw_223 aw_759 aw_6 aw_224) rfl rfl rfl ⟨rfl, by decide, by decide, by decide +kernel⟩ ⟨Nat.le_of_ble_eq_true rfl, Nat.le_of_ble_eq_true rfl⟩) ⟨cd_blind, cd_recv hK hP (k := q) (by omega) fa35 rfl, fun U hU hW => ⟨rfl, cd_pre hK hP hZ hS U hU hW⟩⟩ rfl rfl hl.1 rfl (lv_room (Nat.le_of_ble_eq_true rfl)) d_Fw_writeEntries_3 ⟨Nat.zero_le _, Nat.zero_le _⟩) hS (fun _ _ h => h) (fun _ h => h) (fun r36 w5 tE H locs ht hvm hr37 hP hz1 hk1 hS => ?_)
  have hP := cd_Pf ht hP
  obtain ⟨rfl, rfl⟩ := hr37
  refine lv_bipush (v := (32 : Int32)) hx hb d_Fw_writeEntries_6 (by decide) ?_
  refine lv_imul hx hb d_Fw_writeEntries_8 ?_
  refine lv_iadd hx hb d_Fw_writeEntries_9 ?_
  refine lv_istore_n (lv' := [(1, .int ((52 : Int32) + ((f_Fw_entries um) * (32 : Int32)))), (0, .ref (ad q))]) hx hb d_Fw_writeEntries_10 rfl hl (by decide) rfl (fun ls hl => ?_)
  refine lv_aload_n hx hb d_Fw_writeEntries_11 rfl (lv_at hl 1 rfl) ?_
  refine g_get (ci := 4) (C := R_Fw) (T := F_Fw) (Nf := 3) (v := .ref (ad qt)) hx hb hA in_Fw hown hK hP (k := q) (by omega) fa35 rfl 2 (by decide) (hA _ aw_80) (fun _ h9 => h9) rfl d_Fw_writeEntries_12 ?_
  obtain ⟨hn39, fa40, fa41, fa42⟩ := hR3
  refine va_calli (va_runV (As := []) (rest := []) ⟨hx, hb, hml, hown, hA⟩ (c_Tt_count l D tt ad N A zs w0 qt ut (⟨hn39, fa40, fa41, fa42⟩)) (cwV 0 hA (cd_gV aw_240 aw_241 aw_242 aw_4 aw_243) rfl rfl rfl ⟨rfl, by decide, by decide, by decide +kernel⟩ ⟨Nat.le_of_ble_eq_true rfl, Nat.le_of_ble_eq_true rfl⟩) ⟨cd_blind, cd_recv hK hP (k := qt) (by omega) fa40 rfl, fun U hU hW => ⟨rfl, cd_pre hK hP hZ hS U hU hW⟩⟩ rfl rfl hl.1 rfl (lv_room (Nat.le_of_ble_eq_true rfl)) d_Fw_writeEntries_15 ⟨Nat.zero_le _, Nat.zero_le _⟩) hS (fun _ _ h => h) (fun _ h => h) (fun r43 w6 tE H locs ht hvm hr44 hP hz1 hk1 hS => ?_)
  have hP := cd_Pf ht hP
  obtain ⟨rfl, rfl⟩ := hr44
  refine lv_bipush (v := (56 : Int32)) hx hb d_Fw_writeEntries_18 (by decide) ?_
  refine lv_imul hx hb d_Fw_writeEntries_20 ?_
  refine lv_istore_n (lv' := [(2, .int ((f_Tt_count ut) * (56 : Int32))), (1, .int ((52 : Int32) + ((f_Fw_entries um) * (32 : Int32)))), (0, .ref (ad q))]) hx hb d_Fw_writeEntries_21 rfl hl (by decide) rfl (fun ls hl => ?_)
  refine lv_aload_n hx hb d_Fw_writeEntries_22 rfl (lv_at hl 2 rfl) ?_
  refine lv_iload_n hx hb d_Fw_writeEntries_23 rfl (lv_at hl 1 rfl) ?_
  refine lv_iload_n hx hb d_Fw_writeEntries_24 rfl (lv_at hl 0 rfl) ?_
  refine va_callv (va_runV (As := [.int ((52 : Int32) + ((f_Fw_entries um) * (32 : Int32))), .int ((f_Tt_count ut) * (56 : Int32))]) (rest := []) ⟨hx, hb, hml, hown, hA⟩ (c_Fw_writeNotesEntry l D tt ad N A zs w0 q qf qm qt nf uf ((52 : Int32) + ((f_Fw_entries um) * (32 : Int32))) ((f_Tt_count ut) * (56 : Int32)) (⟨hn34, fa35⟩) hR1 (by omega) (ho.1)) (cwV 2 hA (cd_gV aw_244 aw_245 aw_761 aw_6 aw_246) rfl rfl rfl ⟨rfl, by decide, by decide, by decide +kernel⟩ ⟨Nat.le_of_ble_eq_true rfl, Nat.le_of_ble_eq_true rfl⟩) ⟨cd_blind, cd_recv hK hP (k := q) (by omega) fa35 rfl, fun U hU hW => ⟨rfl, cd_pre hK hP hZ hS U hU hW⟩⟩ rfl rfl hl.1 rfl (lv_room (Nat.le_of_ble_eq_true rfl)) d_Fw_writeEntries_25 ⟨Nat.zero_le _, Nat.zero_le _⟩) hS (fun _ _ h => h) (fun _ h => h) (fun w7 tE H locs ht hvm hr47 hP hz1 hk1 hS => ?_)
  have hP := cd_Pf ht hP
  obtain ⟨at49, e7⟩ := hr47
  have fa50 := (e7 q (by omega)).trans fa35
  have at51 := cd_MemAt_keep hR2 (fun k h1 h2 => e7 k (by omega))
  have fa52 := (e7 qt (by omega)).trans fa40
  have fa53 := (e7 (qt + 1) (by omega)).trans fa41
  have fa54 := (e7 (qt + 2) (by omega)).trans fa42
  refine lv_iload_n hx hb d_Fw_writeEntries_28 rfl (lv_at hl 1 rfl) ?_
  refine lv_iload_n hx hb d_Fw_writeEntries_29 rfl (lv_at hl 0 rfl) ?_
  refine lv_iadd hx hb d_Fw_writeEntries_30 ?_
  refine lv_istore_n (lv' := [(1, .int (((52 : Int32) + ((f_Fw_entries um) * (32 : Int32))) + ((f_Tt_count ut) * (56 : Int32)))), (2, .int ((f_Tt_count ut) * (56 : Int32))), (0, .ref (ad q))]) hx hb d_Fw_writeEntries_31 rfl hl (by decide) rfl (fun ls hl => ?_)
  refine lv_iconst (v := (0 : Int32)) hx hb d_Fw_writeEntries_32 (by decide) ?_
  refine lv_istore_n (lv' := [(3, .int (0 : Int32)), (1, .int (((52 : Int32) + ((f_Fw_entries um) * (32 : Int32))) + ((f_Tt_count ut) * (56 : Int32)))), (2, .int ((f_Tt_count ut) * (56 : Int32))), (0, .ref (ad q))]) hx hb d_Fw_writeEntries_33 rfl hl (by decide) rfl (fun ls hl => ?_)
  exact L34 7 (((52 : Int32) + ((f_Fw_entries um) * (32 : Int32))) + ((f_Tt_count ut) * (56 : Int32))) (0 : Int32) (f_Fw_writeNotesEntry nf uf ((52 : Int32) + ((f_Fw_entries um) * (32 : Int32))) ((f_Tt_count ut) * (56 : Int32))) w7 (fun k hk => (e7 k (by omega))) H locs ls (lv_sub hl [3, 1, 0] rfl) (show (f_Fw_writeEntries nf uf um ut) = f_Fw_writeEntries_L34 nf uf um ut 7 (((52 : Int32) + ((f_Fw_entries um) * (32 : Int32))) + ((f_Tt_count ut) * (56 : Int32))) (0 : Int32) (f_Fw_writeNotesEntry nf uf ((52 : Int32) + ((f_Fw_entries um) * (32 : Int32))) ((f_Tt_count ut) * (56 : Int32))) by rw [f_Fw_writeEntries]) (⟨hn34, fa50⟩) at49 at51 (⟨hn39, fa52, fa53, fa54⟩) hP hS (ho.2)
def f_Fw_writeNote_L59 (nf : Nat) (uf : cd_Row) (ut : cd_Tt) (k : Int32) : Nat → Int32 → cd_Row → cd_Row
  | 0, _, _ => default
  | gn + 1, i, uf' => (if (8 : Int32) ≤ i then uf' else (f_Fw_writeNote_L59 nf uf ut k gn (i + (1 : Int32)) (f_Fw_writeFour nf uf' (f_Tt_read ut k i))))
def f_Fw_writeNote_L18 (nf : Nat) (uf : cd_Row) (ut : cd_Tt) (k : Int32) : Nat → Int32 → cd_Row → cd_Row
  | 0, _, _ => default
  | gn + 1, i, uf' => (if (8 : Int32) ≤ i then (f_Fw_writeNote_L59 nf uf ut k 9 (0 : Int32) (f_Fw_writeFour nf uf' (f_Tt_id ut k))) else (f_Fw_writeNote_L18 nf uf ut k gn (i + (1 : Int32)) ((f_Row_append nf uf' (cd_nn i.toNatClampNeg)).2)))
def f_Fw_writeNote (nf : Nat) (uf : cd_Row) (ut : cd_Tt) (k : Int32) : cd_Row := (f_Fw_writeNote_L18 nf uf ut k 9 (0 : Int32) (f_Fw_writeFour nf (f_Fw_writeFour nf (f_Fw_writeFour nf uf (5 : Int32)) (36 : Int32)) (1 : Int32)))
def o_Fw_writeNote_L59 (nf : Nat) (uf : cd_Row) (ut : cd_Tt) (k : Int32) : Nat → Int32 → cd_Row → Prop
  | 0, _, _ => False
  | gn + 1, i, uf' => (¬ (8 : Int32) ≤ i → o_Tt_read ut k i) ∧ (¬ (8 : Int32) ≤ i → o_Fw_writeFour nf uf' (f_Tt_read ut k i)) ∧ (¬ (8 : Int32) ≤ i → o_Fw_writeNote_L59 nf uf ut k gn (i + (1 : Int32)) (f_Fw_writeFour nf uf' (f_Tt_read ut k i)))
def o_Fw_writeNote_L18 (nf : Nat) (uf : cd_Row) (ut : cd_Tt) (k : Int32) : Nat → Int32 → cd_Row → Prop
  | 0, _, _ => False
  | gn + 1, i, uf' => ((8 : Int32) ≤ i → o_Tt_id ut k) ∧ ((8 : Int32) ≤ i → o_Fw_writeFour nf uf' (f_Tt_id ut k)) ∧ ((8 : Int32) ≤ i → o_Fw_writeNote_L59 nf uf ut k 9 (0 : Int32) (f_Fw_writeFour nf uf' (f_Tt_id ut k))) ∧ (¬ (8 : Int32) ≤ i → vp_in i 8) ∧ (¬ (8 : Int32) ≤ i → o_Row_append nf uf' (cd_nn i.toNatClampNeg)) ∧ (¬ (8 : Int32) ≤ i → o_Fw_writeNote_L18 nf uf ut k gn (i + (1 : Int32)) ((f_Row_append nf uf' (cd_nn i.toNatClampNeg)).2))
def o_Fw_writeNote (nf : Nat) (uf : cd_Row) (ut : cd_Tt) (k : Int32) : Prop := (o_Fw_writeFour nf uf (5 : Int32)) ∧ (o_Fw_writeFour nf (f_Fw_writeFour nf uf (5 : Int32)) (36 : Int32)) ∧ (o_Fw_writeFour nf (f_Fw_writeFour nf (f_Fw_writeFour nf uf (5 : Int32)) (36 : Int32)) (1 : Int32)) ∧ (o_Fw_writeNote_L18 nf uf ut k 9 (0 : Int32) (f_Fw_writeFour nf (f_Fw_writeFour nf (f_Fw_writeFour nf uf (5 : Int32)) (36 : Int32)) (1 : Int32)))
set_option maxHeartbeats 4000000 in
set_option maxRecDepth 100000 in
theorem c_Fw_writeNote (l : Launch) (D : va_G) (tt : Nat → ClassId) (ad : Nat → Nat) (N : Nat) (A : Nat → Prop) (zs : Nat → Nat) (w0 : Nat → va_E) (q qf qm qt : Nat) (nf : Nat) (uf : cd_Row) (ut : cd_Tt) (k : Int32) (hR0 : cd_FwAt N tt ad w0 q qf qm qt) (hR1 : cd_RowAt N tt ad w0 qf nf uf) (hR2 : cd_TtAt N tt ad w0 qt ut) (hap0 : qf + 2 ≤ qt ∨ qt + 3 ≤ qf) (hap1 : qf + 2 ≤ q ∨ q + 1 ≤ qf) (ho : o_Fw_writeNote nf uf ut k) : Met l y_Fw_writeNote w_Fw_writeNote ({ frames := 3, cells := 0, slots := 0, locals := 66 }) (va_Pc [.ref (ad q), .int k] (cd_U D tt ad N A zs w0)) (va_Qv (fun w' => cd_RowAt N tt ad w' qf nf (f_Fw_writeNote nf uf ut k) ∧ (∀ k : Nat, (k < qf ∨ qf + 2 ≤ k) → w' k = w0 k)) (fun w' t => cd_P D ad N A w' t.heap) A) 0 0 A := by
  refine Met.ofW (cc := b_Fw_writeNote) (maxL := 3) (ret := none) (by decide) rfl ?_
  intro p e s m args below meth c s₁ B hml hv
  obtain ⟨rfl, hP, hK, hZ⟩ := hv
  have hx := B.exec
  have hb := B.bytes
  have hr := B.returns
  have hA : ∀ w ∈ cd_AW, w.before _ s = true := fun w h => atoms_spec (ws := w_Fw_writeNote) B.pre w (List.mem_cons_of_mem _ h)
  have hown : s.vm.findClass R_Fw = some m.cls := findClass_of_methodNamed B.named
  have hlocks := B.notSynchronized
  have L59 : ∀ (gn : Nat) (i : Int32) (uf' : cd_Row) (w : Nat → va_E) (efr : ∀ k : Nat, (k < qf ∨ qf + 2 ≤ k) → w k = w0 k) (H : Heap) (locs : List Loc) (ls : Array Slot), lv_has ls 3 [(0, .ref (ad q)), (1, .int k), (2, .int i)] → (f_Fw_writeNote nf uf ut k) = f_Fw_writeNote_L59 nf uf ut k gn i uf' → cd_FwAt N tt ad w q qf qm qt → cd_RowAt N tt ad w qf nf uf' → cd_TtAt N tt ad w qt ut → cd_P D ad N A w H → va_S A s.heap H locs → o_Fw_writeNote_L59 nf uf ut k gn i uf' → W p l e (headSpec w_Fw_writeNote ({ frames := 3, cells := 0, slots := 0, locals := 66 })).room s m [.ref (ad q), .int k].toArray below meth c H locs 0 0 (MQ below (va_Qv (fun w' => cd_RowAt N tt ad w' qf nf (f_Fw_writeNote nf uf ut k) ∧ (∀ k : Nat, (k < qf ∨ qf + 2 ≤ k) → w' k = w0 k)) (fun w' t => cd_P D ad N A w' t.heap) A) [.ref (ad q), .int k].toArray s 0 0 A) (F0 m 59 ls []) := by
    intro gn
    induction gn with
    | zero => intro i uf' w efr H locs ls hl he hL0 hL1 hL2 hP hS ho; exact ho.elim
    | succ gn ih =>
      intro i uf' w efr H locs ls hl he hL0 hL1 hL2 hP hS ho
      have ho : (¬ (8 : Int32) ≤ i → o_Tt_read ut k i) ∧ (¬ (8 : Int32) ≤ i → o_Fw_writeFour nf uf' (f_Tt_read ut k i)) ∧ (¬ (8 : Int32) ≤ i → o_Fw_writeNote_L59 nf uf ut k gn (i + (1 : Int32)) (f_Fw_writeFour nf uf' (f_Tt_read ut k i))) := ho
      obtain ⟨hn1, fa2⟩ := hL0
      refine lv_iload_n hx hb d_Fw_writeNote_59 rfl (lv_at hl 2 rfl) ?_
      refine lv_bipush (v := (8 : Int32)) hx hb d_Fw_writeNote_60 (by decide) ?_
      refine lv_icmp_ge (tgt := 84) hx hb d_Fw_writeNote_62 (by decide) (fun hc3 => ?_) (fun hc3 => ?_)
      · have hf4 : (f_Fw_writeNote nf uf ut k) = uf' := by rw [he, f_Fw_writeNote_L59, if_pos hc3]
        exact W.vret hx hb hr (fun tE ht _ => ⟨⟨w, rfl, ⟨(by rw [hf4]; exact hL1), (fun k hk => (efr k (by omega)))⟩, cd_Pt ht hP⟩, hS.F ht⟩) hS.2.2 d_Fw_writeNote_84
      · refine lv_aload_n hx hb d_Fw_writeNote_65 rfl (lv_at hl 0 rfl) ?_
        refine lv_aload_n hx hb d_Fw_writeNote_66 rfl (lv_at hl 0 rfl) ?_
        refine g_get (ci := 4) (C := R_Fw) (T := F_Fw) (Nf := 3) (v := .ref (ad qt)) hx hb hA in_Fw hown hK hP (k := q) (by omega) fa2 rfl 2 (by decide) (hA _ aw_80) (fun _ h9 => h9) rfl d_Fw_writeNote_67 ?_
        refine lv_iload_n hx hb d_Fw_writeNote_70 rfl (lv_at hl 1 rfl) ?_
        refine lv_iload_n hx hb d_Fw_writeNote_71 rfl (lv_at hl 2 rfl) ?_
        obtain ⟨hn5, fa6, fa7, fa8⟩ := hL2
        refine va_calli (va_runV (As := [.int k, .int i]) (rest := [.ref (ad q)]) ⟨hx, hb, hml, hown, hA⟩ (c_Tt_read l D tt ad N A zs w qt ut k i (⟨hn5, fa6, fa7, fa8⟩) (ho.1 hc3)) (cwV 2 hA (cd_gV aw_273 aw_274 aw_275 aw_4 aw_276) rfl rfl rfl ⟨rfl, by decide, by decide, by decide +kernel⟩ ⟨Nat.le_of_ble_eq_true rfl, Nat.le_of_ble_eq_true rfl⟩) ⟨cd_blind, cd_recv hK hP (k := qt) (by omega) fa6 rfl, fun U hU hW => ⟨rfl, cd_pre hK hP hZ hS U hU hW⟩⟩ rfl rfl hl.1 rfl (lv_room (Nat.le_of_ble_eq_true rfl)) d_Fw_writeNote_72 ⟨Nat.zero_le _, Nat.zero_le _⟩) hS (fun _ _ h => h) (fun _ h => h) (fun r9 w1 tE H locs ht hvm hr10 hP hz1 hk1 hS => ?_)
        have hP := cd_Pf ht hP
        obtain ⟨rfl, rfl⟩ := hr10
        refine va_callv (va_runV (As := [.int (f_Tt_read ut k i)]) (rest := []) ⟨hx, hb, hml, hown, hA⟩ (c_Fw_writeFour l D tt ad N A zs w q qf qm qt nf uf' (f_Tt_read ut k i) (⟨hn1, fa2⟩) hL1 (by omega) (ho.2.1 hc3)) (cwV 1 hA (cd_gV aw_247 aw_248 aw_762 aw_6 aw_249) rfl rfl rfl ⟨rfl, by decide, by decide, by decide +kernel⟩ ⟨Nat.le_of_ble_eq_true rfl, Nat.le_of_ble_eq_true rfl⟩) ⟨cd_blind, cd_recv hK hP (k := q) (by omega) fa2 rfl, fun U hU hW => ⟨rfl, cd_pre hK hP hZ hS U hU hW⟩⟩ rfl rfl hl.1 rfl (lv_room (Nat.le_of_ble_eq_true rfl)) d_Fw_writeNote_75 ⟨Nat.zero_le _, Nat.zero_le _⟩) hS (fun _ _ h => h) (fun _ h => h) (fun w2 tE H locs ht hvm hr13 hP hz1 hk1 hS => ?_)
        have hP := cd_Pf ht hP
        obtain ⟨at15, e2⟩ := hr13
        have fa16 := (e2 q (by omega)).trans fa2
        have fa17 := (e2 qt (by omega)).trans fa6
        have fa18 := (e2 (qt + 1) (by omega)).trans fa7
        have fa19 := (e2 (qt + 2) (by omega)).trans fa8
        refine lv_iinc (k := 2) (v := (i + (1 : Int32))) (lv' := [(2, .int (i + (1 : Int32))), (0, .ref (ad q)), (1, .int k)]) hx hb d_Fw_writeNote_78 hl rfl (cd_inc _ _ _ (by decide)) (by decide) rfl (fun ls hl => ?_)
        refine lv_goto (tgt := 59) hx hb d_Fw_writeNote_81 (by decide) ?_
        exact ih (i + (1 : Int32)) (f_Fw_writeFour nf uf' (f_Tt_read ut k i)) w2 (fun k hk => ((e2 k (by omega)).trans (efr k (by omega)))) H locs ls (lv_sub hl [1, 2, 0] rfl) (show (f_Fw_writeNote nf uf ut k) = f_Fw_writeNote_L59 nf uf ut k gn (i + (1 : Int32)) (f_Fw_writeFour nf uf' (f_Tt_read ut k i)) by rw [he, f_Fw_writeNote_L59, if_neg hc3]) (⟨hn1, fa16⟩) at15 (⟨hn5, fa17, fa18, fa19⟩) hP hS (ho.2.2 hc3)
  have L18 : ∀ (gn : Nat) (i : Int32) (uf' : cd_Row) (w : Nat → va_E) (efr : ∀ k : Nat, (k < qf ∨ qf + 2 ≤ k) → w k = w0 k) (H : Heap) (locs : List Loc) (ls : Array Slot), lv_has ls 3 [(0, .ref (ad q)), (1, .int k), (2, .int i)] → (f_Fw_writeNote nf uf ut k) = f_Fw_writeNote_L18 nf uf ut k gn i uf' → cd_FwAt N tt ad w q qf qm qt → cd_RowAt N tt ad w qf nf uf' → cd_TtAt N tt ad w qt ut → cd_P D ad N A w H → va_S A s.heap H locs → o_Fw_writeNote_L18 nf uf ut k gn i uf' → W p l e (headSpec w_Fw_writeNote ({ frames := 3, cells := 0, slots := 0, locals := 66 })).room s m [.ref (ad q), .int k].toArray below meth c H locs 0 0 (MQ below (va_Qv (fun w' => cd_RowAt N tt ad w' qf nf (f_Fw_writeNote nf uf ut k) ∧ (∀ k : Nat, (k < qf ∨ qf + 2 ≤ k) → w' k = w0 k)) (fun w' t => cd_P D ad N A w' t.heap) A) [.ref (ad q), .int k].toArray s 0 0 A) (F0 m 18 ls []) := by
    intro gn
    induction gn with
    | zero => intro i uf' w efr H locs ls hl he hL0 hL1 hL2 hP hS ho; exact ho.elim
    | succ gn ih =>
      intro i uf' w efr H locs ls hl he hL0 hL1 hL2 hP hS ho
      have ho : ((8 : Int32) ≤ i → o_Tt_id ut k) ∧ ((8 : Int32) ≤ i → o_Fw_writeFour nf uf' (f_Tt_id ut k)) ∧ ((8 : Int32) ≤ i → o_Fw_writeNote_L59 nf uf ut k 9 (0 : Int32) (f_Fw_writeFour nf uf' (f_Tt_id ut k))) ∧ (¬ (8 : Int32) ≤ i → vp_in i 8) ∧ (¬ (8 : Int32) ≤ i → o_Row_append nf uf' (cd_nn i.toNatClampNeg)) ∧ (¬ (8 : Int32) ≤ i → o_Fw_writeNote_L18 nf uf ut k gn (i + (1 : Int32)) ((f_Row_append nf uf' (cd_nn i.toNatClampNeg)).2)) := ho
      obtain ⟨hn20, fa21⟩ := hL0
      refine lv_iload_n hx hb d_Fw_writeNote_18 rfl (lv_at hl 2 rfl) ?_
      refine va_getsN hx hb hZ.2.2.2.2.1 hS hown (va_Nw.use rfl (nw_10 hZ.2.2.2.2.2.2)) (fun _ h9 => h9) d_Fw_writeNote_19 ?_
      refine va_tlen (v := (8 : Int32)) hx hb hZ.2.2.2.2.2.1 hS (by decide) d_Fw_writeNote_22 ?_
      refine lv_icmp_ge (tgt := 45) hx hb d_Fw_writeNote_23 (by decide) (fun hc22 => ?_) (fun hc22 => ?_)
      · refine lv_aload_n hx hb d_Fw_writeNote_45 rfl (lv_at hl 0 rfl) ?_
        refine lv_aload_n hx hb d_Fw_writeNote_46 rfl (lv_at hl 0 rfl) ?_
        refine g_get (ci := 4) (C := R_Fw) (T := F_Fw) (Nf := 3) (v := .ref (ad qt)) hx hb hA in_Fw hown hK hP (k := q) (by omega) fa21 rfl 2 (by decide) (hA _ aw_80) (fun _ h9 => h9) rfl d_Fw_writeNote_47 ?_
        refine lv_iload_n hx hb d_Fw_writeNote_50 rfl (lv_at hl 1 rfl) ?_
        obtain ⟨hn23, fa24, fa25, fa26⟩ := hL2
        refine va_calli (va_runV (As := [.int k]) (rest := [.ref (ad q)]) ⟨hx, hb, hml, hown, hA⟩ (c_Tt_id l D tt ad N A zs w qt ut k (⟨hn23, fa24, fa25, fa26⟩) (ho.1 hc22)) (cwV 1 hA (cd_gV aw_269 aw_270 aw_271 aw_4 aw_272) rfl rfl rfl ⟨rfl, by decide, by decide, by decide +kernel⟩ ⟨Nat.le_of_ble_eq_true rfl, Nat.le_of_ble_eq_true rfl⟩) ⟨cd_blind, cd_recv hK hP (k := qt) (by omega) fa24 rfl, fun U hU hW => ⟨rfl, cd_pre hK hP hZ hS U hU hW⟩⟩ rfl rfl hl.1 rfl (lv_room (Nat.le_of_ble_eq_true rfl)) d_Fw_writeNote_51 ⟨Nat.zero_le _, Nat.zero_le _⟩) hS (fun _ _ h => h) (fun _ h => h) (fun r27 w3 tE H locs ht hvm hr28 hP hz1 hk1 hS => ?_)
        have hP := cd_Pf ht hP
        obtain ⟨rfl, rfl⟩ := hr28
        refine va_callv (va_runV (As := [.int (f_Tt_id ut k)]) (rest := []) ⟨hx, hb, hml, hown, hA⟩ (c_Fw_writeFour l D tt ad N A zs w q qf qm qt nf uf' (f_Tt_id ut k) (⟨hn20, fa21⟩) hL1 (by omega) (ho.2.1 hc22)) (cwV 1 hA (cd_gV aw_247 aw_248 aw_762 aw_6 aw_249) rfl rfl rfl ⟨rfl, by decide, by decide, by decide +kernel⟩ ⟨Nat.le_of_ble_eq_true rfl, Nat.le_of_ble_eq_true rfl⟩) ⟨cd_blind, cd_recv hK hP (k := q) (by omega) fa21 rfl, fun U hU hW => ⟨rfl, cd_pre hK hP hZ hS U hU hW⟩⟩ rfl rfl hl.1 rfl (lv_room (Nat.le_of_ble_eq_true rfl)) d_Fw_writeNote_54 ⟨Nat.zero_le _, Nat.zero_le _⟩) hS (fun _ _ h => h) (fun _ h => h) (fun w4 tE H locs ht hvm hr31 hP hz1 hk1 hS => ?_)
        have hP := cd_Pf ht hP
        obtain ⟨at33, e4⟩ := hr31
        have fa34 := (e4 q (by omega)).trans fa21
        have fa35 := (e4 qt (by omega)).trans fa24
        have fa36 := (e4 (qt + 1) (by omega)).trans fa25
        have fa37 := (e4 (qt + 2) (by omega)).trans fa26
        refine lv_iconst (v := (0 : Int32)) hx hb d_Fw_writeNote_57 (by decide) ?_
        refine lv_istore_n (lv' := [(2, .int (0 : Int32)), (0, .ref (ad q)), (1, .int k)]) hx hb d_Fw_writeNote_58 rfl hl (by decide) rfl (fun ls hl => ?_)
        exact L59 9 (0 : Int32) (f_Fw_writeFour nf uf' (f_Tt_id ut k)) w4 (fun k hk => ((e4 k (by omega)).trans (efr k (by omega)))) H locs ls (lv_sub hl [1, 2, 0] rfl) (show (f_Fw_writeNote nf uf ut k) = f_Fw_writeNote_L59 nf uf ut k 9 (0 : Int32) (f_Fw_writeFour nf uf' (f_Tt_id ut k)) by rw [he, f_Fw_writeNote_L18, if_pos hc22]) (⟨hn20, fa34⟩) at33 (⟨hn23, fa35, fa36, fa37⟩) hP hS (ho.2.2.1 hc22)
      · refine lv_aload_n hx hb d_Fw_writeNote_26 rfl (lv_at hl 0 rfl) ?_
        refine g_get (ci := 4) (C := R_Fw) (T := F_Fw) (Nf := 3) (v := .ref (ad qf)) hx hb hA in_Fw hown hK hP (k := q) (by omega) fa21 rfl 0 (by decide) (hA _ aw_78) (fun _ h9 => h9) rfl d_Fw_writeNote_27 ?_
        refine va_getsN hx hb hZ.2.2.2.2.1 hS hown (va_Nw.use rfl (nw_10 hZ.2.2.2.2.2.2)) (fun _ h9 => h9) d_Fw_writeNote_30 ?_
        refine lv_iload_n hx hb d_Fw_writeNote_33 rfl (lv_at hl 2 rfl) ?_
        refine va_ti hx hb hZ.2.2.2.2.2.1 hS (ho.2.2.2.1 hc22) rfl d_Fw_writeNote_34 ?_
        obtain ⟨hn38, fa39, fa40⟩ := hL1
        refine va_calli (va_runV (As := [.int (cd_nn i.toNatClampNeg)]) (rest := []) ⟨hx, hb, hml, hown, hA⟩ (c_Row_append l D tt ad N A zs w qf nf uf' (cd_nn i.toNatClampNeg) (⟨hn38, fa39, fa40⟩) (ho.2.2.2.2.1 hc22)) (cwV 1 hA (cd_gV aw_268 aw_234 aw_235 aw_5 aw_236) rfl rfl rfl ⟨rfl, by decide, by decide, by decide +kernel⟩ ⟨Nat.le_of_ble_eq_true rfl, Nat.le_of_ble_eq_true rfl⟩) ⟨cd_blind, cd_recv hK hP (k := qf) (by omega) fa39 rfl, fun U hU hW => ⟨rfl, cd_pre hK hP hZ hS U hU hW⟩⟩ rfl rfl hl.1 rfl (lv_room (Nat.le_of_ble_eq_true rfl)) d_Fw_writeNote_35 ⟨Nat.zero_le _, Nat.zero_le _⟩) hS (fun _ _ h => h) (fun _ h => h) (fun r41 w5 tE H locs ht hvm hr42 hP hz1 hk1 hS => ?_)
        have hP := cd_Pf ht hP
        obtain ⟨rfl, hbo44, at45, e5⟩ := hr42
        have fa46 := (e5 q (by omega)).trans fa21
        have at47 := cd_TtAt_keep hL2 (fun k h1 h2 => e5 k (by omega))
        refine lv_pop hx hb d_Fw_writeNote_38 rfl ?_
        refine lv_iinc (k := 2) (v := (i + (1 : Int32))) (lv' := [(2, .int (i + (1 : Int32))), (0, .ref (ad q)), (1, .int k)]) hx hb d_Fw_writeNote_39 hl rfl (cd_inc _ _ _ (by decide)) (by decide) rfl (fun ls hl => ?_)
        refine lv_goto (tgt := 18) hx hb d_Fw_writeNote_42 (by decide) ?_
        exact ih (i + (1 : Int32)) ((f_Row_append nf uf' (cd_nn i.toNatClampNeg)).2) w5 (fun k hk => ((e5 k (by omega)).trans (efr k (by omega)))) H locs ls (lv_sub hl [1, 2, 0] rfl) (show (f_Fw_writeNote nf uf ut k) = f_Fw_writeNote_L18 nf uf ut k gn (i + (1 : Int32)) ((f_Row_append nf uf' (cd_nn i.toNatClampNeg)).2) by rw [he, f_Fw_writeNote_L18, if_neg hc22]) (⟨hn20, fa46⟩) at45 at47 hP hS (ho.2.2.2.2.2 hc22)
  have hS : va_S A s.heap s.heap [] := va_S.rf
  have hl := lv_entry ([.ref (ad q), .int k]) (n := 3) (Nat.le_of_ble_eq_true rfl)
  rw [lg_entry_eq]
  generalize (lg_sl ([.ref (ad q), .int k]) ++ List.replicate (3 - (lg_sl ([.ref (ad q), .int k])).length) Slot.unset).toArray = ls at hl ⊢
  have hl : lv_has ls 3 [(0, .ref (ad q)), (1, .int k)] := hl
  have ho : (o_Fw_writeFour nf uf (5 : Int32)) ∧ (o_Fw_writeFour nf (f_Fw_writeFour nf uf (5 : Int32)) (36 : Int32)) ∧ (o_Fw_writeFour nf (f_Fw_writeFour nf (f_Fw_writeFour nf uf (5 : Int32)) (36 : Int32)) (1 : Int32)) ∧ (o_Fw_writeNote_L18 nf uf ut k 9 (0 : Int32) (f_Fw_writeFour nf (f_Fw_writeFour nf (f_Fw_writeFour nf uf (5 : Int32)) (36 : Int32)) (1 : Int32))) := ho
  obtain ⟨hn48, fa49⟩ := hR0
  refine lv_aload_n hx hb d_Fw_writeNote_0 rfl (lv_at hl 0 rfl) ?_
  refine lv_iconst (v := (5 : Int32)) hx hb d_Fw_writeNote_1 (by decide) ?_
  refine va_callv (va_runV (As := [.int (5 : Int32)]) (rest := []) ⟨hx, hb, hml, hown, hA⟩ (c_Fw_writeFour l D tt ad N A zs w0 q qf qm qt nf uf (5 : Int32) (⟨hn48, fa49⟩) hR1 (by omega) (ho.1)) (cwV 1 hA (cd_gV aw_247 aw_248 aw_762 aw_6 aw_249) rfl rfl rfl ⟨rfl, by decide, by decide, by decide +kernel⟩ ⟨Nat.le_of_ble_eq_true rfl, Nat.le_of_ble_eq_true rfl⟩) ⟨cd_blind, cd_recv hK hP (k := q) (by omega) fa49 rfl, fun U hU hW => ⟨rfl, cd_pre hK hP hZ hS U hU hW⟩⟩ rfl rfl hl.1 rfl (lv_room (Nat.le_of_ble_eq_true rfl)) d_Fw_writeNote_2 ⟨Nat.zero_le _, Nat.zero_le _⟩) hS (fun _ _ h => h) (fun _ h => h) (fun w6 tE H locs ht hvm hr51 hP hz1 hk1 hS => ?_)
  have hP := cd_Pf ht hP
  obtain ⟨at53, e6⟩ := hr51
  have fa54 := (e6 q (by omega)).trans fa49
  have at55 := cd_TtAt_keep hR2 (fun k h1 h2 => e6 k (by omega))
  refine lv_aload_n hx hb d_Fw_writeNote_5 rfl (lv_at hl 0 rfl) ?_
  refine lv_bipush (v := (36 : Int32)) hx hb d_Fw_writeNote_6 (by decide) ?_
  refine va_callv (va_runV (As := [.int (36 : Int32)]) (rest := []) ⟨hx, hb, hml, hown, hA⟩ (c_Fw_writeFour l D tt ad N A zs w6 q qf qm qt nf (f_Fw_writeFour nf uf (5 : Int32)) (36 : Int32) (⟨hn48, fa54⟩) at53 (by omega) (ho.2.1)) (cwV 1 hA (cd_gV aw_247 aw_248 aw_762 aw_6 aw_249) rfl rfl rfl ⟨rfl, by decide, by decide, by decide +kernel⟩ ⟨Nat.le_of_ble_eq_true rfl, Nat.le_of_ble_eq_true rfl⟩) ⟨cd_blind, cd_recv hK hP (k := q) (by omega) fa54 rfl, fun U hU hW => ⟨rfl, cd_pre hK hP hZ hS U hU hW⟩⟩ rfl rfl hl.1 rfl (lv_room (Nat.le_of_ble_eq_true rfl)) d_Fw_writeNote_8 ⟨Nat.zero_le _, Nat.zero_le _⟩) hS (fun _ _ h => h) (fun _ h => h) (fun w7 tE H locs ht hvm hr57 hP hz1 hk1 hS => ?_)
  have hP := cd_Pf ht hP
  obtain ⟨at59, e7⟩ := hr57
  have fa60 := (e7 q (by omega)).trans fa54
  have at61 := cd_TtAt_keep at55 (fun k h1 h2 => e7 k (by omega))
  refine lv_aload_n hx hb d_Fw_writeNote_11 rfl (lv_at hl 0 rfl) ?_
  refine lv_iconst (v := (1 : Int32)) hx hb d_Fw_writeNote_12 (by decide) ?_
  refine va_callv (va_runV (As := [.int (1 : Int32)]) (rest := []) ⟨hx, hb, hml, hown, hA⟩ (c_Fw_writeFour l D tt ad N A zs w7 q qf qm qt nf (f_Fw_writeFour nf (f_Fw_writeFour nf uf (5 : Int32)) (36 : Int32)) (1 : Int32) (⟨hn48, fa60⟩) at59 (by omega) (ho.2.2.1)) (cwV 1 hA (cd_gV aw_247 aw_248 aw_762 aw_6 aw_249) rfl rfl rfl ⟨rfl, by decide, by decide, by decide +kernel⟩ ⟨Nat.le_of_ble_eq_true rfl, Nat.le_of_ble_eq_true rfl⟩) ⟨cd_blind, cd_recv hK hP (k := q) (by omega) fa60 rfl, fun U hU hW => ⟨rfl, cd_pre hK hP hZ hS U hU hW⟩⟩ rfl rfl hl.1 rfl (lv_room (Nat.le_of_ble_eq_true rfl)) d_Fw_writeNote_13 ⟨Nat.zero_le _, Nat.zero_le _⟩) hS (fun _ _ h => h) (fun _ h => h) (fun w8 tE H locs ht hvm hr63 hP hz1 hk1 hS => ?_)
  have hP := cd_Pf ht hP
  obtain ⟨at65, e8⟩ := hr63
  have fa66 := (e8 q (by omega)).trans fa60
  have at67 := cd_TtAt_keep at61 (fun k h1 h2 => e8 k (by omega))
  refine lv_iconst (v := (0 : Int32)) hx hb d_Fw_writeNote_16 (by decide) ?_
  refine lv_istore_n (lv' := [(2, .int (0 : Int32)), (0, .ref (ad q)), (1, .int k)]) hx hb d_Fw_writeNote_17 rfl hl (by decide) rfl (fun ls hl => ?_)
  exact L18 9 (0 : Int32) (f_Fw_writeFour nf (f_Fw_writeFour nf (f_Fw_writeFour nf uf (5 : Int32)) (36 : Int32)) (1 : Int32)) w8 (fun k hk => ((e8 k (by omega)).trans ((e7 k (by omega)).trans (e6 k (by omega))))) H locs ls (lv_sub hl [1, 2, 0] rfl) (show (f_Fw_writeNote nf uf ut k) = f_Fw_writeNote_L18 nf uf ut k 9 (0 : Int32) (f_Fw_writeFour nf (f_Fw_writeFour nf (f_Fw_writeFour nf uf (5 : Int32)) (36 : Int32)) (1 : Int32)) by rw [f_Fw_writeNote]) (⟨hn48, fa66⟩) at65 at67 hP hS (ho.2.2.2)
def f_Fw_writeFile_L43 (nf : Nat) (uf : cd_Row) (um : cd_Mem) (ut : cd_Tt) : Nat → Int32 → cd_Row → cd_Row
  | 0, _, _ => default
  | gn + 1, i, uf' => (if (f_Mem_count um) ≤ i then uf' else (if (f_Mem_regionAt um i) = none then (f_Fw_writeFile_L43 nf uf um ut gn (i + (1 : Int32)) uf') else (f_Fw_writeFile_L43 nf uf um ut gn (i + (1 : Int32)) (f_Row_appendBytes nf uf' 1024 ((um.2.2 ((f_Mem_regionAt um i).getD 0)).2.2.2) (f_Reg_usedBytes (um.2.2 ((f_Mem_regionAt um i).getD 0)))))))
def f_Fw_writeFile_L19 (nf : Nat) (uf : cd_Row) (um : cd_Mem) (ut : cd_Tt) : Nat → Int32 → cd_Row → cd_Row
  | 0, _, _ => default
  | gn + 1, i, uf' => (if (f_Tt_count ut) ≤ i then (f_Fw_writeFile_L43 nf uf um ut 7 (0 : Int32) uf') else (f_Fw_writeFile_L19 nf uf um ut gn (i + (1 : Int32)) (f_Fw_writeNote nf uf' ut i)))
def f_Fw_writeFile (nf : Nat) (uf : cd_Row) (um : cd_Mem) (ut : cd_Tt) : cd_Row := (f_Fw_writeFile_L19 nf uf um ut 4 (0 : Int32) (f_Fw_writeEntries nf (f_Fw_writeHeader nf ((f_Row_shorten nf uf (0 : Int32)).2) um) um ut))
def o_Fw_writeFile_L43 (nf : Nat) (uf : cd_Row) (um : cd_Mem) (ut : cd_Tt) : Nat → Int32 → cd_Row → Prop
  | 0, _, _ => False
  | gn + 1, i, uf' => (¬ (f_Mem_count um) ≤ i → o_Mem_regionAt um i) ∧ (¬ (f_Mem_count um) ≤ i → (f_Mem_regionAt um i) = none → o_Fw_writeFile_L43 nf uf um ut gn (i + (1 : Int32)) uf') ∧ (¬ (f_Mem_count um) ≤ i → ¬ (f_Mem_regionAt um i) = none → o_Reg_usedBytes (um.2.2 ((f_Mem_regionAt um i).getD 0))) ∧ (¬ (f_Mem_count um) ≤ i → ¬ (f_Mem_regionAt um i) = none → o_Row_appendBytes nf uf' 1024 ((um.2.2 ((f_Mem_regionAt um i).getD 0)).2.2.2) (f_Reg_usedBytes (um.2.2 ((f_Mem_regionAt um i).getD 0)))) ∧ (¬ (f_Mem_count um) ≤ i → ¬ (f_Mem_regionAt um i) = none → o_Fw_writeFile_L43 nf uf um ut gn (i + (1 : Int32)) (f_Row_appendBytes nf uf' 1024 ((um.2.2 ((f_Mem_regionAt um i).getD 0)).2.2.2) (f_Reg_usedBytes (um.2.2 ((f_Mem_regionAt um i).getD 0)))))
def o_Fw_writeFile_L19 (nf : Nat) (uf : cd_Row) (um : cd_Mem) (ut : cd_Tt) : Nat → Int32 → cd_Row → Prop
  | 0, _, _ => False
  | gn + 1, i, uf' => ((f_Tt_count ut) ≤ i → o_Fw_writeFile_L43 nf uf um ut 7 (0 : Int32) uf') ∧ (¬ (f_Tt_count ut) ≤ i → o_Fw_writeNote nf uf' ut i) ∧ (¬ (f_Tt_count ut) ≤ i → o_Fw_writeFile_L19 nf uf um ut gn (i + (1 : Int32)) (f_Fw_writeNote nf uf' ut i))
def o_Fw_writeFile (nf : Nat) (uf : cd_Row) (um : cd_Mem) (ut : cd_Tt) : Prop := (o_Fw_writeHeader nf ((f_Row_shorten nf uf (0 : Int32)).2) um) ∧ (o_Fw_writeEntries nf (f_Fw_writeHeader nf ((f_Row_shorten nf uf (0 : Int32)).2) um) um ut) ∧ (o_Fw_writeFile_L19 nf uf um ut 4 (0 : Int32) (f_Fw_writeEntries nf (f_Fw_writeHeader nf ((f_Row_shorten nf uf (0 : Int32)).2) um) um ut))
set_option maxHeartbeats 4000000 in
set_option maxRecDepth 100000 in
theorem c_Fw_writeFile (l : Launch) (D : va_G) (tt : Nat → ClassId) (ad : Nat → Nat) (N : Nat) (A : Nat → Prop) (zs : Nat → Nat) (w0 : Nat → va_E) (q qf qm qt : Nat) (nf : Nat) (uf : cd_Row) (um : cd_Mem) (ut : cd_Tt) (hR0 : cd_FwAt N tt ad w0 q qf qm qt) (hR1 : cd_RowAt N tt ad w0 qf nf uf) (hR2 : cd_MemAt N tt ad w0 qm um) (hR3 : cd_TtAt N tt ad w0 qt ut) (hap0 : qf + 2 ≤ qm ∨ qm + 14 ≤ qf) (hap1 : qf + 2 ≤ qt ∨ qt + 3 ≤ qf) (hap2 : qf + 2 ≤ q ∨ q + 1 ≤ qf) (ho : o_Fw_writeFile nf uf um ut) : Met l y_Fw_writeFile w_Fw_writeFile ({ frames := 5, cells := 0, slots := 0, locals := 114 }) (va_Pc [.ref (ad q)] (cd_U D tt ad N A zs w0)) (va_Qv (fun w' => cd_RowAt N tt ad w' qf nf (f_Fw_writeFile nf uf um ut) ∧ (∀ k : Nat, (k < qf ∨ qf + 2 ≤ k) → w' k = w0 k)) (fun w' t => cd_P D ad N A w' t.heap) A) 0 0 A := by
  refine Met.ofW (cc := b_Fw_writeFile) (maxL := 3) (ret := none) (by decide) rfl ?_
  intro p e s m args below meth c s₁ B hml hv
  obtain ⟨rfl, hP, hK, hZ⟩ := hv
  have hx := B.exec
  have hb := B.bytes
  have hr := B.returns
  have hA : ∀ w ∈ cd_AW, w.before _ s = true := fun w h => atoms_spec (ws := w_Fw_writeFile) B.pre w (List.mem_cons_of_mem _ h)
  have hown : s.vm.findClass R_Fw = some m.cls := findClass_of_methodNamed B.named
  have hlocks := B.notSynchronized
  have L43 : ∀ (gn : Nat) (i : Int32) (uf' : cd_Row) (w : Nat → va_E) (efr : ∀ k : Nat, (k < qf ∨ qf + 2 ≤ k) → w k = w0 k) (H : Heap) (locs : List Loc) (ls : Array Slot), lv_has ls 3 [(0, .ref (ad q)), (1, .int i)] → (f_Fw_writeFile nf uf um ut) = f_Fw_writeFile_L43 nf uf um ut gn i uf' → cd_FwAt N tt ad w q qf qm qt → cd_RowAt N tt ad w qf nf uf' → cd_MemAt N tt ad w qm um → cd_TtAt N tt ad w qt ut → cd_P D ad N A w H → va_S A s.heap H locs → o_Fw_writeFile_L43 nf uf um ut gn i uf' → W p l e (headSpec w_Fw_writeFile ({ frames := 5, cells := 0, slots := 0, locals := 114 })).room s m [.ref (ad q)].toArray below meth c H locs 0 0 (MQ below (va_Qv (fun w' => cd_RowAt N tt ad w' qf nf (f_Fw_writeFile nf uf um ut) ∧ (∀ k : Nat, (k < qf ∨ qf + 2 ≤ k) → w' k = w0 k)) (fun w' t => cd_P D ad N A w' t.heap) A) [.ref (ad q)].toArray s 0 0 A) (F0 m 43 ls []) := by
    intro gn
    induction gn with
    | zero => intro i uf' w efr H locs ls hl he hL0 hL1 hL2 hL3 hP hS ho; exact ho.elim
    | succ gn ih =>
      intro i uf' w efr H locs ls hl he hL0 hL1 hL2 hL3 hP hS ho
      have ho : (¬ (f_Mem_count um) ≤ i → o_Mem_regionAt um i) ∧ (¬ (f_Mem_count um) ≤ i → (f_Mem_regionAt um i) = none → o_Fw_writeFile_L43 nf uf um ut gn (i + (1 : Int32)) uf') ∧ (¬ (f_Mem_count um) ≤ i → ¬ (f_Mem_regionAt um i) = none → o_Reg_usedBytes (um.2.2 ((f_Mem_regionAt um i).getD 0))) ∧ (¬ (f_Mem_count um) ≤ i → ¬ (f_Mem_regionAt um i) = none → o_Row_appendBytes nf uf' 1024 ((um.2.2 ((f_Mem_regionAt um i).getD 0)).2.2.2) (f_Reg_usedBytes (um.2.2 ((f_Mem_regionAt um i).getD 0)))) ∧ (¬ (f_Mem_count um) ≤ i → ¬ (f_Mem_regionAt um i) = none → o_Fw_writeFile_L43 nf uf um ut gn (i + (1 : Int32)) (f_Row_appendBytes nf uf' 1024 ((um.2.2 ((f_Mem_regionAt um i).getD 0)).2.2.2) (f_Reg_usedBytes (um.2.2 ((f_Mem_regionAt um i).getD 0))))) := ho
      obtain ⟨hn1, fa2⟩ := hL0
      refine lv_iload_n hx hb d_Fw_writeFile_43 rfl (lv_at hl 1 rfl) ?_
      refine lv_aload_n hx hb d_Fw_writeFile_44 rfl (lv_at hl 0 rfl) ?_
      refine g_get (ci := 4) (C := R_Fw) (T := F_Fw) (Nf := 3) (v := .ref (ad qm)) hx hb hA in_Fw hown hK hP (k := q) (by omega) fa2 rfl 1 (by decide) (hA _ aw_79) (fun _ h9 => h9) rfl d_Fw_writeFile_45 ?_
      obtain ⟨hn3, fa4, ⟨rf8, fa5, fa6⟩, fa7⟩ := hL2
      refine va_calli (va_runV (As := []) (rest := [.int i]) ⟨hx, hb, hml, hown, hA⟩ (c_Mem_count l D tt ad N A zs w qm um (⟨hn3, fa4, ⟨rf8, fa5, fa6⟩, fa7⟩)) (cwV 0 hA (cd_gV aw_225 aw_226 aw_227 aw_2 aw_228) rfl rfl rfl ⟨rfl, by decide, by decide, by decide +kernel⟩ ⟨Nat.le_of_ble_eq_true rfl, Nat.le_of_ble_eq_true rfl⟩) ⟨cd_blind, cd_recv hK hP (k := qm) (by omega) fa4 rfl, fun U hU hW => ⟨rfl, cd_pre hK hP hZ hS U hU hW⟩⟩ rfl rfl hl.1 rfl (lv_room (Nat.le_of_ble_eq_true rfl)) d_Fw_writeFile_48 ⟨Nat.zero_le _, Nat.zero_le _⟩) hS (fun _ _ h => h) (fun _ h => h) (fun r9 w1 tE H locs ht hvm hr10 hP hz1 hk1 hS => ?_)
      have hP := cd_Pf ht hP
      obtain ⟨rfl, rfl⟩ := hr10
      refine lv_icmp_ge (tgt := 88) hx hb d_Fw_writeFile_51 (by decide) (fun hc12 => ?_) (fun hc12 => ?_)
      · have hf13 : (f_Fw_writeFile nf uf um ut) = uf' := by rw [he, f_Fw_writeFile_L43, if_pos hc12]
        exact W.vret hx hb hr (fun tE ht _ => ⟨⟨w, rfl, ⟨(by rw [hf13]; exact hL1), (fun k hk => (efr k (by omega)))⟩, cd_Pt ht hP⟩, hS.F ht⟩) hS.2.2 d_Fw_writeFile_88
      · refine lv_aload_n hx hb d_Fw_writeFile_54 rfl (lv_at hl 0 rfl) ?_
        refine g_get (ci := 4) (C := R_Fw) (T := F_Fw) (Nf := 3) (v := .ref (ad qm)) hx hb hA in_Fw hown hK hP (k := q) (by omega) fa2 rfl 1 (by decide) (hA _ aw_79) (fun _ h9 => h9) rfl d_Fw_writeFile_55 ?_
        refine lv_iload_n hx hb d_Fw_writeFile_58 rfl (lv_at hl 1 rfl) ?_
        refine va_callq (va_runV (As := [.int i]) (rest := []) ⟨hx, hb, hml, hown, hA⟩ (c_Mem_regionAt l D tt ad N A zs w qm um i (⟨hn3, fa4, ⟨rf8, fa5, fa6⟩, fa7⟩) (ho.1 hc12)) (cwV 1 hA (cd_gV aw_250 aw_251 aw_252 aw_2 aw_253) rfl rfl rfl ⟨rfl, by decide, by decide, by decide +kernel⟩ ⟨Nat.le_of_ble_eq_true rfl, Nat.le_of_ble_eq_true rfl⟩) ⟨cd_blind, cd_recv hK hP (k := qm) (by omega) fa4 rfl, fun U hU hW => ⟨rfl, cd_pre hK hP hZ hS U hU hW⟩⟩ rfl rfl hl.1 rfl (lv_room (Nat.le_of_ble_eq_true rfl)) d_Fw_writeFile_59 ⟨Nat.zero_le _, Nat.zero_le _⟩) hS (fun _ _ h => h) (fun _ h => h) (fun r14 w2 tE H locs ht hvm hr15 hP hz1 hk1 hS => ?_)
        have hP := cd_Pf ht hP
        obtain ⟨rfl, rfl, hq16⟩ := hr15
        by_cases hc17 : (f_Mem_regionAt um i) = none
        · refine g_optN hc17 ?_
          refine lv_astore_nN (lv' := [(2, .null), (0, .ref (ad q)), (1, .int i)]) hx hb d_Fw_writeFile_62 rfl hl (by decide) rfl (fun ls hl => ?_)
          refine lv_aload_nN hx hb d_Fw_writeFile_63 rfl (lv_at hl 0 rfl) ?_
          refine lv_ifnullN (tgt := 82) hx hb d_Fw_writeFile_64 (by decide) ?_
          refine lv_iinc (k := 2) (v := (i + (1 : Int32))) (lv' := [(1, .int (i + (1 : Int32))), (2, .null), (0, .ref (ad q))]) hx hb d_Fw_writeFile_82 hl rfl (cd_inc _ _ _ (by decide)) (by decide) rfl (fun ls hl => ?_)
          refine lv_goto (tgt := 43) hx hb d_Fw_writeFile_85 (by decide) ?_
          exact ih (i + (1 : Int32)) uf' w (fun k hk => (efr k (by omega))) H locs ls (lv_sub hl [2, 0] rfl) (show (f_Fw_writeFile nf uf um ut) = f_Fw_writeFile_L43 nf uf um ut gn (i + (1 : Int32)) uf' by rw [he, f_Fw_writeFile_L43, if_neg hc12, if_pos hc17]) (⟨hn1, fa2⟩) hL1 (⟨hn3, fa4, ⟨rf8, fa5, fa6⟩, fa7⟩) hL3 hP hS (ho.2.1 hc12 hc17)
        · refine g_optS hc17 ?_
          have hi18 := hq16 hc17
          refine lv_astore_n (lv' := [(2, .ref (ad ((qm + 2) + 2 * ((f_Mem_regionAt um i).getD 0)))), (0, .ref (ad q)), (1, .int i)]) hx hb d_Fw_writeFile_62 rfl hl (by decide) rfl (fun ls hl => ?_)
          refine lv_aload_n hx hb d_Fw_writeFile_63 rfl (lv_at hl 0 rfl) ?_
          refine lv_ifnull hx hb d_Fw_writeFile_64 ?_
          refine lv_aload_n hx hb d_Fw_writeFile_67 rfl (lv_at hl 1 rfl) ?_
          refine g_get (ci := 4) (C := R_Fw) (T := F_Fw) (Nf := 3) (v := .ref (ad qf)) hx hb hA in_Fw hown hK hP (k := q) (by omega) fa2 rfl 0 (by decide) (hA _ aw_78) (fun _ h9 => h9) rfl d_Fw_writeFile_68 ?_
          refine lv_aload_n hx hb d_Fw_writeFile_71 rfl (lv_at hl 0 rfl) ?_
          obtain ⟨hn19, fa20, fa21⟩ := (fa7 ((f_Mem_regionAt um i).getD 0) hi18)
          refine g_getN (ci := 1) (C := R_Reg) (T := F_Reg) (Nf := 4) (v := .ref (ad (((qm + 2) + 2 * ((f_Mem_regionAt um i).getD 0)) + 1))) hx hb hA in_Reg hown hK hP (k := ((qm + 2) + 2 * ((f_Mem_regionAt um i).getD 0))) (by omega) fa20 rfl 0 (by decide) (va_Nw.use rfl (nw_0 hZ.2.2.2.2.2.2)) (fun _ h9 => h9) rfl d_Fw_writeFile_72 ?_
          refine lv_aload_n hx hb d_Fw_writeFile_75 rfl (lv_at hl 0 rfl) ?_
          refine va_calli (va_runV (As := []) (rest := [.ref (ad (((qm + 2) + 2 * ((f_Mem_regionAt um i).getD 0)) + 1)), .ref (ad qf)]) ⟨hx, hb, hml, hown, hA⟩ (c_Reg_usedBytes l D tt ad N A zs w ((qm + 2) + 2 * ((f_Mem_regionAt um i).getD 0)) (um.2.2 ((f_Mem_regionAt um i).getD 0)) (⟨hn19, fa20, fa21⟩) (ho.2.2.1 hc12 hc17)) (cwV 0 hA (cd_gV aw_254 aw_255 aw_256 aw_3 aw_257) rfl rfl rfl ⟨rfl, by decide, by decide, by decide +kernel⟩ ⟨Nat.le_of_ble_eq_true rfl, Nat.le_of_ble_eq_true rfl⟩) ⟨cd_blind, cd_recv hK hP (k := ((qm + 2) + 2 * ((f_Mem_regionAt um i).getD 0))) (by omega) fa20 rfl, fun U hU hW => ⟨rfl, cd_pre hK hP hZ hS U hU hW⟩⟩ rfl rfl hl.1 rfl (lv_room (Nat.le_of_ble_eq_true rfl)) d_Fw_writeFile_76 ⟨Nat.zero_le _, Nat.zero_le _⟩) hS (fun _ _ h => h) (fun _ h => h) (fun r22 w3 tE H locs ht hvm hr23 hP hz1 hk1 hS => ?_)
          have hP := cd_Pf ht hP
          obtain ⟨rfl, rfl⟩ := hr23
          obtain ⟨hn25, fa26, fa27⟩ := hL1
          refine va_callv (va_runV (As := [.ref (ad (((qm + 2) + 2 * ((f_Mem_regionAt um i).getD 0)) + 1)), .int (f_Reg_usedBytes (um.2.2 ((f_Mem_regionAt um i).getD 0)))]) (rest := []) ⟨hx, hb, hml, hown, hA⟩ (c_Row_appendBytes l D tt ad N A zs w qf nf uf' (((qm + 2) + 2 * ((f_Mem_regionAt um i).getD 0)) + 1) 1024 ((um.2.2 ((f_Mem_regionAt um i).getD 0)).2.2.2) (f_Reg_usedBytes (um.2.2 ((f_Mem_regionAt um i).getD 0))) (⟨hn25, fa26, fa27⟩) (⟨by omega, fa21⟩) (by omega) (ho.2.2.2.1 hc12 hc17)) (cwV 2 hA (cd_gV aw_277 aw_278 aw_279 aw_5 aw_280) rfl rfl rfl ⟨rfl, by decide, by decide, by decide +kernel⟩ ⟨Nat.le_of_ble_eq_true rfl, Nat.le_of_ble_eq_true rfl⟩) ⟨cd_blind, cd_recv hK hP (k := qf) (by omega) fa26 rfl, fun U hU hW => ⟨rfl, cd_pre hK hP hZ hS U hU hW⟩⟩ rfl rfl hl.1 rfl (lv_room (Nat.le_of_ble_eq_true rfl)) d_Fw_writeFile_79 ⟨Nat.zero_le _, Nat.zero_le _⟩) hS (fun _ _ h => h) (fun _ h => h) (fun w4 tE H locs ht hvm hr29 hP hz1 hk1 hS => ?_)
          have hP := cd_Pf ht hP
          obtain ⟨at31, e4⟩ := hr29
          have fa32 := (e4 q (by omega)).trans fa2
          have fa33 := (e4 qm (by omega)).trans fa4
          have fa34 := (e4 (qm + 1) (by omega)).trans fa5
          have fa35 := cd_pool_keep fa7 (fun k h1 h2 => e4 k (by omega))
          have at36 := cd_TtAt_keep hL3 (fun k h1 h2 => e4 k (by omega))
          refine lv_iinc (k := 2) (v := (i + (1 : Int32))) (lv' := [(1, .int (i + (1 : Int32))), (2, .ref (ad ((qm + 2) + 2 * ((f_Mem_regionAt um i).getD 0)))), (0, .ref (ad q))]) hx hb d_Fw_writeFile_82 hl rfl (cd_inc _ _ _ (by decide)) (by decide) rfl (fun ls hl => ?_)
          refine lv_goto (tgt := 43) hx hb d_Fw_writeFile_85 (by decide) ?_
          exact ih (i + (1 : Int32)) (f_Row_appendBytes nf uf' 1024 ((um.2.2 ((f_Mem_regionAt um i).getD 0)).2.2.2) (f_Reg_usedBytes (um.2.2 ((f_Mem_regionAt um i).getD 0)))) w4 (fun k hk => ((e4 k (by omega)).trans (efr k (by omega)))) H locs ls (lv_sub hl [2, 0] rfl) (show (f_Fw_writeFile nf uf um ut) = f_Fw_writeFile_L43 nf uf um ut gn (i + (1 : Int32)) (f_Row_appendBytes nf uf' 1024 ((um.2.2 ((f_Mem_regionAt um i).getD 0)).2.2.2) (f_Reg_usedBytes (um.2.2 ((f_Mem_regionAt um i).getD 0)))) by rw [he, f_Fw_writeFile_L43, if_neg hc12, if_neg hc17]) (⟨hn1, fa32⟩) at31 (⟨hn3, fa33, ⟨rf8, fa34, fa6⟩, fa35⟩) at36 hP hS (ho.2.2.2.2 hc12 hc17)
  have L19 : ∀ (gn : Nat) (i : Int32) (uf' : cd_Row) (w : Nat → va_E) (efr : ∀ k : Nat, (k < qf ∨ qf + 2 ≤ k) → w k = w0 k) (H : Heap) (locs : List Loc) (ls : Array Slot), lv_has ls 3 [(0, .ref (ad q)), (1, .int i)] → (f_Fw_writeFile nf uf um ut) = f_Fw_writeFile_L19 nf uf um ut gn i uf' → cd_FwAt N tt ad w q qf qm qt → cd_RowAt N tt ad w qf nf uf' → cd_MemAt N tt ad w qm um → cd_TtAt N tt ad w qt ut → cd_P D ad N A w H → va_S A s.heap H locs → o_Fw_writeFile_L19 nf uf um ut gn i uf' → W p l e (headSpec w_Fw_writeFile ({ frames := 5, cells := 0, slots := 0, locals := 114 })).room s m [.ref (ad q)].toArray below meth c H locs 0 0 (MQ below (va_Qv (fun w' => cd_RowAt N tt ad w' qf nf (f_Fw_writeFile nf uf um ut) ∧ (∀ k : Nat, (k < qf ∨ qf + 2 ≤ k) → w' k = w0 k)) (fun w' t => cd_P D ad N A w' t.heap) A) [.ref (ad q)].toArray s 0 0 A) (F0 m 19 ls []) := by
    intro gn
    induction gn with
    | zero => intro i uf' w efr H locs ls hl he hL0 hL1 hL2 hL3 hP hS ho; exact ho.elim
    | succ gn ih =>
      intro i uf' w efr H locs ls hl he hL0 hL1 hL2 hL3 hP hS ho
      have ho : ((f_Tt_count ut) ≤ i → o_Fw_writeFile_L43 nf uf um ut 7 (0 : Int32) uf') ∧ (¬ (f_Tt_count ut) ≤ i → o_Fw_writeNote nf uf' ut i) ∧ (¬ (f_Tt_count ut) ≤ i → o_Fw_writeFile_L19 nf uf um ut gn (i + (1 : Int32)) (f_Fw_writeNote nf uf' ut i)) := ho
      obtain ⟨hn37, fa38⟩ := hL0
      refine lv_iload_n hx hb d_Fw_writeFile_19 rfl (lv_at hl 1 rfl) ?_
      refine lv_aload_n hx hb d_Fw_writeFile_20 rfl (lv_at hl 0 rfl) ?_
      refine g_get (ci := 4) (C := R_Fw) (T := F_Fw) (Nf := 3) (v := .ref (ad qt)) hx hb hA in_Fw hown hK hP (k := q) (by omega) fa38 rfl 2 (by decide) (hA _ aw_80) (fun _ h9 => h9) rfl d_Fw_writeFile_21 ?_
      obtain ⟨hn39, fa40, fa41, fa42⟩ := hL3
      refine va_calli (va_runV (As := []) (rest := [.int i]) ⟨hx, hb, hml, hown, hA⟩ (c_Tt_count l D tt ad N A zs w qt ut (⟨hn39, fa40, fa41, fa42⟩)) (cwV 0 hA (cd_gV aw_240 aw_241 aw_242 aw_4 aw_243) rfl rfl rfl ⟨rfl, by decide, by decide, by decide +kernel⟩ ⟨Nat.le_of_ble_eq_true rfl, Nat.le_of_ble_eq_true rfl⟩) ⟨cd_blind, cd_recv hK hP (k := qt) (by omega) fa40 rfl, fun U hU hW => ⟨rfl, cd_pre hK hP hZ hS U hU hW⟩⟩ rfl rfl hl.1 rfl (lv_room (Nat.le_of_ble_eq_true rfl)) d_Fw_writeFile_24 ⟨Nat.zero_le _, Nat.zero_le _⟩) hS (fun _ _ h => h) (fun _ h => h) (fun r43 w5 tE H locs ht hvm hr44 hP hz1 hk1 hS => ?_)
      have hP := cd_Pf ht hP
      obtain ⟨rfl, rfl⟩ := hr44
      refine lv_icmp_ge (tgt := 41) hx hb d_Fw_writeFile_27 (by decide) (fun hc46 => ?_) (fun hc46 => ?_)
      · refine lv_iconst (v := (0 : Int32)) hx hb d_Fw_writeFile_41 (by decide) ?_
        refine lv_istore_n (lv' := [(1, .int (0 : Int32)), (0, .ref (ad q))]) hx hb d_Fw_writeFile_42 rfl hl (by decide) rfl (fun ls hl => ?_)
        exact L43 7 (0 : Int32) uf' w (fun k hk => (efr k (by omega))) H locs ls (lv_sub hl [1, 0] rfl) (show (f_Fw_writeFile nf uf um ut) = f_Fw_writeFile_L43 nf uf um ut 7 (0 : Int32) uf' by rw [he, f_Fw_writeFile_L19, if_pos hc46]) (⟨hn37, fa38⟩) hL1 hL2 (⟨hn39, fa40, fa41, fa42⟩) hP hS (ho.1 hc46)
      · refine lv_aload_n hx hb d_Fw_writeFile_30 rfl (lv_at hl 0 rfl) ?_
        refine lv_iload_n hx hb d_Fw_writeFile_31 rfl (lv_at hl 1 rfl) ?_
        refine va_callv (va_runV (As := [.int i]) (rest := []) ⟨hx, hb, hml, hown, hA⟩ (c_Fw_writeNote l D tt ad N A zs w q qf qm qt nf uf' ut i (⟨hn37, fa38⟩) hL1 (⟨hn39, fa40, fa41, fa42⟩) (by omega) (by omega) (ho.2.1 hc46)) (cwV 1 hA (cd_gV aw_265 aw_266 aw_764 aw_6 aw_267) rfl rfl rfl ⟨rfl, by decide, by decide, by decide +kernel⟩ ⟨Nat.le_of_ble_eq_true rfl, Nat.le_of_ble_eq_true rfl⟩) ⟨cd_blind, cd_recv hK hP (k := q) (by omega) fa38 rfl, fun U hU hW => ⟨rfl, cd_pre hK hP hZ hS U hU hW⟩⟩ rfl rfl hl.1 rfl (lv_room (Nat.le_of_ble_eq_true rfl)) d_Fw_writeFile_32 ⟨Nat.zero_le _, Nat.zero_le _⟩) hS (fun _ _ h => h) (fun _ h => h) (fun w6 tE H locs ht hvm hr48 hP hz1 hk1 hS => ?_)
        have hP := cd_Pf ht hP
        obtain ⟨at50, e6⟩ := hr48
        have fa51 := (e6 q (by omega)).trans fa38
        have at52 := cd_MemAt_keep hL2 (fun k h1 h2 => e6 k (by omega))
        have fa53 := (e6 qt (by omega)).trans fa40
        have fa54 := (e6 (qt + 1) (by omega)).trans fa41
        have fa55 := (e6 (qt + 2) (by omega)).trans fa42
        refine lv_iinc (k := 1) (v := (i + (1 : Int32))) (lv' := [(1, .int (i + (1 : Int32))), (0, .ref (ad q))]) hx hb d_Fw_writeFile_35 hl rfl (cd_inc _ _ _ (by decide)) (by decide) rfl (fun ls hl => ?_)
        refine lv_goto (tgt := 19) hx hb d_Fw_writeFile_38 (by decide) ?_
        exact ih (i + (1 : Int32)) (f_Fw_writeNote nf uf' ut i) w6 (fun k hk => ((e6 k (by omega)).trans (efr k (by omega)))) H locs ls (lv_sub hl [1, 0] rfl) (show (f_Fw_writeFile nf uf um ut) = f_Fw_writeFile_L19 nf uf um ut gn (i + (1 : Int32)) (f_Fw_writeNote nf uf' ut i) by rw [he, f_Fw_writeFile_L19, if_neg hc46]) (⟨hn37, fa51⟩) at50 at52 (⟨hn39, fa53, fa54, fa55⟩) hP hS (ho.2.2 hc46)
  have hS : va_S A s.heap s.heap [] := va_S.rf
  have hl := lv_entry ([.ref (ad q)]) (n := 3) (Nat.le_of_ble_eq_true rfl)
  rw [lg_entry_eq]
  generalize (lg_sl ([.ref (ad q)]) ++ List.replicate (3 - (lg_sl ([.ref (ad q)])).length) Slot.unset).toArray = ls at hl ⊢
  have hl : lv_has ls 3 [(0, .ref (ad q))] := hl
  have ho : (o_Fw_writeHeader nf ((f_Row_shorten nf uf (0 : Int32)).2) um) ∧ (o_Fw_writeEntries nf (f_Fw_writeHeader nf ((f_Row_shorten nf uf (0 : Int32)).2) um) um ut) ∧ (o_Fw_writeFile_L19 nf uf um ut 4 (0 : Int32) (f_Fw_writeEntries nf (f_Fw_writeHeader nf ((f_Row_shorten nf uf (0 : Int32)).2) um) um ut)) := ho
  obtain ⟨hn56, fa57⟩ := hR0
  refine lv_aload_n hx hb d_Fw_writeFile_0 rfl (lv_at hl 0 rfl) ?_
  refine g_get (ci := 4) (C := R_Fw) (T := F_Fw) (Nf := 3) (v := .ref (ad qf)) hx hb hA in_Fw hown hK hP (k := q) (by omega) fa57 rfl 0 (by decide) (hA _ aw_78) (fun _ h9 => h9) rfl d_Fw_writeFile_1 ?_
  refine lv_iconst (v := (0 : Int32)) hx hb d_Fw_writeFile_4 (by decide) ?_
  obtain ⟨hn58, fa59, fa60⟩ := hR1
  refine va_calli (va_runV (As := [.int (0 : Int32)]) (rest := []) ⟨hx, hb, hml, hown, hA⟩ (c_Row_shorten l D tt ad N A zs w0 qf nf uf (0 : Int32) (⟨hn58, fa59, fa60⟩)) (cwV 1 hA (cd_gV aw_215 aw_216 aw_217 aw_5 aw_218) rfl rfl rfl ⟨rfl, by decide, by decide, by decide +kernel⟩ ⟨Nat.le_of_ble_eq_true rfl, Nat.le_of_ble_eq_true rfl⟩) ⟨cd_blind, cd_recv hK hP (k := qf) (by omega) fa59 rfl, fun U hU hW => ⟨rfl, cd_pre hK hP hZ hS U hU hW⟩⟩ rfl rfl hl.1 rfl (lv_room (Nat.le_of_ble_eq_true rfl)) d_Fw_writeFile_5 ⟨Nat.zero_le _, Nat.zero_le _⟩) hS (fun _ _ h => h) (fun _ h => h) (fun r61 w7 tE H locs ht hvm hr62 hP hz1 hk1 hS => ?_)
  have hP := cd_Pf ht hP
  obtain ⟨rfl, hbo64, at65, e7⟩ := hr62
  have fa66 := (e7 q (by omega)).trans fa57
  have at67 := cd_MemAt_keep hR2 (fun k h1 h2 => e7 k (by omega))
  have at68 := cd_TtAt_keep hR3 (fun k h1 h2 => e7 k (by omega))
  refine lv_pop hx hb d_Fw_writeFile_8 rfl ?_
  refine lv_aload_n hx hb d_Fw_writeFile_9 rfl (lv_at hl 0 rfl) ?_
  refine va_callv (va_runV (As := []) (rest := []) ⟨hx, hb, hml, hown, hA⟩ (c_Fw_writeHeader l D tt ad N A zs w7 q qf qm qt nf ((f_Row_shorten nf uf (0 : Int32)).2) um (⟨hn56, fa66⟩) at65 at67 (by omega) (by omega) (ho.1)) (cwV 0 hA (cd_gV aw_219 aw_220 aw_758 aw_6 aw_221) rfl rfl rfl ⟨rfl, by decide, by decide, by decide +kernel⟩ ⟨Nat.le_of_ble_eq_true rfl, Nat.le_of_ble_eq_true rfl⟩) ⟨cd_blind, cd_recv hK hP (k := q) (by omega) fa66 rfl, fun U hU hW => ⟨rfl, cd_pre hK hP hZ hS U hU hW⟩⟩ rfl rfl hl.1 rfl (lv_room (Nat.le_of_ble_eq_true rfl)) d_Fw_writeFile_10 ⟨Nat.zero_le _, Nat.zero_le _⟩) hS (fun _ _ h => h) (fun _ h => h) (fun w8 tE H locs ht hvm hr70 hP hz1 hk1 hS => ?_)
  have hP := cd_Pf ht hP
  obtain ⟨at72, e8⟩ := hr70
  have fa73 := (e8 q (by omega)).trans fa66
  have at74 := cd_MemAt_keep at67 (fun k h1 h2 => e8 k (by omega))
  have at75 := cd_TtAt_keep at68 (fun k h1 h2 => e8 k (by omega))
  refine lv_aload_n hx hb d_Fw_writeFile_13 rfl (lv_at hl 0 rfl) ?_
  refine va_callv (va_runV (As := []) (rest := []) ⟨hx, hb, hml, hown, hA⟩ (c_Fw_writeEntries l D tt ad N A zs w8 q qf qm qt nf (f_Fw_writeHeader nf ((f_Row_shorten nf uf (0 : Int32)).2) um) um ut (⟨hn56, fa73⟩) at72 at74 at75 (by omega) (by omega) (by omega) (ho.2.1)) (cwV 0 hA (cd_gV aw_237 aw_238 aw_760 aw_6 aw_239) rfl rfl rfl ⟨rfl, by decide, by decide, by decide +kernel⟩ ⟨Nat.le_of_ble_eq_true rfl, Nat.le_of_ble_eq_true rfl⟩) ⟨cd_blind, cd_recv hK hP (k := q) (by omega) fa73 rfl, fun U hU hW => ⟨rfl, cd_pre hK hP hZ hS U hU hW⟩⟩ rfl rfl hl.1 rfl (lv_room (Nat.le_of_ble_eq_true rfl)) d_Fw_writeFile_14 ⟨Nat.zero_le _, Nat.zero_le _⟩) hS (fun _ _ h => h) (fun _ h => h) (fun w9 tE H locs ht hvm hr77 hP hz1 hk1 hS => ?_)
  have hP := cd_Pf ht hP
  obtain ⟨at79, e9⟩ := hr77
  have fa80 := (e9 q (by omega)).trans fa73
  have at81 := cd_MemAt_keep at74 (fun k h1 h2 => e9 k (by omega))
  have at82 := cd_TtAt_keep at75 (fun k h1 h2 => e9 k (by omega))
  refine lv_iconst (v := (0 : Int32)) hx hb d_Fw_writeFile_17 (by decide) ?_
  refine lv_istore_n (lv' := [(1, .int (0 : Int32)), (0, .ref (ad q))]) hx hb d_Fw_writeFile_18 rfl hl (by decide) rfl (fun ls hl => ?_)
  exact L19 4 (0 : Int32) (f_Fw_writeEntries nf (f_Fw_writeHeader nf ((f_Row_shorten nf uf (0 : Int32)).2) um) um ut) w9 (fun k hk => ((e9 k (by omega)).trans ((e8 k (by omega)).trans (e7 k (by omega))))) H locs ls (lv_sub hl [1, 0] rfl) (show (f_Fw_writeFile nf uf um ut) = f_Fw_writeFile_L19 nf uf um ut 4 (0 : Int32) (f_Fw_writeEntries nf (f_Fw_writeHeader nf ((f_Row_shorten nf uf (0 : Int32)).2) um) um ut) by rw [f_Fw_writeFile]) (⟨hn56, fa80⟩) at79 at81 at82 hP hS (ho.2.2)
