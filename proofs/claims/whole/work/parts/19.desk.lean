def f_Desk_map (u : cd_Has) (um : cd_Mem) (k : Int32) (x : Int32) (y : Int32) : Int32 × cd_Mem := (if x < (1 : Int32) then ((0 : Int32), um) else (if x ≤ (16 : Int32) then ((f_Mem_addRegion um k (x * (64 : Int32)) y).1, (f_Mem_addRegion um k (x * (64 : Int32)) y).2) else ((0 : Int32), um)))
def o_Desk_map (u : cd_Has) (um : cd_Mem) (k : Int32) (x : Int32) (y : Int32) : Prop := (¬ x < (1 : Int32) → x ≤ (16 : Int32) → o_Mem_addRegion um k (x * (64 : Int32)) y)
set_option maxHeartbeats 4000000 in
set_option maxRecDepth 100000 in
theorem c_Desk_map (l : Launch) (D : va_G) (tt : Nat → ClassId) (ad : Nat → Nat) (N : Nat) (A : Nat → Prop) (zs : Nat → Nat) (w0 : Nat → va_E) (q : Nat) (u : cd_Has) (um : cd_Mem) (k : Int32) (x : Int32) (y : Int32) (hR0 : cd_DeskAt N tt ad w0 q u) (hR1 : cd_MemAt N tt ad w0 (q + 1) um) (ho : o_Desk_map u um k x y) : Met l y_Desk_map w_Desk_map ({ frames := 3, cells := 0, slots := 0, locals := 72 }) (va_Pc [.ref (ad q), .int k, .int x, .int y] (cd_U D tt ad N A zs w0)) (va_Qi (fun r w' => (f_Desk_map u um k x y).1 = r ∧ (r = 0 ∨ r = 1) ∧ cd_MemAt N tt ad w' (q + 1) ((f_Desk_map u um k x y).2) ∧ (∀ k : Nat, (k < (q + 1) ∨ (q + 1) + 14 ≤ k) → w' k = w0 k)) (fun w' t => cd_P D ad N A w' t.heap) A) 0 0 A := by
  refine Met.ofW (cc := b_Desk_map) (maxL := 4) (ret := (some .boolean)) (by decide) rfl ?_
  intro p e s m args below meth c s₁ B hml hv
  obtain ⟨rfl, hP, hK, hZ⟩ := hv
  have hx := B.exec
  have hb := B.bytes
  have hr := B.returns
  have hA : ∀ w ∈ cd_AW, w.before _ s = true := fun w h => atoms_spec (ws := w_Desk_map) B.pre w (List.mem_cons_of_mem _ h)
  have hown : s.vm.findClass R_Desk = some m.cls := findClass_of_methodNamed B.named
  have hlocks := B.notSynchronized
  have hS : va_S A s.heap s.heap [] := va_S.rf
  have hl := lv_entry ([.ref (ad q), .int k, .int x, .int y]) (n := 4) (Nat.le_of_ble_eq_true rfl)
  rw [lg_entry_eq]
  generalize (lg_sl ([.ref (ad q), .int k, .int x, .int y]) ++ List.replicate (4 - (lg_sl ([.ref (ad q), .int k, .int x, .int y])).length) Slot.unset).toArray = ls at hl ⊢
  have hl : lv_has ls 4 [(0, .ref (ad q)), (1, .int k), (2, .int x), (3, .int y)] := hl
  have ho : (¬ x < (1 : Int32) → x ≤ (16 : Int32) → o_Mem_addRegion um k (x * (64 : Int32)) y) := ho
  obtain ⟨hn1, fa2⟩ := hR0
  refine lv_iload_n hx hb d_Desk_map_0 rfl (lv_at hl 2 rfl) ?_
  refine lv_iconst (v := (1 : Int32)) hx hb d_Desk_map_1 (by decide) ?_
  refine lv_icmp_lt (tgt := 11) hx hb d_Desk_map_2 (by decide) (fun hc3 => ?_) (fun hc3 => ?_)
  · refine lv_iconst (v := (0 : Int32)) hx hb d_Desk_map_11 (by decide) ?_
    have hf4 : (f_Desk_map u um k x y) = ((0 : Int32), um) := by rw [f_Desk_map, if_pos hc3]
    exact W.zret (ty := .boolean) (v := (0 : Int32)) hx hb hr rfl (fun tE ht _ => ⟨⟨_, w0, rfl, ⟨(by rw [hf4]), (Or.inl rfl), (by rw [hf4]; exact hR1), (fun _ _ => rfl)⟩, cd_Pt ht hP⟩, hS.F ht⟩) hS.2.2 d_Desk_map_12
  · refine lv_iload_n hx hb d_Desk_map_5 rfl (lv_at hl 2 rfl) ?_
    refine lv_bipush (v := (16 : Int32)) hx hb d_Desk_map_6 (by decide) ?_
    refine lv_icmp_le (tgt := 13) hx hb d_Desk_map_8 (by decide) (fun hc5 => ?_) (fun hc5 => ?_)
    · refine lv_aload_n hx hb d_Desk_map_13 rfl (lv_at hl 0 rfl) ?_
      refine g_get (ci := 6) (C := R_Desk) (T := F_Desk) (Nf := 9) (v := .ref (ad (q + 1))) hx hb hA in_Desk hown hK hP (k := q) (by omega) fa2 rfl 0 (by decide) (hA _ aw_100) (fun _ h9 => h9) rfl d_Desk_map_14 ?_
      refine lv_iload_n hx hb d_Desk_map_17 rfl (lv_at hl 1 rfl) ?_
      refine lv_iload_n hx hb d_Desk_map_18 rfl (lv_at hl 2 rfl) ?_
      refine lv_bipush (v := (64 : Int32)) hx hb d_Desk_map_19 (by decide) ?_
      refine lv_imul hx hb d_Desk_map_21 ?_
      refine lv_iload_n hx hb d_Desk_map_22 rfl (lv_at hl 3 rfl) ?_
      obtain ⟨hn6, fa7, ⟨rf11, fa8, fa9⟩, fa10⟩ := hR1
      refine va_calli (va_runV (As := [.int k, .int (x * (64 : Int32)), .int y]) (rest := []) ⟨hx, hb, hml, hown, hA⟩ (c_Mem_addRegion l D tt ad N A zs w0 (q + 1) um k (x * (64 : Int32)) y (⟨hn6, fa7, ⟨rf11, fa8, fa9⟩, fa10⟩) (ho hc3 hc5)) (cwV 3 hA (cd_gV aw_122 aw_123 aw_124 aw_2 aw_125) rfl rfl rfl ⟨rfl, by decide, by decide, by decide +kernel⟩ ⟨Nat.le_of_ble_eq_true rfl, Nat.le_of_ble_eq_true rfl⟩) ⟨cd_blind, cd_recv hK hP (k := (q + 1)) (by omega) fa7 rfl, fun U hU hW => ⟨rfl, cd_pre hK hP hZ hS U hU hW⟩⟩ rfl rfl hl.1 rfl (lv_room (Nat.le_of_ble_eq_true rfl)) d_Desk_map_23 ⟨Nat.zero_le _, Nat.zero_le _⟩) hS (fun _ _ h => h) (fun _ h => h) (fun r12 w1 tE H locs ht hvm hr13 hP hz1 hk1 hS => ?_)
      have hP := cd_Pf ht hP
      obtain ⟨rfl, hbo15, at16, e1⟩ := hr13
      have fa17 := (e1 q (by omega)).trans fa2
      have hf18 : (f_Desk_map u um k x y) = ((f_Mem_addRegion um k (x * (64 : Int32)) y).1, (f_Mem_addRegion um k (x * (64 : Int32)) y).2) := by rw [f_Desk_map, if_neg hc3, if_pos hc5]
      exact W.zret (ty := .boolean) (v := (f_Mem_addRegion um k (x * (64 : Int32)) y).1) hx hb hr (cd_nb hbo15) (fun tE ht _ => ⟨⟨_, w1, rfl, ⟨(by rw [hf18]), hbo15, (by rw [hf18]; exact at16), (fun k hk => (e1 k (by omega)))⟩, cd_Pt ht hP⟩, hS.F ht⟩) hS.2.2 d_Desk_map_26
    · refine lv_iconst (v := (0 : Int32)) hx hb d_Desk_map_11 (by decide) ?_
      have hf19 : (f_Desk_map u um k x y) = ((0 : Int32), um) := by rw [f_Desk_map, if_neg hc3, if_neg hc5]
      exact W.zret (ty := .boolean) (v := (0 : Int32)) hx hb hr rfl (fun tE ht _ => ⟨⟨_, w0, rfl, ⟨(by rw [hf19]), (Or.inl rfl), (by rw [hf19]; exact hR1), (fun _ _ => rfl)⟩, cd_Pt ht hP⟩, hS.F ht⟩) hS.2.2 d_Desk_map_12
def f_Desk_unmap (u : cd_Has) (um : cd_Mem) (k : Int32) : Int32 × cd_Mem := ((f_Mem_removeRegion um k).1, (f_Mem_removeRegion um k).2)
def o_Desk_unmap (u : cd_Has) (um : cd_Mem) (k : Int32) : Prop := (o_Mem_removeRegion um k)
set_option maxHeartbeats 4000000 in
set_option maxRecDepth 100000 in
theorem c_Desk_unmap (l : Launch) (D : va_G) (tt : Nat → ClassId) (ad : Nat → Nat) (N : Nat) (A : Nat → Prop) (zs : Nat → Nat) (w0 : Nat → va_E) (q : Nat) (u : cd_Has) (um : cd_Mem) (k : Int32) (hR0 : cd_DeskAt N tt ad w0 q u) (hR1 : cd_MemAt N tt ad w0 (q + 1) um) (ho : o_Desk_unmap u um k) : Met l y_Desk_unmap w_Desk_unmap ({ frames := 3, cells := 0, slots := 0, locals := 67 }) (va_Pc [.ref (ad q), .int k] (cd_U D tt ad N A zs w0)) (va_Qi (fun r w' => (f_Desk_unmap u um k).1 = r ∧ (r = 0 ∨ r = 1) ∧ cd_MemAt N tt ad w' (q + 1) ((f_Desk_unmap u um k).2) ∧ (∀ k : Nat, (k < (q + 1) ∨ (q + 1) + 14 ≤ k) → w' k = w0 k)) (fun w' t => cd_P D ad N A w' t.heap) A) 0 0 A := by
  refine Met.ofW (cc := b_Desk_unmap) (maxL := 2) (ret := (some .boolean)) (by decide) rfl ?_
  intro p e s m args below meth c s₁ B hml hv
  obtain ⟨rfl, hP, hK, hZ⟩ := hv
  have hx := B.exec
  have hb := B.bytes
  have hr := B.returns
  have hA : ∀ w ∈ cd_AW, w.before _ s = true := fun w h => atoms_spec (ws := w_Desk_unmap) B.pre w (List.mem_cons_of_mem _ h)
  have hown : s.vm.findClass R_Desk = some m.cls := findClass_of_methodNamed B.named
  have hlocks := B.notSynchronized
  have hS : va_S A s.heap s.heap [] := va_S.rf
  have hl := lv_entry ([.ref (ad q), .int k]) (n := 2) (Nat.le_of_ble_eq_true rfl)
  rw [lg_entry_eq]
  generalize (lg_sl ([.ref (ad q), .int k]) ++ List.replicate (2 - (lg_sl ([.ref (ad q), .int k])).length) Slot.unset).toArray = ls at hl ⊢
  have hl : lv_has ls 2 [(0, .ref (ad q)), (1, .int k)] := hl
  have ho : (o_Mem_removeRegion um k) := ho
  obtain ⟨hn1, fa2⟩ := hR0
  refine lv_aload_n hx hb d_Desk_unmap_0 rfl (lv_at hl 0 rfl) ?_
  refine g_get (ci := 6) (C := R_Desk) (T := F_Desk) (Nf := 9) (v := .ref (ad (q + 1))) hx hb hA in_Desk hown hK hP (k := q) (by omega) fa2 rfl 0 (by decide) (hA _ aw_100) (fun _ h9 => h9) rfl d_Desk_unmap_1 ?_
  refine lv_iload_n hx hb d_Desk_unmap_4 rfl (lv_at hl 1 rfl) ?_
  obtain ⟨hn3, fa4, ⟨rf8, fa5, fa6⟩, fa7⟩ := hR1
  refine va_calli (va_runV (As := [.int k]) (rest := []) ⟨hx, hb, hml, hown, hA⟩ (c_Mem_removeRegion l D tt ad N A zs w0 (q + 1) um k (⟨hn3, fa4, ⟨rf8, fa5, fa6⟩, fa7⟩) (ho)) (cwV 1 hA (cd_gV aw_144 aw_145 aw_146 aw_2 aw_147) rfl rfl rfl ⟨rfl, by decide, by decide, by decide +kernel⟩ ⟨Nat.le_of_ble_eq_true rfl, Nat.le_of_ble_eq_true rfl⟩) ⟨cd_blind, cd_recv hK hP (k := (q + 1)) (by omega) fa4 rfl, fun U hU hW => ⟨rfl, cd_pre hK hP hZ hS U hU hW⟩⟩ rfl rfl hl.1 rfl (lv_room (Nat.le_of_ble_eq_true rfl)) d_Desk_unmap_5 ⟨Nat.zero_le _, Nat.zero_le _⟩) hS (fun _ _ h => h) (fun _ h => h) (fun r9 w1 tE H locs ht hvm hr10 hP hz1 hk1 hS => ?_)
  have hP := cd_Pf ht hP
  obtain ⟨rfl, hbo12, at13, e1⟩ := hr10
  have fa14 := (e1 q (by omega)).trans fa2
  have hf15 : (f_Desk_unmap u um k) = ((f_Mem_removeRegion um k).1, (f_Mem_removeRegion um k).2) := by rw [f_Desk_unmap]
  exact W.zret (ty := .boolean) (v := (f_Mem_removeRegion um k).1) hx hb hr (cd_nb hbo12) (fun tE ht _ => ⟨⟨_, w1, rfl, ⟨(by rw [hf15]), hbo12, (by rw [hf15]; exact at13), (fun k hk => (e1 k (by omega)))⟩, cd_Pt ht hP⟩, hS.F ht⟩) hS.2.2 d_Desk_unmap_8
def f_Desk_poke (u : cd_Has) (um : cd_Mem) (k : Int32) (v : Int32) : Int32 × cd_Mem := ((f_Mem_writeByte um k v).1, (f_Mem_writeByte um k v).2)
def o_Desk_poke (u : cd_Has) (um : cd_Mem) (k : Int32) (v : Int32) : Prop := (o_Mem_writeByte um k v)
set_option maxHeartbeats 4000000 in
set_option maxRecDepth 100000 in
theorem c_Desk_poke (l : Launch) (D : va_G) (tt : Nat → ClassId) (ad : Nat → Nat) (N : Nat) (A : Nat → Prop) (zs : Nat → Nat) (w0 : Nat → va_E) (q : Nat) (u : cd_Has) (um : cd_Mem) (k : Int32) (v : Int32) (hR0 : cd_DeskAt N tt ad w0 q u) (hR1 : cd_MemAt N tt ad w0 (q + 1) um) (ho : o_Desk_poke u um k v) : Met l y_Desk_poke w_Desk_poke ({ frames := 3, cells := 0, slots := 0, locals := 66 }) (va_Pc [.ref (ad q), .int k, .int v] (cd_U D tt ad N A zs w0)) (va_Qi (fun r w' => (f_Desk_poke u um k v).1 = r ∧ (r = 0 ∨ r = 1) ∧ cd_MemAt N tt ad w' (q + 1) ((f_Desk_poke u um k v).2) ∧ (∀ k : Nat, (k < (q + 1) ∨ (q + 1) + 14 ≤ k) → w' k = w0 k)) (fun w' t => cd_P D ad N A w' t.heap) A) 0 0 A := by
  refine Met.ofW (cc := b_Desk_poke) (maxL := 3) (ret := (some .boolean)) (by decide) rfl ?_
  intro p e s m args below meth c s₁ B hml hv
  obtain ⟨rfl, hP, hK, hZ⟩ := hv
  have hx := B.exec
  have hb := B.bytes
  have hr := B.returns
  have hA : ∀ w ∈ cd_AW, w.before _ s = true := fun w h => atoms_spec (ws := w_Desk_poke) B.pre w (List.mem_cons_of_mem _ h)
  have hown : s.vm.findClass R_Desk = some m.cls := findClass_of_methodNamed B.named
  have hlocks := B.notSynchronized
  have hS : va_S A s.heap s.heap [] := va_S.rf
  have hl := lv_entry ([.ref (ad q), .int k, .int v]) (n := 3) (Nat.le_of_ble_eq_true rfl)
  rw [lg_entry_eq]
  generalize (lg_sl ([.ref (ad q), .int k, .int v]) ++ List.replicate (3 - (lg_sl ([.ref (ad q), .int k, .int v])).length) Slot.unset).toArray = ls at hl ⊢
  have hl : lv_has ls 3 [(0, .ref (ad q)), (1, .int k), (2, .int v)] := hl
  have ho : (o_Mem_writeByte um k v) := ho
  obtain ⟨hn1, fa2⟩ := hR0
  refine lv_aload_n hx hb d_Desk_poke_0 rfl (lv_at hl 0 rfl) ?_
  refine g_get (ci := 6) (C := R_Desk) (T := F_Desk) (Nf := 9) (v := .ref (ad (q + 1))) hx hb hA in_Desk hown hK hP (k := q) (by omega) fa2 rfl 0 (by decide) (hA _ aw_100) (fun _ h9 => h9) rfl d_Desk_poke_1 ?_
  refine lv_iload_n hx hb d_Desk_poke_4 rfl (lv_at hl 1 rfl) ?_
  refine lv_iload_n hx hb d_Desk_poke_5 rfl (lv_at hl 2 rfl) ?_
  obtain ⟨hn3, fa4, ⟨rf8, fa5, fa6⟩, fa7⟩ := hR1
  refine va_calli (va_runV (As := [.int k, .int v]) (rest := []) ⟨hx, hb, hml, hown, hA⟩ (c_Mem_writeByte l D tt ad N A zs w0 (q + 1) um k v (⟨hn3, fa4, ⟨rf8, fa5, fa6⟩, fa7⟩) (ho)) (cwV 2 hA (cd_gV aw_159 aw_160 aw_161 aw_2 aw_162) rfl rfl rfl ⟨rfl, by decide, by decide, by decide +kernel⟩ ⟨Nat.le_of_ble_eq_true rfl, Nat.le_of_ble_eq_true rfl⟩) ⟨cd_blind, cd_recv hK hP (k := (q + 1)) (by omega) fa4 rfl, fun U hU hW => ⟨rfl, cd_pre hK hP hZ hS U hU hW⟩⟩ rfl rfl hl.1 rfl (lv_room (Nat.le_of_ble_eq_true rfl)) d_Desk_poke_6 ⟨Nat.zero_le _, Nat.zero_le _⟩) hS (fun _ _ h => h) (fun _ h => h) (fun r9 w1 tE H locs ht hvm hr10 hP hz1 hk1 hS => ?_)
  have hP := cd_Pf ht hP
  obtain ⟨rfl, hbo12, at13, e1⟩ := hr10
  have fa14 := (e1 q (by omega)).trans fa2
  have hf15 : (f_Desk_poke u um k v) = ((f_Mem_writeByte um k v).1, (f_Mem_writeByte um k v).2) := by rw [f_Desk_poke]
  exact W.zret (ty := .boolean) (v := (f_Mem_writeByte um k v).1) hx hb hr (cd_nb hbo12) (fun tE ht _ => ⟨⟨_, w1, rfl, ⟨(by rw [hf15]), hbo12, (by rw [hf15]; exact at13), (fun k hk => (e1 k (by omega)))⟩, cd_Pt ht hP⟩, hS.F ht⟩) hS.2.2 d_Desk_poke_9
def f_Desk_pokeFour (u : cd_Has) (um : cd_Mem) (k : Int32) (v : Int32) : Int32 × cd_Mem := ((f_Mem_writeNumber um k v).1, (f_Mem_writeNumber um k v).2)
def o_Desk_pokeFour (u : cd_Has) (um : cd_Mem) (k : Int32) (v : Int32) : Prop := (o_Mem_writeNumber um k v)
set_option maxHeartbeats 4000000 in
set_option maxRecDepth 100000 in
theorem c_Desk_pokeFour (l : Launch) (D : va_G) (tt : Nat → ClassId) (ad : Nat → Nat) (N : Nat) (A : Nat → Prop) (zs : Nat → Nat) (w0 : Nat → va_E) (q : Nat) (u : cd_Has) (um : cd_Mem) (k : Int32) (v : Int32) (hR0 : cd_DeskAt N tt ad w0 q u) (hR1 : cd_MemAt N tt ad w0 (q + 1) um) (ho : o_Desk_pokeFour u um k v) : Met l y_Desk_pokeFour w_Desk_pokeFour ({ frames := 4, cells := 0, slots := 0, locals := 89 }) (va_Pc [.ref (ad q), .int k, .int v] (cd_U D tt ad N A zs w0)) (va_Qi (fun r w' => (f_Desk_pokeFour u um k v).1 = r ∧ (r = 0 ∨ r = 1) ∧ cd_MemAt N tt ad w' (q + 1) ((f_Desk_pokeFour u um k v).2) ∧ (∀ k : Nat, (k < (q + 1) ∨ (q + 1) + 14 ≤ k) → w' k = w0 k)) (fun w' t => cd_P D ad N A w' t.heap) A) 0 0 A := by
  refine Met.ofW (cc := b_Desk_pokeFour) (maxL := 3) (ret := (some .boolean)) (by decide) rfl ?_
  intro p e s m args below meth c s₁ B hml hv
  obtain ⟨rfl, hP, hK, hZ⟩ := hv
  have hx := B.exec
  have hb := B.bytes
  have hr := B.returns
  have hA : ∀ w ∈ cd_AW, w.before _ s = true := fun w h => atoms_spec (ws := w_Desk_pokeFour) B.pre w (List.mem_cons_of_mem _ h)
  have hown : s.vm.findClass R_Desk = some m.cls := findClass_of_methodNamed B.named
  have hlocks := B.notSynchronized
  have hS : va_S A s.heap s.heap [] := va_S.rf
  have hl := lv_entry ([.ref (ad q), .int k, .int v]) (n := 3) (Nat.le_of_ble_eq_true rfl)
  rw [lg_entry_eq]
  generalize (lg_sl ([.ref (ad q), .int k, .int v]) ++ List.replicate (3 - (lg_sl ([.ref (ad q), .int k, .int v])).length) Slot.unset).toArray = ls at hl ⊢
  have hl : lv_has ls 3 [(0, .ref (ad q)), (1, .int k), (2, .int v)] := hl
  have ho : (o_Mem_writeNumber um k v) := ho
  obtain ⟨hn1, fa2⟩ := hR0
  refine lv_aload_n hx hb d_Desk_pokeFour_0 rfl (lv_at hl 0 rfl) ?_
  refine g_get (ci := 6) (C := R_Desk) (T := F_Desk) (Nf := 9) (v := .ref (ad (q + 1))) hx hb hA in_Desk hown hK hP (k := q) (by omega) fa2 rfl 0 (by decide) (hA _ aw_100) (fun _ h9 => h9) rfl d_Desk_pokeFour_1 ?_
  refine lv_iload_n hx hb d_Desk_pokeFour_4 rfl (lv_at hl 1 rfl) ?_
  refine lv_iload_n hx hb d_Desk_pokeFour_5 rfl (lv_at hl 2 rfl) ?_
  obtain ⟨hn3, fa4, ⟨rf8, fa5, fa6⟩, fa7⟩ := hR1
  refine va_calli (va_runV (As := [.int k, .int v]) (rest := []) ⟨hx, hb, hml, hown, hA⟩ (c_Mem_writeNumber l D tt ad N A zs w0 (q + 1) um k v (⟨hn3, fa4, ⟨rf8, fa5, fa6⟩, fa7⟩) (ho)) (cwV 2 hA (cd_gV aw_171 aw_172 aw_173 aw_2 aw_174) rfl rfl rfl ⟨rfl, by decide, by decide, by decide +kernel⟩ ⟨Nat.le_of_ble_eq_true rfl, Nat.le_of_ble_eq_true rfl⟩) ⟨cd_blind, cd_recv hK hP (k := (q + 1)) (by omega) fa4 rfl, fun U hU hW => ⟨rfl, cd_pre hK hP hZ hS U hU hW⟩⟩ rfl rfl hl.1 rfl (lv_room (Nat.le_of_ble_eq_true rfl)) d_Desk_pokeFour_6 ⟨Nat.zero_le _, Nat.zero_le _⟩) hS (fun _ _ h => h) (fun _ h => h) (fun r9 w1 tE H locs ht hvm hr10 hP hz1 hk1 hS => ?_)
  have hP := cd_Pf ht hP
  obtain ⟨rfl, hbo12, at13, e1⟩ := hr10
  have fa14 := (e1 q (by omega)).trans fa2
  have hf15 : (f_Desk_pokeFour u um k v) = ((f_Mem_writeNumber um k v).1, (f_Mem_writeNumber um k v).2) := by rw [f_Desk_pokeFour]
  exact W.zret (ty := .boolean) (v := (f_Mem_writeNumber um k v).1) hx hb hr (cd_nb hbo12) (fun tE ht _ => ⟨⟨_, w1, rfl, ⟨(by rw [hf15]), hbo12, (by rw [hf15]; exact at13), (fun k hk => (e1 k (by omega)))⟩, cd_Pt ht hP⟩, hS.F ht⟩) hS.2.2 d_Desk_pokeFour_9
def f_Desk_thread (u : cd_Has) (ut : cd_Tt) (k : Int32) : Int32 × cd_Tt := ((f_Tt_add ut k).1, (f_Tt_add ut k).2)
def o_Desk_thread (u : cd_Has) (ut : cd_Tt) (k : Int32) : Prop := (o_Tt_add ut k)
set_option maxHeartbeats 4000000 in
set_option maxRecDepth 100000 in
theorem c_Desk_thread (l : Launch) (D : va_G) (tt : Nat → ClassId) (ad : Nat → Nat) (N : Nat) (A : Nat → Prop) (zs : Nat → Nat) (w0 : Nat → va_E) (q : Nat) (u : cd_Has) (ut : cd_Tt) (k : Int32) (hR0 : cd_DeskAt N tt ad w0 q u) (hR1 : cd_TtAt N tt ad w0 (q + 15) ut) (ho : o_Desk_thread u ut k) : Met l y_Desk_thread w_Desk_thread ({ frames := 2, cells := 0, slots := 0, locals := 43 }) (va_Pc [.ref (ad q), .int k] (cd_U D tt ad N A zs w0)) (va_Qi (fun r w' => (f_Desk_thread u ut k).1 = r ∧ cd_TtAt N tt ad w' (q + 15) ((f_Desk_thread u ut k).2) ∧ (∀ k : Nat, (k < (q + 15) ∨ (q + 15) + 3 ≤ k) → w' k = w0 k)) (fun w' t => cd_P D ad N A w' t.heap) A) 0 0 A := by
  refine Met.ofW (cc := b_Desk_thread) (maxL := 2) (ret := (some .int)) (by decide) rfl ?_
  intro p e s m args below meth c s₁ B hml hv
  obtain ⟨rfl, hP, hK, hZ⟩ := hv
  have hx := B.exec
  have hb := B.bytes
  have hr := B.returns
  have hA : ∀ w ∈ cd_AW, w.before _ s = true := fun w h => atoms_spec (ws := w_Desk_thread) B.pre w (List.mem_cons_of_mem _ h)
  have hown : s.vm.findClass R_Desk = some m.cls := findClass_of_methodNamed B.named
  have hlocks := B.notSynchronized
  have hS : va_S A s.heap s.heap [] := va_S.rf
  have hl := lv_entry ([.ref (ad q), .int k]) (n := 2) (Nat.le_of_ble_eq_true rfl)
  rw [lg_entry_eq]
  generalize (lg_sl ([.ref (ad q), .int k]) ++ List.replicate (2 - (lg_sl ([.ref (ad q), .int k])).length) Slot.unset).toArray = ls at hl ⊢
  have hl : lv_has ls 2 [(0, .ref (ad q)), (1, .int k)] := hl
  have ho : (o_Tt_add ut k) := ho
  obtain ⟨hn1, fa2⟩ := hR0
  refine lv_aload_n hx hb d_Desk_thread_0 rfl (lv_at hl 0 rfl) ?_
  refine g_get (ci := 6) (C := R_Desk) (T := F_Desk) (Nf := 9) (v := .ref (ad (q + 15))) hx hb hA in_Desk hown hK hP (k := q) (by omega) fa2 rfl 1 (by decide) (hA _ aw_101) (fun _ h9 => h9) rfl d_Desk_thread_1 ?_
  refine lv_iload_n hx hb d_Desk_thread_4 rfl (lv_at hl 1 rfl) ?_
  obtain ⟨hn3, fa4, fa5, fa6⟩ := hR1
  refine va_calli (va_runV (As := [.int k]) (rest := []) ⟨hx, hb, hml, hown, hA⟩ (c_Tt_add l D tt ad N A zs w0 (q + 15) ut k (⟨hn3, fa4, fa5, fa6⟩) (ho)) (cwV 1 hA (cd_gV aw_184 aw_185 aw_186 aw_4 aw_187) rfl rfl rfl ⟨rfl, by decide, by decide, by decide +kernel⟩ ⟨Nat.le_of_ble_eq_true rfl, Nat.le_of_ble_eq_true rfl⟩) ⟨cd_blind, cd_recv hK hP (k := (q + 15)) (by omega) fa4 rfl, fun U hU hW => ⟨rfl, cd_pre hK hP hZ hS U hU hW⟩⟩ rfl rfl hl.1 rfl (lv_room (Nat.le_of_ble_eq_true rfl)) d_Desk_thread_5 ⟨Nat.zero_le _, Nat.zero_le _⟩) hS (fun _ _ h => h) (fun _ h => h) (fun r7 w1 tE H locs ht hvm hr8 hP hz1 hk1 hS => ?_)
  have hP := cd_Pf ht hP
  obtain ⟨rfl, at10, e1⟩ := hr8
  have fa11 := (e1 q (by omega)).trans fa2
  have hf12 : (f_Desk_thread u ut k) = ((f_Tt_add ut k).1, (f_Tt_add ut k).2) := by rw [f_Desk_thread]
  exact W.iret (v := (f_Tt_add ut k).1) hx hb hr (fun tE ht _ => ⟨⟨_, w1, rfl, ⟨(by rw [hf12]), (by rw [hf12]; exact at10), (fun k hk => (e1 k (by omega)))⟩, cd_Pt ht hP⟩, hS.F ht⟩) hS.2.2 d_Desk_thread_8
def f_Desk_set (u : cd_Has) (ut : cd_Tt) (k : Int32) (x : Int32) (v : Int32) : Int32 × cd_Tt := ((f_Tt_write ut k x v).1, (f_Tt_write ut k x v).2)
def o_Desk_set (u : cd_Has) (ut : cd_Tt) (k : Int32) (x : Int32) (v : Int32) : Prop := (o_Tt_write ut k x v)
set_option maxHeartbeats 4000000 in
set_option maxRecDepth 100000 in
theorem c_Desk_set (l : Launch) (D : va_G) (tt : Nat → ClassId) (ad : Nat → Nat) (N : Nat) (A : Nat → Prop) (zs : Nat → Nat) (w0 : Nat → va_E) (q : Nat) (u : cd_Has) (ut : cd_Tt) (k : Int32) (x : Int32) (v : Int32) (hR0 : cd_DeskAt N tt ad w0 q u) (hR1 : cd_TtAt N tt ad w0 (q + 15) ut) (ho : o_Desk_set u ut k x v) : Met l y_Desk_set w_Desk_set ({ frames := 3, cells := 0, slots := 0, locals := 66 }) (va_Pc [.ref (ad q), .int k, .int x, .int v] (cd_U D tt ad N A zs w0)) (va_Qi (fun r w' => (f_Desk_set u ut k x v).1 = r ∧ (r = 0 ∨ r = 1) ∧ cd_TtAt N tt ad w' (q + 15) ((f_Desk_set u ut k x v).2) ∧ (∀ k : Nat, (k < (q + 15) ∨ (q + 15) + 3 ≤ k) → w' k = w0 k)) (fun w' t => cd_P D ad N A w' t.heap) A) 0 0 A := by
  refine Met.ofW (cc := b_Desk_set) (maxL := 4) (ret := (some .boolean)) (by decide) rfl ?_
  intro p e s m args below meth c s₁ B hml hv
  obtain ⟨rfl, hP, hK, hZ⟩ := hv
  have hx := B.exec
  have hb := B.bytes
  have hr := B.returns
  have hA : ∀ w ∈ cd_AW, w.before _ s = true := fun w h => atoms_spec (ws := w_Desk_set) B.pre w (List.mem_cons_of_mem _ h)
  have hown : s.vm.findClass R_Desk = some m.cls := findClass_of_methodNamed B.named
  have hlocks := B.notSynchronized
  have hS : va_S A s.heap s.heap [] := va_S.rf
  have hl := lv_entry ([.ref (ad q), .int k, .int x, .int v]) (n := 4) (Nat.le_of_ble_eq_true rfl)
  rw [lg_entry_eq]
  generalize (lg_sl ([.ref (ad q), .int k, .int x, .int v]) ++ List.replicate (4 - (lg_sl ([.ref (ad q), .int k, .int x, .int v])).length) Slot.unset).toArray = ls at hl ⊢
  have hl : lv_has ls 4 [(0, .ref (ad q)), (1, .int k), (2, .int x), (3, .int v)] := hl
  have ho : (o_Tt_write ut k x v) := ho
  obtain ⟨hn1, fa2⟩ := hR0
  refine lv_aload_n hx hb d_Desk_set_0 rfl (lv_at hl 0 rfl) ?_
  refine g_get (ci := 6) (C := R_Desk) (T := F_Desk) (Nf := 9) (v := .ref (ad (q + 15))) hx hb hA in_Desk hown hK hP (k := q) (by omega) fa2 rfl 1 (by decide) (hA _ aw_101) (fun _ h9 => h9) rfl d_Desk_set_1 ?_
  refine lv_iload_n hx hb d_Desk_set_4 rfl (lv_at hl 1 rfl) ?_
  refine lv_iload_n hx hb d_Desk_set_5 rfl (lv_at hl 2 rfl) ?_
  refine lv_iload_n hx hb d_Desk_set_6 rfl (lv_at hl 3 rfl) ?_
  obtain ⟨hn3, fa4, fa5, fa6⟩ := hR1
  refine va_calli (va_runV (As := [.int k, .int x, .int v]) (rest := []) ⟨hx, hb, hml, hown, hA⟩ (c_Tt_write l D tt ad N A zs w0 (q + 15) ut k x v (⟨hn3, fa4, fa5, fa6⟩) (ho)) (cwV 3 hA (cd_gV aw_196 aw_197 aw_198 aw_4 aw_199) rfl rfl rfl ⟨rfl, by decide, by decide, by decide +kernel⟩ ⟨Nat.le_of_ble_eq_true rfl, Nat.le_of_ble_eq_true rfl⟩) ⟨cd_blind, cd_recv hK hP (k := (q + 15)) (by omega) fa4 rfl, fun U hU hW => ⟨rfl, cd_pre hK hP hZ hS U hU hW⟩⟩ rfl rfl hl.1 rfl (lv_room (Nat.le_of_ble_eq_true rfl)) d_Desk_set_7 ⟨Nat.zero_le _, Nat.zero_le _⟩) hS (fun _ _ h => h) (fun _ h => h) (fun r7 w1 tE H locs ht hvm hr8 hP hz1 hk1 hS => ?_)
  have hP := cd_Pf ht hP
  obtain ⟨rfl, hbo10, at11, e1⟩ := hr8
  have fa12 := (e1 q (by omega)).trans fa2
  have hf13 : (f_Desk_set u ut k x v) = ((f_Tt_write ut k x v).1, (f_Tt_write ut k x v).2) := by rw [f_Desk_set]
  exact W.zret (ty := .boolean) (v := (f_Tt_write ut k x v).1) hx hb hr (cd_nb hbo10) (fun tE ht _ => ⟨⟨_, w1, rfl, ⟨(by rw [hf13]), hbo10, (by rw [hf13]; exact at11), (fun k hk => (e1 k (by omega)))⟩, cd_Pt ht hP⟩, hS.F ht⟩) hS.2.2 d_Desk_set_10
def f_Desk_dump (u : cd_Has) (um : cd_Mem) (ut : cd_Tt) (uf : cd_Row) : Int32 × cd_Row := ((f_Row_length 6588 (f_Fw_writeFile 6588 uf um ut)), (f_Fw_writeFile 6588 uf um ut))
def o_Desk_dump (u : cd_Has) (um : cd_Mem) (ut : cd_Tt) (uf : cd_Row) : Prop := (o_Fw_writeFile 6588 uf um ut)
set_option maxHeartbeats 4000000 in
set_option maxRecDepth 100000 in
theorem c_Desk_dump (l : Launch) (D : va_G) (tt : Nat → ClassId) (ad : Nat → Nat) (N : Nat) (A : Nat → Prop) (zs : Nat → Nat) (w0 : Nat → va_E) (q : Nat) (u : cd_Has) (um : cd_Mem) (ut : cd_Tt) (uf : cd_Row) (hR0 : cd_DeskAt N tt ad w0 q u) (hR1 : cd_MemAt N tt ad w0 (q + 1) um) (hR2 : cd_TtAt N tt ad w0 (q + 15) ut) (hR3 : cd_RowAt N tt ad w0 (q + 18) 6588 uf) (hR4 : cd_FwAt N tt ad w0 (q + 20) (q + 18) (q + 1) (q + 15)) (ho : o_Desk_dump u um ut uf) : Met l y_Desk_dump w_Desk_dump ({ frames := 6, cells := 0, slots := 0, locals := 136 }) (va_Pc [.ref (ad q)] (cd_U D tt ad N A zs w0)) (va_Qi (fun r w' => (f_Desk_dump u um ut uf).1 = r ∧ cd_RowAt N tt ad w' (q + 18) 6588 ((f_Desk_dump u um ut uf).2) ∧ (∀ k : Nat, (k < (q + 18) ∨ (q + 18) + 2 ≤ k) → w' k = w0 k)) (fun w' t => cd_P D ad N A w' t.heap) A) 0 0 A := by
  refine Met.ofW (cc := b_Desk_dump) (maxL := 1) (ret := (some .int)) (by decide) rfl ?_
  intro p e s m args below meth c s₁ B hml hv
  obtain ⟨rfl, hP, hK, hZ⟩ := hv
  have hx := B.exec
  have hb := B.bytes
  have hr := B.returns
  have hA : ∀ w ∈ cd_AW, w.before _ s = true := fun w h => atoms_spec (ws := w_Desk_dump) B.pre w (List.mem_cons_of_mem _ h)
  have hown : s.vm.findClass R_Desk = some m.cls := findClass_of_methodNamed B.named
  have hlocks := B.notSynchronized
  have hS : va_S A s.heap s.heap [] := va_S.rf
  have hl := lv_entry ([.ref (ad q)]) (n := 1) (Nat.le_of_ble_eq_true rfl)
  rw [lg_entry_eq]
  generalize (lg_sl ([.ref (ad q)]) ++ List.replicate (1 - (lg_sl ([.ref (ad q)])).length) Slot.unset).toArray = ls at hl ⊢
  have hl : lv_has ls 1 [(0, .ref (ad q))] := hl
  have ho : (o_Fw_writeFile 6588 uf um ut) := ho
  obtain ⟨hn1, fa2⟩ := hR0
  refine lv_aload_n hx hb d_Desk_dump_0 rfl (lv_at hl 0 rfl) ?_
  refine g_get (ci := 6) (C := R_Desk) (T := F_Desk) (Nf := 9) (v := .ref (ad (q + 20))) hx hb hA in_Desk hown hK hP (k := q) (by omega) fa2 rfl 3 (by decide) (hA _ aw_103) (fun _ h9 => h9) rfl d_Desk_dump_1 ?_
  obtain ⟨hn3, fa4⟩ := hR4
  refine va_callv (va_runV (As := []) (rest := []) ⟨hx, hb, hml, hown, hA⟩ (c_Fw_writeFile l D tt ad N A zs w0 (q + 20) (q + 18) (q + 1) (q + 15) 6588 uf um ut (⟨hn3, fa4⟩) hR3 hR1 hR2 (by omega) (by omega) (by omega) (ho)) (cwV 0 hA (cd_gV aw_211 aw_212 aw_213 aw_6 aw_214) rfl rfl rfl ⟨rfl, by decide, by decide, by decide +kernel⟩ ⟨Nat.le_of_ble_eq_true rfl, Nat.le_of_ble_eq_true rfl⟩) ⟨cd_blind, cd_recv hK hP (k := (q + 20)) (by omega) fa4 rfl, fun U hU hW => ⟨rfl, cd_pre hK hP hZ hS U hU hW⟩⟩ rfl rfl hl.1 rfl (lv_room (Nat.le_of_ble_eq_true rfl)) d_Desk_dump_4 ⟨Nat.zero_le _, Nat.zero_le _⟩) hS (fun _ _ h => h) (fun _ h => h) (fun w1 tE H locs ht hvm hr6 hP hz1 hk1 hS => ?_)
  have hP := cd_Pf ht hP
  obtain ⟨at8, e1⟩ := hr6
  have fa9 := (e1 q (by omega)).trans fa2
  have at10 := cd_MemAt_keep hR1 (fun k h1 h2 => e1 k (by omega))
  have at11 := cd_TtAt_keep hR2 (fun k h1 h2 => e1 k (by omega))
  have fa12 := (e1 (q + 20) (by omega)).trans fa4
  refine lv_aload_n hx hb d_Desk_dump_7 rfl (lv_at hl 0 rfl) ?_
  refine g_get (ci := 6) (C := R_Desk) (T := F_Desk) (Nf := 9) (v := .ref (ad (q + 18))) hx hb hA in_Desk hown hK hP (k := q) (by omega) fa9 rfl 2 (by decide) (hA _ aw_102) (fun _ h9 => h9) rfl d_Desk_dump_8 ?_
  obtain ⟨hn13, fa14, fa15⟩ := at8
  refine va_calli (va_runV (As := []) (rest := []) ⟨hx, hb, hml, hown, hA⟩ (c_Row_length l D tt ad N A zs w1 (q + 18) 6588 (f_Fw_writeFile 6588 uf um ut) (⟨hn13, fa14, fa15⟩)) (cwV 0 hA (cd_gV aw_284 aw_285 aw_286 aw_5 aw_287) rfl rfl rfl ⟨rfl, by decide, by decide, by decide +kernel⟩ ⟨Nat.le_of_ble_eq_true rfl, Nat.le_of_ble_eq_true rfl⟩) ⟨cd_blind, cd_recv hK hP (k := (q + 18)) (by omega) fa14 rfl, fun U hU hW => ⟨rfl, cd_pre hK hP hZ hS U hU hW⟩⟩ rfl rfl hl.1 rfl (lv_room (Nat.le_of_ble_eq_true rfl)) d_Desk_dump_11 ⟨Nat.zero_le _, Nat.zero_le _⟩) hS (fun _ _ h => h) (fun _ h => h) (fun r16 w2 tE H locs ht hvm hr17 hP hz1 hk1 hS => ?_)
  have hP := cd_Pf ht hP
  obtain ⟨rfl, rfl⟩ := hr17
  have hf19 : (f_Desk_dump u um ut uf) = ((f_Row_length 6588 (f_Fw_writeFile 6588 uf um ut)), (f_Fw_writeFile 6588 uf um ut)) := by rw [f_Desk_dump]
  exact W.iret (v := (f_Row_length 6588 (f_Fw_writeFile 6588 uf um ut))) hx hb hr (fun tE ht _ => ⟨⟨_, w1, rfl, ⟨(by rw [hf19]), (by rw [hf19]; exact ⟨hn13, fa14, fa15⟩), (fun k hk => (e1 k (by omega)))⟩, cd_Pt ht hP⟩, hS.F ht⟩) hS.2.2 d_Desk_dump_14
def f_Desk_byteAt (u : cd_Has) (uf : cd_Row) (k : Int32) : Int32 := (f_Row_at 6588 uf k)
def o_Desk_byteAt (u : cd_Has) (uf : cd_Row) (k : Int32) : Prop := (o_Row_at 6588 uf k)
set_option maxHeartbeats 4000000 in
set_option maxRecDepth 100000 in
theorem c_Desk_byteAt (l : Launch) (D : va_G) (tt : Nat → ClassId) (ad : Nat → Nat) (N : Nat) (A : Nat → Prop) (zs : Nat → Nat) (w0 : Nat → va_E) (q : Nat) (u : cd_Has) (uf : cd_Row) (k : Int32) (hR0 : cd_DeskAt N tt ad w0 q u) (hR1 : cd_RowAt N tt ad w0 (q + 18) 6588 uf) (ho : o_Desk_byteAt u uf k) : Met l y_Desk_byteAt w_Desk_byteAt ({ frames := 1, cells := 0, slots := 0, locals := 21 }) (va_Pc [.ref (ad q), .int k] (cd_U D tt ad N A zs w0)) (va_Qi (fun r w' => (f_Desk_byteAt u uf k) = r ∧ w0 = w') (fun w' t => cd_P D ad N A w' t.heap) A) 0 0 A := by
  refine Met.ofW (cc := b_Desk_byteAt) (maxL := 2) (ret := (some .int)) (by decide) rfl ?_
  intro p e s m args below meth c s₁ B hml hv
  obtain ⟨rfl, hP, hK, hZ⟩ := hv
  have hx := B.exec
  have hb := B.bytes
  have hr := B.returns
  have hA : ∀ w ∈ cd_AW, w.before _ s = true := fun w h => atoms_spec (ws := w_Desk_byteAt) B.pre w (List.mem_cons_of_mem _ h)
  have hown : s.vm.findClass R_Desk = some m.cls := findClass_of_methodNamed B.named
  have hlocks := B.notSynchronized
  have hS : va_S A s.heap s.heap [] := va_S.rf
  have hl := lv_entry ([.ref (ad q), .int k]) (n := 2) (Nat.le_of_ble_eq_true rfl)
  rw [lg_entry_eq]
  generalize (lg_sl ([.ref (ad q), .int k]) ++ List.replicate (2 - (lg_sl ([.ref (ad q), .int k])).length) Slot.unset).toArray = ls at hl ⊢
  have hl : lv_has ls 2 [(0, .ref (ad q)), (1, .int k)] := hl
  have ho : (o_Row_at 6588 uf k) := ho
  obtain ⟨hn1, fa2⟩ := hR0
  refine lv_aload_n hx hb d_Desk_byteAt_0 rfl (lv_at hl 0 rfl) ?_
  refine g_get (ci := 6) (C := R_Desk) (T := F_Desk) (Nf := 9) (v := .ref (ad (q + 18))) hx hb hA in_Desk hown hK hP (k := q) (by omega) fa2 rfl 2 (by decide) (hA _ aw_102) (fun _ h9 => h9) rfl d_Desk_byteAt_1 ?_
  refine lv_iload_n hx hb d_Desk_byteAt_4 rfl (lv_at hl 1 rfl) ?_
  obtain ⟨hn3, fa4, fa5⟩ := hR1
  refine va_calli (va_runV (As := [.int k]) (rest := []) ⟨hx, hb, hml, hown, hA⟩ (c_Row_at l D tt ad N A zs w0 (q + 18) 6588 uf k (⟨hn3, fa4, fa5⟩) (ho)) (cwV 1 hA (cd_gV aw_292 aw_293 aw_294 aw_5 aw_295) rfl rfl rfl ⟨rfl, by decide, by decide, by decide +kernel⟩ ⟨Nat.le_of_ble_eq_true rfl, Nat.le_of_ble_eq_true rfl⟩) ⟨cd_blind, cd_recv hK hP (k := (q + 18)) (by omega) fa4 rfl, fun U hU hW => ⟨rfl, cd_pre hK hP hZ hS U hU hW⟩⟩ rfl rfl hl.1 rfl (lv_room (Nat.le_of_ble_eq_true rfl)) d_Desk_byteAt_5 ⟨Nat.zero_le _, Nat.zero_le _⟩) hS (fun _ _ h => h) (fun _ h => h) (fun r6 w1 tE H locs ht hvm hr7 hP hz1 hk1 hS => ?_)
  have hP := cd_Pf ht hP
  obtain ⟨rfl, rfl⟩ := hr7
  have hf9 : (f_Desk_byteAt u uf k) = (f_Row_at 6588 uf k) := by rw [f_Desk_byteAt]
  exact W.iret (v := (f_Row_at 6588 uf k)) hx hb hr (fun tE ht _ => ⟨⟨_, w0, rfl, ⟨hf9, rfl⟩, cd_Pt ht hP⟩, hS.F ht⟩) hS.2.2 d_Desk_byteAt_8
def f_Desk_copy (u : cd_Has) (uf : cd_Row) (up : cd_Row) : Int32 × cd_Row := ((f_Row_length 8192 (f_Row_become 8192 up 6588 uf)), (f_Row_become 8192 up 6588 uf))
def o_Desk_copy (u : cd_Has) (uf : cd_Row) (up : cd_Row) : Prop := (o_Row_become 8192 up 6588 uf)
set_option maxHeartbeats 4000000 in
set_option maxRecDepth 100000 in
theorem c_Desk_copy (l : Launch) (D : va_G) (tt : Nat → ClassId) (ad : Nat → Nat) (N : Nat) (A : Nat → Prop) (zs : Nat → Nat) (w0 : Nat → va_E) (q : Nat) (u : cd_Has) (uf : cd_Row) (up : cd_Row) (hR0 : cd_DeskAt N tt ad w0 q u) (hR1 : cd_RowAt N tt ad w0 (q + 18) 6588 uf) (hR2 : cd_RowAt N tt ad w0 (q + 21) 8192 up) (ho : o_Desk_copy u uf up) : Met l y_Desk_copy w_Desk_copy ({ frames := 3, cells := 0, slots := 0, locals := 103 }) (va_Pc [.ref (ad q)] (cd_U D tt ad N A zs w0)) (va_Qi (fun r w' => (f_Desk_copy u uf up).1 = r ∧ cd_RowAt N tt ad w' (q + 21) 8192 ((f_Desk_copy u uf up).2) ∧ (∀ k : Nat, (k < (q + 21) ∨ (q + 21) + 2 ≤ k) → w' k = w0 k)) (fun w' t => cd_P D ad N A w' t.heap) A) 0 0 A := by
  refine Met.ofW (cc := b_Desk_copy) (maxL := 1) (ret := (some .int)) (by decide) rfl ?_
  intro p e s m args below meth c s₁ B hml hv
  obtain ⟨rfl, hP, hK, hZ⟩ := hv
  have hx := B.exec
  have hb := B.bytes
  have hr := B.returns
  have hA : ∀ w ∈ cd_AW, w.before _ s = true := fun w h => atoms_spec (ws := w_Desk_copy) B.pre w (List.mem_cons_of_mem _ h)
  have hown : s.vm.findClass R_Desk = some m.cls := findClass_of_methodNamed B.named
  have hlocks := B.notSynchronized
  have hS : va_S A s.heap s.heap [] := va_S.rf
  have hl := lv_entry ([.ref (ad q)]) (n := 1) (Nat.le_of_ble_eq_true rfl)
  rw [lg_entry_eq]
  generalize (lg_sl ([.ref (ad q)]) ++ List.replicate (1 - (lg_sl ([.ref (ad q)])).length) Slot.unset).toArray = ls at hl ⊢
  have hl : lv_has ls 1 [(0, .ref (ad q))] := hl
  have ho : (o_Row_become 8192 up 6588 uf) := ho
  obtain ⟨hn1, fa2⟩ := hR0
  refine lv_aload_n hx hb d_Desk_copy_0 rfl (lv_at hl 0 rfl) ?_
  refine g_get (ci := 6) (C := R_Desk) (T := F_Desk) (Nf := 9) (v := .ref (ad (q + 21))) hx hb hA in_Desk hown hK hP (k := q) (by omega) fa2 rfl 4 (by decide) (hA _ aw_104) (fun _ h9 => h9) rfl d_Desk_copy_1 ?_
  refine lv_aload_n hx hb d_Desk_copy_4 rfl (lv_at hl 0 rfl) ?_
  refine g_get (ci := 6) (C := R_Desk) (T := F_Desk) (Nf := 9) (v := .ref (ad (q + 18))) hx hb hA in_Desk hown hK hP (k := q) (by omega) fa2 rfl 2 (by decide) (hA _ aw_102) (fun _ h9 => h9) rfl d_Desk_copy_5 ?_
  obtain ⟨hn3, fa4, fa5⟩ := hR2
  refine va_callv (va_runV (As := [.ref (ad (q + 18))]) (rest := []) ⟨hx, hb, hml, hown, hA⟩ (c_Row_become l D tt ad N A zs w0 (q + 21) 8192 up (q + 18) 6588 uf (⟨hn3, fa4, fa5⟩) hR1 (by omega) (ho)) (cwV 1 hA (cd_gV aw_300 aw_301 aw_302 aw_5 aw_303) rfl rfl rfl ⟨rfl, by decide, by decide, by decide +kernel⟩ ⟨Nat.le_of_ble_eq_true rfl, Nat.le_of_ble_eq_true rfl⟩) ⟨cd_blind, cd_recv hK hP (k := (q + 21)) (by omega) fa4 rfl, fun U hU hW => ⟨rfl, cd_pre hK hP hZ hS U hU hW⟩⟩ rfl rfl hl.1 rfl (lv_room (Nat.le_of_ble_eq_true rfl)) d_Desk_copy_8 ⟨Nat.zero_le _, Nat.zero_le _⟩) hS (fun _ _ h => h) (fun _ h => h) (fun w1 tE H locs ht hvm hr7 hP hz1 hk1 hS => ?_)
  have hP := cd_Pf ht hP
  obtain ⟨at9, e1⟩ := hr7
  have fa10 := (e1 q (by omega)).trans fa2
  have at11 := cd_RowAt_keep hR1 (fun k h1 h2 => e1 k (by omega))
  refine lv_aload_n hx hb d_Desk_copy_11 rfl (lv_at hl 0 rfl) ?_
  refine g_get (ci := 6) (C := R_Desk) (T := F_Desk) (Nf := 9) (v := .ref (ad (q + 21))) hx hb hA in_Desk hown hK hP (k := q) (by omega) fa10 rfl 4 (by decide) (hA _ aw_104) (fun _ h9 => h9) rfl d_Desk_copy_12 ?_
  obtain ⟨hn12, fa13, fa14⟩ := at9
  refine va_calli (va_runV (As := []) (rest := []) ⟨hx, hb, hml, hown, hA⟩ (c_Row_length l D tt ad N A zs w1 (q + 21) 8192 (f_Row_become 8192 up 6588 uf) (⟨hn12, fa13, fa14⟩)) (cwV 0 hA (cd_gV aw_284 aw_285 aw_286 aw_5 aw_287) rfl rfl rfl ⟨rfl, by decide, by decide, by decide +kernel⟩ ⟨Nat.le_of_ble_eq_true rfl, Nat.le_of_ble_eq_true rfl⟩) ⟨cd_blind, cd_recv hK hP (k := (q + 21)) (by omega) fa13 rfl, fun U hU hW => ⟨rfl, cd_pre hK hP hZ hS U hU hW⟩⟩ rfl rfl hl.1 rfl (lv_room (Nat.le_of_ble_eq_true rfl)) d_Desk_copy_15 ⟨Nat.zero_le _, Nat.zero_le _⟩) hS (fun _ _ h => h) (fun _ h => h) (fun r15 w2 tE H locs ht hvm hr16 hP hz1 hk1 hS => ?_)
  have hP := cd_Pf ht hP
  obtain ⟨rfl, rfl⟩ := hr16
  have hf18 : (f_Desk_copy u uf up) = ((f_Row_length 8192 (f_Row_become 8192 up 6588 uf)), (f_Row_become 8192 up 6588 uf)) := by rw [f_Desk_copy]
  exact W.iret (v := (f_Row_length 8192 (f_Row_become 8192 up 6588 uf))) hx hb hr (fun tE ht _ => ⟨⟨_, w1, rfl, ⟨(by rw [hf18]), (by rw [hf18]; exact ⟨hn12, fa13, fa14⟩), (fun k hk => (e1 k (by omega)))⟩, cd_Pt ht hP⟩, hS.F ht⟩) hS.2.2 d_Desk_copy_18
def f_Desk_put (u : cd_Has) (up : cd_Row) (k : Int32) (v : Int32) : Int32 × cd_Row := (if k = (f_Row_length 8192 up) then ((f_Row_append 8192 up v).1, (f_Row_append 8192 up v).2) else ((f_Row_change 8192 up k v).1, (f_Row_change 8192 up k v).2))
def o_Desk_put (u : cd_Has) (up : cd_Row) (k : Int32) (v : Int32) : Prop := (¬ k = (f_Row_length 8192 up) → o_Row_change 8192 up k v) ∧ (k = (f_Row_length 8192 up) → o_Row_append 8192 up v)
set_option maxHeartbeats 4000000 in
set_option maxRecDepth 100000 in
theorem c_Desk_put (l : Launch) (D : va_G) (tt : Nat → ClassId) (ad : Nat → Nat) (N : Nat) (A : Nat → Prop) (zs : Nat → Nat) (w0 : Nat → va_E) (q : Nat) (u : cd_Has) (up : cd_Row) (k : Int32) (v : Int32) (hR0 : cd_DeskAt N tt ad w0 q u) (hR1 : cd_RowAt N tt ad w0 (q + 21) 8192 up) (ho : o_Desk_put u up k v) : Met l y_Desk_put w_Desk_put ({ frames := 1, cells := 0, slots := 0, locals := 22 }) (va_Pc [.ref (ad q), .int k, .int v] (cd_U D tt ad N A zs w0)) (va_Qi (fun r w' => (f_Desk_put u up k v).1 = r ∧ (r = 0 ∨ r = 1) ∧ cd_RowAt N tt ad w' (q + 21) 8192 ((f_Desk_put u up k v).2) ∧ (∀ k : Nat, (k < (q + 21) ∨ (q + 21) + 2 ≤ k) → w' k = w0 k)) (fun w' t => cd_P D ad N A w' t.heap) A) 0 0 A := by
  refine Met.ofW (cc := b_Desk_put) (maxL := 3) (ret := (some .boolean)) (by decide) rfl ?_
  intro p e s m args below meth c s₁ B hml hv
  obtain ⟨rfl, hP, hK, hZ⟩ := hv
  have hx := B.exec
  have hb := B.bytes
  have hr := B.returns
  have hA : ∀ w ∈ cd_AW, w.before _ s = true := fun w h => atoms_spec (ws := w_Desk_put) B.pre w (List.mem_cons_of_mem _ h)
  have hown : s.vm.findClass R_Desk = some m.cls := findClass_of_methodNamed B.named
  have hlocks := B.notSynchronized
  have hS : va_S A s.heap s.heap [] := va_S.rf
  have hl := lv_entry ([.ref (ad q), .int k, .int v]) (n := 3) (Nat.le_of_ble_eq_true rfl)
  rw [lg_entry_eq]
  generalize (lg_sl ([.ref (ad q), .int k, .int v]) ++ List.replicate (3 - (lg_sl ([.ref (ad q), .int k, .int v])).length) Slot.unset).toArray = ls at hl ⊢
  have hl : lv_has ls 3 [(0, .ref (ad q)), (1, .int k), (2, .int v)] := hl
  have ho : (¬ k = (f_Row_length 8192 up) → o_Row_change 8192 up k v) ∧ (k = (f_Row_length 8192 up) → o_Row_append 8192 up v) := ho
  obtain ⟨hn1, fa2⟩ := hR0
  refine lv_iload_n hx hb d_Desk_put_0 rfl (lv_at hl 1 rfl) ?_
  refine lv_aload_n hx hb d_Desk_put_1 rfl (lv_at hl 0 rfl) ?_
  refine g_get (ci := 6) (C := R_Desk) (T := F_Desk) (Nf := 9) (v := .ref (ad (q + 21))) hx hb hA in_Desk hown hK hP (k := q) (by omega) fa2 rfl 4 (by decide) (hA _ aw_104) (fun _ h9 => h9) rfl d_Desk_put_2 ?_
  obtain ⟨hn3, fa4, fa5⟩ := hR1
  refine va_calli (va_runV (As := []) (rest := [.int k]) ⟨hx, hb, hml, hown, hA⟩ (c_Row_length l D tt ad N A zs w0 (q + 21) 8192 up (⟨hn3, fa4, fa5⟩)) (cwV 0 hA (cd_gV aw_284 aw_285 aw_286 aw_5 aw_287) rfl rfl rfl ⟨rfl, by decide, by decide, by decide +kernel⟩ ⟨Nat.le_of_ble_eq_true rfl, Nat.le_of_ble_eq_true rfl⟩) ⟨cd_blind, cd_recv hK hP (k := (q + 21)) (by omega) fa4 rfl, fun U hU hW => ⟨rfl, cd_pre hK hP hZ hS U hU hW⟩⟩ rfl rfl hl.1 rfl (lv_room (Nat.le_of_ble_eq_true rfl)) d_Desk_put_5 ⟨Nat.zero_le _, Nat.zero_le _⟩) hS (fun _ _ h => h) (fun _ h => h) (fun r6 w1 tE H locs ht hvm hr7 hP hz1 hk1 hS => ?_)
  have hP := cd_Pf ht hP
  obtain ⟨rfl, rfl⟩ := hr7
  refine lv_icmp_ne (tgt := 22) hx hb d_Desk_put_8 (by decide) (fun hc9 => ?_) (fun hc9 => ?_)
  · refine lv_aload_n hx hb d_Desk_put_22 rfl (lv_at hl 0 rfl) ?_
    refine g_get (ci := 6) (C := R_Desk) (T := F_Desk) (Nf := 9) (v := .ref (ad (q + 21))) hx hb hA in_Desk hown hK hP (k := q) (by omega) fa2 rfl 4 (by decide) (hA _ aw_104) (fun _ h9 => h9) rfl d_Desk_put_23 ?_
    refine lv_iload_n hx hb d_Desk_put_26 rfl (lv_at hl 1 rfl) ?_
    refine lv_iload_n hx hb d_Desk_put_27 rfl (lv_at hl 2 rfl) ?_
    refine va_calli (va_runV (As := [.int k, .int v]) (rest := []) ⟨hx, hb, hml, hown, hA⟩ (c_Row_change l D tt ad N A zs w0 (q + 21) 8192 up k v (⟨hn3, fa4, fa5⟩) (ho.1 hc9)) (cwV 2 hA (cd_gV aw_310 aw_311 aw_312 aw_5 aw_313) rfl rfl rfl ⟨rfl, by decide, by decide, by decide +kernel⟩ ⟨Nat.le_of_ble_eq_true rfl, Nat.le_of_ble_eq_true rfl⟩) ⟨cd_blind, cd_recv hK hP (k := (q + 21)) (by omega) fa4 rfl, fun U hU hW => ⟨rfl, cd_pre hK hP hZ hS U hU hW⟩⟩ rfl rfl hl.1 rfl (lv_room (Nat.le_of_ble_eq_true rfl)) d_Desk_put_28 ⟨Nat.zero_le _, Nat.zero_le _⟩) hS (fun _ _ h => h) (fun _ h => h) (fun r10 w2 tE H locs ht hvm hr11 hP hz1 hk1 hS => ?_)
    have hP := cd_Pf ht hP
    obtain ⟨rfl, hbo13, at14, e2⟩ := hr11
    have fa15 := (e2 q (by omega)).trans fa2
    have hf16 : (f_Desk_put u up k v) = ((f_Row_change 8192 up k v).1, (f_Row_change 8192 up k v).2) := by rw [f_Desk_put, if_neg hc9]
    exact W.zret (ty := .boolean) (v := (f_Row_change 8192 up k v).1) hx hb hr (cd_nb hbo13) (fun tE ht _ => ⟨⟨_, w2, rfl, ⟨(by rw [hf16]), hbo13, (by rw [hf16]; exact at14), (fun k hk => (e2 k (by omega)))⟩, cd_Pt ht hP⟩, hS.F ht⟩) hS.2.2 d_Desk_put_31
  · refine lv_aload_n hx hb d_Desk_put_11 rfl (lv_at hl 0 rfl) ?_
    refine g_get (ci := 6) (C := R_Desk) (T := F_Desk) (Nf := 9) (v := .ref (ad (q + 21))) hx hb hA in_Desk hown hK hP (k := q) (by omega) fa2 rfl 4 (by decide) (hA _ aw_104) (fun _ h9 => h9) rfl d_Desk_put_12 ?_
    refine lv_iload_n hx hb d_Desk_put_15 rfl (lv_at hl 2 rfl) ?_
    refine va_calli (va_runV (As := [.int v]) (rest := []) ⟨hx, hb, hml, hown, hA⟩ (c_Row_append l D tt ad N A zs w0 (q + 21) 8192 up v (⟨hn3, fa4, fa5⟩) (ho.2 hc9)) (cwV 1 hA (cd_gV aw_309 aw_234 aw_235 aw_5 aw_236) rfl rfl rfl ⟨rfl, by decide, by decide, by decide +kernel⟩ ⟨Nat.le_of_ble_eq_true rfl, Nat.le_of_ble_eq_true rfl⟩) ⟨cd_blind, cd_recv hK hP (k := (q + 21)) (by omega) fa4 rfl, fun U hU hW => ⟨rfl, cd_pre hK hP hZ hS U hU hW⟩⟩ rfl rfl hl.1 rfl (lv_room (Nat.le_of_ble_eq_true rfl)) d_Desk_put_16 ⟨Nat.zero_le _, Nat.zero_le _⟩) hS (fun _ _ h => h) (fun _ h => h) (fun r17 w3 tE H locs ht hvm hr18 hP hz1 hk1 hS => ?_)
    have hP := cd_Pf ht hP
    obtain ⟨rfl, hbo20, at21, e3⟩ := hr18
    have fa22 := (e3 q (by omega)).trans fa2
    refine lv_goto (tgt := 31) hx hb d_Desk_put_19 (by decide) ?_
    have hf23 : (f_Desk_put u up k v) = ((f_Row_append 8192 up v).1, (f_Row_append 8192 up v).2) := by rw [f_Desk_put, if_pos hc9]
    exact W.zret (ty := .boolean) (v := (f_Row_append 8192 up v).1) hx hb hr (cd_nb hbo20) (fun tE ht _ => ⟨⟨_, w3, rfl, ⟨(by rw [hf23]), hbo20, (by rw [hf23]; exact at21), (fun k hk => (e3 k (by omega)))⟩, cd_Pt ht hP⟩, hS.F ht⟩) hS.2.2 d_Desk_put_31
def f_Desk_cut (u : cd_Has) (up : cd_Row) (k : Int32) : Int32 × cd_Row := ((f_Row_shorten 8192 up k).1, (f_Row_shorten 8192 up k).2)
set_option maxHeartbeats 4000000 in
set_option maxRecDepth 100000 in
theorem c_Desk_cut (l : Launch) (D : va_G) (tt : Nat → ClassId) (ad : Nat → Nat) (N : Nat) (A : Nat → Prop) (zs : Nat → Nat) (w0 : Nat → va_E) (q : Nat) (u : cd_Has) (up : cd_Row) (k : Int32) (hR0 : cd_DeskAt N tt ad w0 q u) (hR1 : cd_RowAt N tt ad w0 (q + 21) 8192 up) : Met l y_Desk_cut w_Desk_cut ({ frames := 1, cells := 0, slots := 0, locals := 21 }) (va_Pc [.ref (ad q), .int k] (cd_U D tt ad N A zs w0)) (va_Qi (fun r w' => (f_Desk_cut u up k).1 = r ∧ (r = 0 ∨ r = 1) ∧ cd_RowAt N tt ad w' (q + 21) 8192 ((f_Desk_cut u up k).2) ∧ (∀ k : Nat, (k < (q + 21) ∨ (q + 21) + 2 ≤ k) → w' k = w0 k)) (fun w' t => cd_P D ad N A w' t.heap) A) 0 0 A := by
  refine Met.ofW (cc := b_Desk_cut) (maxL := 2) (ret := (some .boolean)) (by decide) rfl ?_
  intro p e s m args below meth c s₁ B hml hv
  obtain ⟨rfl, hP, hK, hZ⟩ := hv
  have hx := B.exec
  have hb := B.bytes
  have hr := B.returns
  have hA : ∀ w ∈ cd_AW, w.before _ s = true := fun w h => atoms_spec (ws := w_Desk_cut) B.pre w (List.mem_cons_of_mem _ h)
  have hown : s.vm.findClass R_Desk = some m.cls := findClass_of_methodNamed B.named
  have hlocks := B.notSynchronized
  have hS : va_S A s.heap s.heap [] := va_S.rf
  have hl := lv_entry ([.ref (ad q), .int k]) (n := 2) (Nat.le_of_ble_eq_true rfl)
  rw [lg_entry_eq]
  generalize (lg_sl ([.ref (ad q), .int k]) ++ List.replicate (2 - (lg_sl ([.ref (ad q), .int k])).length) Slot.unset).toArray = ls at hl ⊢
  have hl : lv_has ls 2 [(0, .ref (ad q)), (1, .int k)] := hl
  obtain ⟨hn1, fa2⟩ := hR0
  refine lv_aload_n hx hb d_Desk_cut_0 rfl (lv_at hl 0 rfl) ?_
  refine g_get (ci := 6) (C := R_Desk) (T := F_Desk) (Nf := 9) (v := .ref (ad (q + 21))) hx hb hA in_Desk hown hK hP (k := q) (by omega) fa2 rfl 4 (by decide) (hA _ aw_104) (fun _ h9 => h9) rfl d_Desk_cut_1 ?_
  refine lv_iload_n hx hb d_Desk_cut_4 rfl (lv_at hl 1 rfl) ?_
  obtain ⟨hn3, fa4, fa5⟩ := hR1
  refine va_calli (va_runV (As := [.int k]) (rest := []) ⟨hx, hb, hml, hown, hA⟩ (c_Row_shorten l D tt ad N A zs w0 (q + 21) 8192 up k (⟨hn3, fa4, fa5⟩)) (cwV 1 hA (cd_gV aw_318 aw_216 aw_217 aw_5 aw_218) rfl rfl rfl ⟨rfl, by decide, by decide, by decide +kernel⟩ ⟨Nat.le_of_ble_eq_true rfl, Nat.le_of_ble_eq_true rfl⟩) ⟨cd_blind, cd_recv hK hP (k := (q + 21)) (by omega) fa4 rfl, fun U hU hW => ⟨rfl, cd_pre hK hP hZ hS U hU hW⟩⟩ rfl rfl hl.1 rfl (lv_room (Nat.le_of_ble_eq_true rfl)) d_Desk_cut_5 ⟨Nat.zero_le _, Nat.zero_le _⟩) hS (fun _ _ h => h) (fun _ h => h) (fun r6 w1 tE H locs ht hvm hr7 hP hz1 hk1 hS => ?_)
  have hP := cd_Pf ht hP
  obtain ⟨rfl, hbo9, at10, e1⟩ := hr7
  have fa11 := (e1 q (by omega)).trans fa2
  have hf12 : (f_Desk_cut u up k) = ((f_Row_shorten 8192 up k).1, (f_Row_shorten 8192 up k).2) := by rw [f_Desk_cut]
  exact W.zret (ty := .boolean) (v := (f_Row_shorten 8192 up k).1) hx hb hr (cd_nb hbo9) (fun tE ht _ => ⟨⟨_, w1, rfl, ⟨(by rw [hf12]), hbo9, (by rw [hf12]; exact at10), (fun k hk => (e1 k (by omega)))⟩, cd_Pt ht hP⟩, hS.F ht⟩) hS.2.2 d_Desk_cut_8
def f_Desk_error (u : cd_Has) (uc : cd_Tc) (k : Int32) : Int32 := (if k = 0 then (f_Tc_wrong uc) else (if k = (1 : Int32) then (f_Tc_place uc) else (0 : Int32)))
set_option maxHeartbeats 4000000 in
set_option maxRecDepth 100000 in
theorem c_Desk_error (l : Launch) (D : va_G) (tt : Nat → ClassId) (ad : Nat → Nat) (N : Nat) (A : Nat → Prop) (zs : Nat → Nat) (w0 : Nat → va_E) (q : Nat) (u : cd_Has) (uc : cd_Tc) (k : Int32) (hR0 : cd_DeskAt N tt ad w0 q u) (hR1 : cd_TcAt N tt ad w0 (q + 23) (q + 21) uc) : Met l y_Desk_error w_Desk_error ({ frames := 1, cells := 0, slots := 0, locals := 20 }) (va_Pc [.ref (ad q), .int k] (cd_U D tt ad N A zs w0)) (va_Qi (fun r w' => (f_Desk_error u uc k) = r ∧ w0 = w') (fun w' t => cd_P D ad N A w' t.heap) A) 0 0 A := by
  refine Met.ofW (cc := b_Desk_error) (maxL := 2) (ret := (some .int)) (by decide) rfl ?_
  intro p e s m args below meth c s₁ B hml hv
  obtain ⟨rfl, hP, hK, hZ⟩ := hv
  have hx := B.exec
  have hb := B.bytes
  have hr := B.returns
  have hA : ∀ w ∈ cd_AW, w.before _ s = true := fun w h => atoms_spec (ws := w_Desk_error) B.pre w (List.mem_cons_of_mem _ h)
  have hown : s.vm.findClass R_Desk = some m.cls := findClass_of_methodNamed B.named
  have hlocks := B.notSynchronized
  have hS : va_S A s.heap s.heap [] := va_S.rf
  have hl := lv_entry ([.ref (ad q), .int k]) (n := 2) (Nat.le_of_ble_eq_true rfl)
  rw [lg_entry_eq]
  generalize (lg_sl ([.ref (ad q), .int k]) ++ List.replicate (2 - (lg_sl ([.ref (ad q), .int k])).length) Slot.unset).toArray = ls at hl ⊢
  have hl : lv_has ls 2 [(0, .ref (ad q)), (1, .int k)] := hl
  obtain ⟨hn1, fa2⟩ := hR0
  refine lv_iload_n hx hb d_Desk_error_0 rfl (lv_at hl 1 rfl) ?_
  refine lv_if_ne (tgt := 12) hx hb d_Desk_error_1 (by decide) (fun hc3 => ?_) (fun hc3 => ?_)
  · refine lv_iload_n hx hb d_Desk_error_12 rfl (lv_at hl 1 rfl) ?_
    refine lv_iconst (v := (1 : Int32)) hx hb d_Desk_error_13 (by decide) ?_
    refine lv_icmp_ne (tgt := 27) hx hb d_Desk_error_14 (by decide) (fun hc4 => ?_) (fun hc4 => ?_)
    · refine lv_iconst (v := (0 : Int32)) hx hb d_Desk_error_27 (by decide) ?_
      have hf5 : (f_Desk_error u uc k) = (0 : Int32) := by rw [f_Desk_error, if_neg hc3, if_neg hc4]
      exact W.iret (v := (0 : Int32)) hx hb hr (fun tE ht _ => ⟨⟨_, w0, rfl, ⟨hf5, rfl⟩, cd_Pt ht hP⟩, hS.F ht⟩) hS.2.2 d_Desk_error_28
    · refine lv_aload_n hx hb d_Desk_error_17 rfl (lv_at hl 0 rfl) ?_
      refine g_get (ci := 6) (C := R_Desk) (T := F_Desk) (Nf := 9) (v := .ref (ad (q + 23))) hx hb hA in_Desk hown hK hP (k := q) (by omega) fa2 rfl 5 (by decide) (hA _ aw_105) (fun _ h9 => h9) rfl d_Desk_error_18 ?_
      obtain ⟨hn6, fa7⟩ := hR1
      refine va_calli (va_runV (As := []) (rest := []) ⟨hx, hb, hml, hown, hA⟩ (c_Tc_place l D tt ad N A zs w0 (q + 23) (q + 21) uc (⟨hn6, fa7⟩)) (cwV 0 hA (cd_gV aw_327 aw_328 aw_329 aw_7 aw_330) rfl rfl rfl ⟨rfl, by decide, by decide, by decide +kernel⟩ ⟨Nat.le_of_ble_eq_true rfl, Nat.le_of_ble_eq_true rfl⟩) ⟨cd_blind, cd_recv hK hP (k := (q + 23)) (by omega) fa7 rfl, fun U hU hW => ⟨rfl, cd_pre hK hP hZ hS U hU hW⟩⟩ rfl rfl hl.1 rfl (lv_room (Nat.le_of_ble_eq_true rfl)) d_Desk_error_21 ⟨Nat.zero_le _, Nat.zero_le _⟩) hS (fun _ _ h => h) (fun _ h => h) (fun r8 w1 tE H locs ht hvm hr9 hP hz1 hk1 hS => ?_)
      have hP := cd_Pf ht hP
      obtain ⟨rfl, rfl⟩ := hr9
      refine lv_goto (tgt := 28) hx hb d_Desk_error_24 (by decide) ?_
      have hf11 : (f_Desk_error u uc k) = (f_Tc_place uc) := by rw [f_Desk_error, if_neg hc3, if_pos hc4]
      exact W.iret (v := (f_Tc_place uc)) hx hb hr (fun tE ht _ => ⟨⟨_, w0, rfl, ⟨hf11, rfl⟩, cd_Pt ht hP⟩, hS.F ht⟩) hS.2.2 d_Desk_error_28
  · refine lv_aload_n hx hb d_Desk_error_4 rfl (lv_at hl 0 rfl) ?_
    refine g_get (ci := 6) (C := R_Desk) (T := F_Desk) (Nf := 9) (v := .ref (ad (q + 23))) hx hb hA in_Desk hown hK hP (k := q) (by omega) fa2 rfl 5 (by decide) (hA _ aw_105) (fun _ h9 => h9) rfl d_Desk_error_5 ?_
    obtain ⟨hn12, fa13⟩ := hR1
    refine va_calli (va_runV (As := []) (rest := []) ⟨hx, hb, hml, hown, hA⟩ (c_Tc_wrong l D tt ad N A zs w0 (q + 23) (q + 21) uc (⟨hn12, fa13⟩)) (cwV 0 hA (cd_gV aw_323 aw_324 aw_325 aw_7 aw_326) rfl rfl rfl ⟨rfl, by decide, by decide, by decide +kernel⟩ ⟨Nat.le_of_ble_eq_true rfl, Nat.le_of_ble_eq_true rfl⟩) ⟨cd_blind, cd_recv hK hP (k := (q + 23)) (by omega) fa13 rfl, fun U hU hW => ⟨rfl, cd_pre hK hP hZ hS U hU hW⟩⟩ rfl rfl hl.1 rfl (lv_room (Nat.le_of_ble_eq_true rfl)) d_Desk_error_8 ⟨Nat.zero_le _, Nat.zero_le _⟩) hS (fun _ _ h => h) (fun _ h => h) (fun r14 w2 tE H locs ht hvm hr15 hP hz1 hk1 hS => ?_)
    have hP := cd_Pf ht hP
    obtain ⟨rfl, rfl⟩ := hr15
    have hf17 : (f_Desk_error u uc k) = (f_Tc_wrong uc) := by rw [f_Desk_error, if_pos hc3]
    exact W.iret (v := (f_Tc_wrong uc)) hx hb hr (fun tE ht _ => ⟨⟨_, w0, rfl, ⟨hf17, rfl⟩, cd_Pt ht hP⟩, hS.F ht⟩) hS.2.2 d_Desk_error_11
def f_Desk_core (u : cd_Has) (vm : cd_Mem) (vt : cd_Tt) (k : Int32) : Int32 := (if u = 0 then (-1 : Int32) else (if k = 0 then (f_Mem_count vm) else (if k = (1 : Int32) then (f_Tt_count vt) else (-1 : Int32))))
set_option maxHeartbeats 4000000 in
set_option maxRecDepth 100000 in
theorem c_Desk_core (l : Launch) (D : va_G) (tt : Nat → ClassId) (ad : Nat → Nat) (N : Nat) (A : Nat → Prop) (zs : Nat → Nat) (w0 : Nat → va_E) (q : Nat) (u : cd_Has) (vm : cd_Mem) (vt : cd_Tt) (k : Int32) (hR0 : cd_DeskAt N tt ad w0 q u) (hR1 : cd_MemAt N tt ad w0 (q + 27) vm) (hR2 : cd_TtAt N tt ad w0 (q + 41) vt) : Met l y_Desk_core w_Desk_core ({ frames := 1, cells := 0, slots := 0, locals := 20 }) (va_Pc [.ref (ad q), .int k] (cd_U D tt ad N A zs w0)) (va_Qi (fun r w' => (f_Desk_core u vm vt k) = r ∧ w0 = w') (fun w' t => cd_P D ad N A w' t.heap) A) 0 0 A := by
  refine Met.ofW (cc := b_Desk_core) (maxL := 2) (ret := (some .int)) (by decide) rfl ?_
  intro p e s m args below meth c s₁ B hml hv
  obtain ⟨rfl, hP, hK, hZ⟩ := hv
  have hx := B.exec
  have hb := B.bytes
  have hr := B.returns
  have hA : ∀ w ∈ cd_AW, w.before _ s = true := fun w h => atoms_spec (ws := w_Desk_core) B.pre w (List.mem_cons_of_mem _ h)
  have hown : s.vm.findClass R_Desk = some m.cls := findClass_of_methodNamed B.named
  have hlocks := B.notSynchronized
  have hS : va_S A s.heap s.heap [] := va_S.rf
  have hl := lv_entry ([.ref (ad q), .int k]) (n := 2) (Nat.le_of_ble_eq_true rfl)
  rw [lg_entry_eq]
  generalize (lg_sl ([.ref (ad q), .int k]) ++ List.replicate (2 - (lg_sl ([.ref (ad q), .int k])).length) Slot.unset).toArray = ls at hl ⊢
  have hl : lv_has ls 2 [(0, .ref (ad q)), (1, .int k)] := hl
  obtain ⟨hn1, fa2⟩ := hR0
  refine lv_aload_n hx hb d_Desk_core_0 rfl (lv_at hl 0 rfl) ?_
  refine g_get (ci := 6) (C := R_Desk) (T := F_Desk) (Nf := 9) (v := .int u) hx hb hA in_Desk hown hK hP (k := q) (by omega) fa2 rfl 8 (by decide) (hA _ aw_108) (fun _ h9 => h9) rfl d_Desk_core_1 ?_
  refine lv_if_ne (tgt := 9) hx hb d_Desk_core_4 (by decide) (fun hc3 => ?_) (fun hc3 => ?_)
  · refine lv_iload_n hx hb d_Desk_core_9 rfl (lv_at hl 1 rfl) ?_
    refine lv_if_ne (tgt := 21) hx hb d_Desk_core_10 (by decide) (fun hc4 => ?_) (fun hc4 => ?_)
    · refine lv_iload_n hx hb d_Desk_core_21 rfl (lv_at hl 1 rfl) ?_
      refine lv_iconst (v := (1 : Int32)) hx hb d_Desk_core_22 (by decide) ?_
      refine lv_icmp_ne (tgt := 36) hx hb d_Desk_core_23 (by decide) (fun hc5 => ?_) (fun hc5 => ?_)
      · refine lv_iconst (v := (-1 : Int32)) hx hb d_Desk_core_36 (by decide) ?_
        have hf6 : (f_Desk_core u vm vt k) = (-1 : Int32) := by rw [f_Desk_core, if_neg hc3, if_neg hc4, if_neg hc5]
        exact W.iret (v := (-1 : Int32)) hx hb hr (fun tE ht _ => ⟨⟨_, w0, rfl, ⟨hf6, rfl⟩, cd_Pt ht hP⟩, hS.F ht⟩) hS.2.2 d_Desk_core_37
      · refine lv_aload_n hx hb d_Desk_core_26 rfl (lv_at hl 0 rfl) ?_
        refine g_get (ci := 6) (C := R_Desk) (T := F_Desk) (Nf := 9) (v := .ref (ad (q + 41))) hx hb hA in_Desk hown hK hP (k := q) (by omega) fa2 rfl 7 (by decide) (hA _ aw_107) (fun _ h9 => h9) rfl d_Desk_core_27 ?_
        obtain ⟨hn7, fa8, fa9, fa10⟩ := hR2
        refine va_calli (va_runV (As := []) (rest := []) ⟨hx, hb, hml, hown, hA⟩ (c_Tt_count l D tt ad N A zs w0 (q + 41) vt (⟨hn7, fa8, fa9, fa10⟩)) (cwV 0 hA (cd_gV aw_336 aw_241 aw_242 aw_4 aw_243) rfl rfl rfl ⟨rfl, by decide, by decide, by decide +kernel⟩ ⟨Nat.le_of_ble_eq_true rfl, Nat.le_of_ble_eq_true rfl⟩) ⟨cd_blind, cd_recv hK hP (k := (q + 41)) (by omega) fa8 rfl, fun U hU hW => ⟨rfl, cd_pre hK hP hZ hS U hU hW⟩⟩ rfl rfl hl.1 rfl (lv_room (Nat.le_of_ble_eq_true rfl)) d_Desk_core_30 ⟨Nat.zero_le _, Nat.zero_le _⟩) hS (fun _ _ h => h) (fun _ h => h) (fun r11 w1 tE H locs ht hvm hr12 hP hz1 hk1 hS => ?_)
        have hP := cd_Pf ht hP
        obtain ⟨rfl, rfl⟩ := hr12
        refine lv_goto (tgt := 37) hx hb d_Desk_core_33 (by decide) ?_
        have hf14 : (f_Desk_core u vm vt k) = (f_Tt_count vt) := by rw [f_Desk_core, if_neg hc3, if_neg hc4, if_pos hc5]
        exact W.iret (v := (f_Tt_count vt)) hx hb hr (fun tE ht _ => ⟨⟨_, w0, rfl, ⟨hf14, rfl⟩, cd_Pt ht hP⟩, hS.F ht⟩) hS.2.2 d_Desk_core_37
    · refine lv_aload_n hx hb d_Desk_core_13 rfl (lv_at hl 0 rfl) ?_
      refine g_get (ci := 6) (C := R_Desk) (T := F_Desk) (Nf := 9) (v := .ref (ad (q + 27))) hx hb hA in_Desk hown hK hP (k := q) (by omega) fa2 rfl 6 (by decide) (hA _ aw_106) (fun _ h9 => h9) rfl d_Desk_core_14 ?_
      obtain ⟨hn15, fa16, ⟨rf20, fa17, fa18⟩, fa19⟩ := hR1
      refine va_calli (va_runV (As := []) (rest := []) ⟨hx, hb, hml, hown, hA⟩ (c_Mem_count l D tt ad N A zs w0 (q + 27) vm (⟨hn15, fa16, ⟨rf20, fa17, fa18⟩, fa19⟩)) (cwV 0 hA (cd_gV aw_335 aw_226 aw_227 aw_2 aw_228) rfl rfl rfl ⟨rfl, by decide, by decide, by decide +kernel⟩ ⟨Nat.le_of_ble_eq_true rfl, Nat.le_of_ble_eq_true rfl⟩) ⟨cd_blind, cd_recv hK hP (k := (q + 27)) (by omega) fa16 rfl, fun U hU hW => ⟨rfl, cd_pre hK hP hZ hS U hU hW⟩⟩ rfl rfl hl.1 rfl (lv_room (Nat.le_of_ble_eq_true rfl)) d_Desk_core_17 ⟨Nat.zero_le _, Nat.zero_le _⟩) hS (fun _ _ h => h) (fun _ h => h) (fun r21 w2 tE H locs ht hvm hr22 hP hz1 hk1 hS => ?_)
      have hP := cd_Pf ht hP
      obtain ⟨rfl, rfl⟩ := hr22
      have hf24 : (f_Desk_core u vm vt k) = (f_Mem_count vm) := by rw [f_Desk_core, if_neg hc3, if_pos hc4]
      exact W.iret (v := (f_Mem_count vm)) hx hb hr (fun tE ht _ => ⟨⟨_, w0, rfl, ⟨hf24, rfl⟩, cd_Pt ht hP⟩, hS.F ht⟩) hS.2.2 d_Desk_core_20
  · refine lv_iconst (v := (-1 : Int32)) hx hb d_Desk_core_7 (by decide) ?_
    have hf25 : (f_Desk_core u vm vt k) = (-1 : Int32) := by rw [f_Desk_core, if_pos hc3]
    exact W.iret (v := (-1 : Int32)) hx hb hr (fun tE ht _ => ⟨⟨_, w0, rfl, ⟨hf25, rfl⟩, cd_Pt ht hP⟩, hS.F ht⟩) hS.2.2 d_Desk_core_8
def f_Desk_peek (u : cd_Has) (vm : cd_Mem) (k : Int32) : Int32 := (f_Mem_readByte vm k)
def o_Desk_peek (u : cd_Has) (vm : cd_Mem) (k : Int32) : Prop := (o_Mem_readByte vm k)
set_option maxHeartbeats 4000000 in
set_option maxRecDepth 100000 in
theorem c_Desk_peek (l : Launch) (D : va_G) (tt : Nat → ClassId) (ad : Nat → Nat) (N : Nat) (A : Nat → Prop) (zs : Nat → Nat) (w0 : Nat → va_E) (q : Nat) (u : cd_Has) (vm : cd_Mem) (k : Int32) (hR0 : cd_DeskAt N tt ad w0 q u) (hR1 : cd_MemAt N tt ad w0 (q + 27) vm) (ho : o_Desk_peek u vm k) : Met l y_Desk_peek w_Desk_peek ({ frames := 3, cells := 0, slots := 0, locals := 65 }) (va_Pc [.ref (ad q), .int k] (cd_U D tt ad N A zs w0)) (va_Qi (fun r w' => (f_Desk_peek u vm k) = r ∧ w0 = w') (fun w' t => cd_P D ad N A w' t.heap) A) 0 0 A := by
  refine Met.ofW (cc := b_Desk_peek) (maxL := 2) (ret := (some .int)) (by decide) rfl ?_
  intro p e s m args below meth c s₁ B hml hv
  obtain ⟨rfl, hP, hK, hZ⟩ := hv
  have hx := B.exec
  have hb := B.bytes
  have hr := B.returns
  have hA : ∀ w ∈ cd_AW, w.before _ s = true := fun w h => atoms_spec (ws := w_Desk_peek) B.pre w (List.mem_cons_of_mem _ h)
  have hown : s.vm.findClass R_Desk = some m.cls := findClass_of_methodNamed B.named
  have hlocks := B.notSynchronized
  have hS : va_S A s.heap s.heap [] := va_S.rf
  have hl := lv_entry ([.ref (ad q), .int k]) (n := 2) (Nat.le_of_ble_eq_true rfl)
  rw [lg_entry_eq]
  generalize (lg_sl ([.ref (ad q), .int k]) ++ List.replicate (2 - (lg_sl ([.ref (ad q), .int k])).length) Slot.unset).toArray = ls at hl ⊢
  have hl : lv_has ls 2 [(0, .ref (ad q)), (1, .int k)] := hl
  have ho : (o_Mem_readByte vm k) := ho
  obtain ⟨hn1, fa2⟩ := hR0
  refine lv_aload_n hx hb d_Desk_peek_0 rfl (lv_at hl 0 rfl) ?_
  refine g_get (ci := 6) (C := R_Desk) (T := F_Desk) (Nf := 9) (v := .ref (ad (q + 27))) hx hb hA in_Desk hown hK hP (k := q) (by omega) fa2 rfl 6 (by decide) (hA _ aw_106) (fun _ h9 => h9) rfl d_Desk_peek_1 ?_
  refine lv_iload_n hx hb d_Desk_peek_4 rfl (lv_at hl 1 rfl) ?_
  obtain ⟨hn3, fa4, ⟨rf8, fa5, fa6⟩, fa7⟩ := hR1
  refine va_calli (va_runV (As := [.int k]) (rest := []) ⟨hx, hb, hml, hown, hA⟩ (c_Mem_readByte l D tt ad N A zs w0 (q + 27) vm k (⟨hn3, fa4, ⟨rf8, fa5, fa6⟩, fa7⟩) (ho)) (cwV 1 hA (cd_gV aw_341 aw_342 aw_343 aw_2 aw_344) rfl rfl rfl ⟨rfl, by decide, by decide, by decide +kernel⟩ ⟨Nat.le_of_ble_eq_true rfl, Nat.le_of_ble_eq_true rfl⟩) ⟨cd_blind, cd_recv hK hP (k := (q + 27)) (by omega) fa4 rfl, fun U hU hW => ⟨rfl, cd_pre hK hP hZ hS U hU hW⟩⟩ rfl rfl hl.1 rfl (lv_room (Nat.le_of_ble_eq_true rfl)) d_Desk_peek_5 ⟨Nat.zero_le _, Nat.zero_le _⟩) hS (fun _ _ h => h) (fun _ h => h) (fun r9 w1 tE H locs ht hvm hr10 hP hz1 hk1 hS => ?_)
  have hP := cd_Pf ht hP
  obtain ⟨rfl, rfl⟩ := hr10
  have hf12 : (f_Desk_peek u vm k) = (f_Mem_readByte vm k) := by rw [f_Desk_peek]
  exact W.iret (v := (f_Mem_readByte vm k)) hx hb hr (fun tE ht _ => ⟨⟨_, w0, rfl, ⟨hf12, rfl⟩, cd_Pt ht hP⟩, hS.F ht⟩) hS.2.2 d_Desk_peek_8
def f_Desk_flags (u : cd_Has) (vm : cd_Mem) (k : Int32) : Int32 := (f_Mem_flagsAt vm k)
def o_Desk_flags (u : cd_Has) (vm : cd_Mem) (k : Int32) : Prop := (o_Mem_flagsAt vm k)
set_option maxHeartbeats 4000000 in
set_option maxRecDepth 100000 in
theorem c_Desk_flags (l : Launch) (D : va_G) (tt : Nat → ClassId) (ad : Nat → Nat) (N : Nat) (A : Nat → Prop) (zs : Nat → Nat) (w0 : Nat → va_E) (q : Nat) (u : cd_Has) (vm : cd_Mem) (k : Int32) (hR0 : cd_DeskAt N tt ad w0 q u) (hR1 : cd_MemAt N tt ad w0 (q + 27) vm) (ho : o_Desk_flags u vm k) : Met l y_Desk_flags w_Desk_flags ({ frames := 3, cells := 0, slots := 0, locals := 65 }) (va_Pc [.ref (ad q), .int k] (cd_U D tt ad N A zs w0)) (va_Qi (fun r w' => (f_Desk_flags u vm k) = r ∧ w0 = w') (fun w' t => cd_P D ad N A w' t.heap) A) 0 0 A := by
  refine Met.ofW (cc := b_Desk_flags) (maxL := 2) (ret := (some .int)) (by decide) rfl ?_
  intro p e s m args below meth c s₁ B hml hv
  obtain ⟨rfl, hP, hK, hZ⟩ := hv
  have hx := B.exec
  have hb := B.bytes
  have hr := B.returns
  have hA : ∀ w ∈ cd_AW, w.before _ s = true := fun w h => atoms_spec (ws := w_Desk_flags) B.pre w (List.mem_cons_of_mem _ h)
  have hown : s.vm.findClass R_Desk = some m.cls := findClass_of_methodNamed B.named
  have hlocks := B.notSynchronized
  have hS : va_S A s.heap s.heap [] := va_S.rf
  have hl := lv_entry ([.ref (ad q), .int k]) (n := 2) (Nat.le_of_ble_eq_true rfl)
  rw [lg_entry_eq]
  generalize (lg_sl ([.ref (ad q), .int k]) ++ List.replicate (2 - (lg_sl ([.ref (ad q), .int k])).length) Slot.unset).toArray = ls at hl ⊢
  have hl : lv_has ls 2 [(0, .ref (ad q)), (1, .int k)] := hl
  have ho : (o_Mem_flagsAt vm k) := ho
  obtain ⟨hn1, fa2⟩ := hR0
  refine lv_aload_n hx hb d_Desk_flags_0 rfl (lv_at hl 0 rfl) ?_
  refine g_get (ci := 6) (C := R_Desk) (T := F_Desk) (Nf := 9) (v := .ref (ad (q + 27))) hx hb hA in_Desk hown hK hP (k := q) (by omega) fa2 rfl 6 (by decide) (hA _ aw_106) (fun _ h9 => h9) rfl d_Desk_flags_1 ?_
  refine lv_iload_n hx hb d_Desk_flags_4 rfl (lv_at hl 1 rfl) ?_
  obtain ⟨hn3, fa4, ⟨rf8, fa5, fa6⟩, fa7⟩ := hR1
  refine va_calli (va_runV (As := [.int k]) (rest := []) ⟨hx, hb, hml, hown, hA⟩ (c_Mem_flagsAt l D tt ad N A zs w0 (q + 27) vm k (⟨hn3, fa4, ⟨rf8, fa5, fa6⟩, fa7⟩) (ho)) (cwV 1 hA (cd_gV aw_350 aw_351 aw_352 aw_2 aw_353) rfl rfl rfl ⟨rfl, by decide, by decide, by decide +kernel⟩ ⟨Nat.le_of_ble_eq_true rfl, Nat.le_of_ble_eq_true rfl⟩) ⟨cd_blind, cd_recv hK hP (k := (q + 27)) (by omega) fa4 rfl, fun U hU hW => ⟨rfl, cd_pre hK hP hZ hS U hU hW⟩⟩ rfl rfl hl.1 rfl (lv_room (Nat.le_of_ble_eq_true rfl)) d_Desk_flags_5 ⟨Nat.zero_le _, Nat.zero_le _⟩) hS (fun _ _ h => h) (fun _ h => h) (fun r9 w1 tE H locs ht hvm hr10 hP hz1 hk1 hS => ?_)
  have hP := cd_Pf ht hP
  obtain ⟨rfl, rfl⟩ := hr10
  have hf12 : (f_Desk_flags u vm k) = (f_Mem_flagsAt vm k) := by rw [f_Desk_flags]
  exact W.iret (v := (f_Mem_flagsAt vm k)) hx hb hr (fun tE ht _ => ⟨⟨_, w0, rfl, ⟨hf12, rfl⟩, cd_Pt ht hP⟩, hS.F ht⟩) hS.2.2 d_Desk_flags_8
def f_Desk_find (u : cd_Has) (vm : cd_Mem) (v : Int32) (x : Int32) : Int32 := (f_Mem_search vm v x)
def o_Desk_find (u : cd_Has) (vm : cd_Mem) (v : Int32) (x : Int32) : Prop := (o_Mem_search vm v x)
set_option maxHeartbeats 4000000 in
set_option maxRecDepth 100000 in
theorem c_Desk_find (l : Launch) (D : va_G) (tt : Nat → ClassId) (ad : Nat → Nat) (N : Nat) (A : Nat → Prop) (zs : Nat → Nat) (w0 : Nat → va_E) (q : Nat) (u : cd_Has) (vm : cd_Mem) (v : Int32) (x : Int32) (hR0 : cd_DeskAt N tt ad w0 q u) (hR1 : cd_MemAt N tt ad w0 (q + 27) vm) (ho : o_Desk_find u vm v x) : Met l y_Desk_find w_Desk_find ({ frames := 4, cells := 0, slots := 0, locals := 90 }) (va_Pc [.ref (ad q), .int v, .int x] (cd_U D tt ad N A zs w0)) (va_Qi (fun r w' => (f_Desk_find u vm v x) = r ∧ w0 = w') (fun w' t => cd_P D ad N A w' t.heap) A) 0 0 A := by
  refine Met.ofW (cc := b_Desk_find) (maxL := 3) (ret := (some .int)) (by decide) rfl ?_
  intro p e s m args below meth c s₁ B hml hv
  obtain ⟨rfl, hP, hK, hZ⟩ := hv
  have hx := B.exec
  have hb := B.bytes
  have hr := B.returns
  have hA : ∀ w ∈ cd_AW, w.before _ s = true := fun w h => atoms_spec (ws := w_Desk_find) B.pre w (List.mem_cons_of_mem _ h)
  have hown : s.vm.findClass R_Desk = some m.cls := findClass_of_methodNamed B.named
  have hlocks := B.notSynchronized
  have hS : va_S A s.heap s.heap [] := va_S.rf
  have hl := lv_entry ([.ref (ad q), .int v, .int x]) (n := 3) (Nat.le_of_ble_eq_true rfl)
  rw [lg_entry_eq]
  generalize (lg_sl ([.ref (ad q), .int v, .int x]) ++ List.replicate (3 - (lg_sl ([.ref (ad q), .int v, .int x])).length) Slot.unset).toArray = ls at hl ⊢
  have hl : lv_has ls 3 [(0, .ref (ad q)), (1, .int v), (2, .int x)] := hl
  have ho : (o_Mem_search vm v x) := ho
  obtain ⟨hn1, fa2⟩ := hR0
  refine lv_aload_n hx hb d_Desk_find_0 rfl (lv_at hl 0 rfl) ?_
  refine g_get (ci := 6) (C := R_Desk) (T := F_Desk) (Nf := 9) (v := .ref (ad (q + 27))) hx hb hA in_Desk hown hK hP (k := q) (by omega) fa2 rfl 6 (by decide) (hA _ aw_106) (fun _ h9 => h9) rfl d_Desk_find_1 ?_
  refine lv_iload_n hx hb d_Desk_find_4 rfl (lv_at hl 1 rfl) ?_
  refine lv_iload_n hx hb d_Desk_find_5 rfl (lv_at hl 2 rfl) ?_
  obtain ⟨hn3, fa4, ⟨rf8, fa5, fa6⟩, fa7⟩ := hR1
  refine va_calli (va_runV (As := [.int v, .int x]) (rest := []) ⟨hx, hb, hml, hown, hA⟩ (c_Mem_search l D tt ad N A zs w0 (q + 27) vm v x (⟨hn3, fa4, ⟨rf8, fa5, fa6⟩, fa7⟩) (ho)) (cwV 2 hA (cd_gV aw_358 aw_359 aw_360 aw_2 aw_361) rfl rfl rfl ⟨rfl, by decide, by decide, by decide +kernel⟩ ⟨Nat.le_of_ble_eq_true rfl, Nat.le_of_ble_eq_true rfl⟩) ⟨cd_blind, cd_recv hK hP (k := (q + 27)) (by omega) fa4 rfl, fun U hU hW => ⟨rfl, cd_pre hK hP hZ hS U hU hW⟩⟩ rfl rfl hl.1 rfl (lv_room (Nat.le_of_ble_eq_true rfl)) d_Desk_find_6 ⟨Nat.zero_le _, Nat.zero_le _⟩) hS (fun _ _ h => h) (fun _ h => h) (fun r9 w1 tE H locs ht hvm hr10 hP hz1 hk1 hS => ?_)
  have hP := cd_Pf ht hP
  obtain ⟨rfl, rfl⟩ := hr10
  have hf12 : (f_Desk_find u vm v x) = (f_Mem_search vm v x) := by rw [f_Desk_find]
  exact W.iret (v := (f_Mem_search vm v x)) hx hb hr (fun tE ht _ => ⟨⟨_, w0, rfl, ⟨hf12, rfl⟩, cd_Pt ht hP⟩, hS.F ht⟩) hS.2.2 d_Desk_find_9
def f_Desk_isFrame (u : cd_Has) (vm : cd_Mem) (k : Int32) (x : Int32) : Int32 := (if k ≤ x then (0 : Int32) else (if (f_Mem_holds vm k (8 : Int32)) = 0 then (0 : Int32) else (1 : Int32)))
def o_Desk_isFrame (u : cd_Has) (vm : cd_Mem) (k : Int32) (x : Int32) : Prop := (¬ k ≤ x → o_Mem_holds vm k (8 : Int32))
set_option maxHeartbeats 4000000 in
set_option maxRecDepth 100000 in
theorem c_Desk_isFrame (l : Launch) (D : va_G) (tt : Nat → ClassId) (ad : Nat → Nat) (N : Nat) (A : Nat → Prop) (zs : Nat → Nat) (w0 : Nat → va_E) (q : Nat) (u : cd_Has) (vm : cd_Mem) (k : Int32) (x : Int32) (hR0 : cd_DeskAt N tt ad w0 q u) (hR1 : cd_MemAt N tt ad w0 (q + 27) vm) (ho : o_Desk_isFrame u vm k x) : Met l y_Desk_isFrame w_Desk_isFrame ({ frames := 3, cells := 0, slots := 0, locals := 66 }) (va_Pc [.ref (ad q), .int k, .int x] (cd_U D tt ad N A zs w0)) (va_Qi (fun r w' => (f_Desk_isFrame u vm k x) = r ∧ (r = 0 ∨ r = 1) ∧ w0 = w') (fun w' t => cd_P D ad N A w' t.heap) A) 0 0 A := by
  refine Met.ofW (cc := b_Desk_isFrame) (maxL := 3) (ret := (some .boolean)) (by decide) rfl ?_
  intro p e s m args below meth c s₁ B hml hv
  obtain ⟨rfl, hP, hK, hZ⟩ := hv
  have hx := B.exec
  have hb := B.bytes
  have hr := B.returns
  have hA : ∀ w ∈ cd_AW, w.before _ s = true := fun w h => atoms_spec (ws := w_Desk_isFrame) B.pre w (List.mem_cons_of_mem _ h)
  have hown : s.vm.findClass R_Desk = some m.cls := findClass_of_methodNamed B.named
  have hlocks := B.notSynchronized
  have hS : va_S A s.heap s.heap [] := va_S.rf
  have hl := lv_entry ([.ref (ad q), .int k, .int x]) (n := 3) (Nat.le_of_ble_eq_true rfl)
  rw [lg_entry_eq]
  generalize (lg_sl ([.ref (ad q), .int k, .int x]) ++ List.replicate (3 - (lg_sl ([.ref (ad q), .int k, .int x])).length) Slot.unset).toArray = ls at hl ⊢
  have hl : lv_has ls 3 [(0, .ref (ad q)), (1, .int k), (2, .int x)] := hl
  have ho : (¬ k ≤ x → o_Mem_holds vm k (8 : Int32)) := ho
  obtain ⟨hn1, fa2⟩ := hR0
  refine lv_iload_n hx hb d_Desk_isFrame_0 rfl (lv_at hl 1 rfl) ?_
  refine lv_iload_n hx hb d_Desk_isFrame_1 rfl (lv_at hl 2 rfl) ?_
  refine lv_icmp_le (tgt := 22) hx hb d_Desk_isFrame_2 (by decide) (fun hc3 => ?_) (fun hc3 => ?_)
  · refine lv_iconst (v := (0 : Int32)) hx hb d_Desk_isFrame_22 (by decide) ?_
    have hf4 : (f_Desk_isFrame u vm k x) = (0 : Int32) := by rw [f_Desk_isFrame, if_pos hc3]
    exact W.zret (ty := .boolean) (v := (0 : Int32)) hx hb hr rfl (fun tE ht _ => ⟨⟨_, w0, rfl, ⟨hf4, (Or.inl rfl), rfl⟩, cd_Pt ht hP⟩, hS.F ht⟩) hS.2.2 d_Desk_isFrame_23
  · refine lv_aload_n hx hb d_Desk_isFrame_5 rfl (lv_at hl 0 rfl) ?_
    refine g_get (ci := 6) (C := R_Desk) (T := F_Desk) (Nf := 9) (v := .ref (ad (q + 27))) hx hb hA in_Desk hown hK hP (k := q) (by omega) fa2 rfl 6 (by decide) (hA _ aw_106) (fun _ h9 => h9) rfl d_Desk_isFrame_6 ?_
    refine lv_iload_n hx hb d_Desk_isFrame_9 rfl (lv_at hl 1 rfl) ?_
    refine lv_bipush (v := (8 : Int32)) hx hb d_Desk_isFrame_10 (by decide) ?_
    obtain ⟨hn5, fa6, ⟨rf10, fa7, fa8⟩, fa9⟩ := hR1
    refine va_calli (va_runV (As := [.int k, .int (8 : Int32)]) (rest := []) ⟨hx, hb, hml, hown, hA⟩ (c_Mem_holds l D tt ad N A zs w0 (q + 27) vm k (8 : Int32) (⟨hn5, fa6, ⟨rf10, fa7, fa8⟩, fa9⟩) (ho hc3)) (cwV 2 hA (cd_gV aw_378 aw_176 aw_177 aw_2 aw_178) rfl rfl rfl ⟨rfl, by decide, by decide, by decide +kernel⟩ ⟨Nat.le_of_ble_eq_true rfl, Nat.le_of_ble_eq_true rfl⟩) ⟨cd_blind, cd_recv hK hP (k := (q + 27)) (by omega) fa6 rfl, fun U hU hW => ⟨rfl, cd_pre hK hP hZ hS U hU hW⟩⟩ rfl rfl hl.1 rfl (lv_room (Nat.le_of_ble_eq_true rfl)) d_Desk_isFrame_12 ⟨Nat.zero_le _, Nat.zero_le _⟩) hS (fun _ _ h => h) (fun _ h => h) (fun r11 w1 tE H locs ht hvm hr12 hP hz1 hk1 hS => ?_)
    have hP := cd_Pf ht hP
    obtain ⟨rfl, hbo14, rfl⟩ := hr12
    refine lv_if_eq (tgt := 22) hx hb d_Desk_isFrame_15 (by decide) (fun hc15 => ?_) (fun hc15 => ?_)
    · refine lv_iconst (v := (0 : Int32)) hx hb d_Desk_isFrame_22 (by decide) ?_
      have hf16 : (f_Desk_isFrame u vm k x) = (0 : Int32) := by rw [f_Desk_isFrame, if_neg hc3, if_pos hc15]
      exact W.zret (ty := .boolean) (v := (0 : Int32)) hx hb hr rfl (fun tE ht _ => ⟨⟨_, w0, rfl, ⟨hf16, (Or.inl rfl), rfl⟩, cd_Pt ht hP⟩, hS.F ht⟩) hS.2.2 d_Desk_isFrame_23
    · refine lv_iconst (v := (1 : Int32)) hx hb d_Desk_isFrame_18 (by decide) ?_
      refine lv_goto (tgt := 23) hx hb d_Desk_isFrame_19 (by decide) ?_
      have hf17 : (f_Desk_isFrame u vm k x) = (1 : Int32) := by rw [f_Desk_isFrame, if_neg hc3, if_neg hc15]
      exact W.zret (ty := .boolean) (v := (1 : Int32)) hx hb hr rfl (fun tE ht _ => ⟨⟨_, w0, rfl, ⟨hf17, (Or.inr rfl), rfl⟩, cd_Pt ht hP⟩, hS.F ht⟩) hS.2.2 d_Desk_isFrame_23
def f_Desk_caller_L41 (u : cd_Has) (vm : cd_Mem) (vt : cd_Tt) (k : Int32) (x : Int32) : Nat → Int32 → Int32 → Int32 → Int32
  | 0, _, _, _ => default
  | gn + 1, y, z, i => (if x ≤ i then (if (f_Desk_isFrame u vm y z) = 0 then (-1 : Int32) else (f_Mem_readNumber vm (y + (4 : Int32)))) else (if (f_Desk_isFrame u vm y z) = 0 then (-1 : Int32) else (f_Desk_caller_L41 u vm vt k x gn (f_Mem_readNumber vm y) y (i + (1 : Int32)))))
def f_Desk_caller (u : cd_Has) (vm : cd_Mem) (vt : cd_Tt) (k : Int32) (x : Int32) : Int32 := (if (f_Tt_has vt k) = 0 then (-1 : Int32) else (if x < 0 then (-1 : Int32) else (if x < (6144 : Int32) then (f_Desk_caller_L41 u vm vt k x 6145 (f_Tt_read vt k (7 : Int32)) (0 : Int32) (0 : Int32)) else (-1 : Int32))))
def o_Desk_caller_L41 (u : cd_Has) (vm : cd_Mem) (vt : cd_Tt) (k : Int32) (x : Int32) : Nat → Int32 → Int32 → Int32 → Prop
  | 0, _, _, _ => False
  | gn + 1, y, z, i => (x ≤ i → o_Desk_isFrame u vm y z) ∧ (x ≤ i → ¬ (f_Desk_isFrame u vm y z) = 0 → o_Mem_readNumber vm (y + (4 : Int32))) ∧ (¬ x ≤ i → o_Desk_isFrame u vm y z) ∧ (¬ x ≤ i → ¬ (f_Desk_isFrame u vm y z) = 0 → o_Mem_readNumber vm y) ∧ (¬ x ≤ i → ¬ (f_Desk_isFrame u vm y z) = 0 → o_Desk_caller_L41 u vm vt k x gn (f_Mem_readNumber vm y) y (i + (1 : Int32)))
def o_Desk_caller (u : cd_Has) (vm : cd_Mem) (vt : cd_Tt) (k : Int32) (x : Int32) : Prop := (¬ (f_Tt_has vt k) = 0 → ¬ x < 0 → x < (6144 : Int32) → o_Tt_read vt k (7 : Int32)) ∧ (¬ (f_Tt_has vt k) = 0 → ¬ x < 0 → x < (6144 : Int32) → o_Desk_caller_L41 u vm vt k x 6145 (f_Tt_read vt k (7 : Int32)) (0 : Int32) (0 : Int32))
set_option maxHeartbeats 4000000 in
set_option maxRecDepth 100000 in
theorem c_Desk_caller (l : Launch) (D : va_G) (tt : Nat → ClassId) (ad : Nat → Nat) (N : Nat) (A : Nat → Prop) (zs : Nat → Nat) (w0 : Nat → va_E) (q : Nat) (u : cd_Has) (vm : cd_Mem) (vt : cd_Tt) (k : Int32) (x : Int32) (hR0 : cd_DeskAt N tt ad w0 q u) (hR1 : cd_MemAt N tt ad w0 (q + 27) vm) (hR2 : cd_TtAt N tt ad w0 (q + 41) vt) (ho : o_Desk_caller u vm vt k x) : Met l y_Desk_caller w_Desk_caller ({ frames := 4, cells := 0, slots := 0, locals := 88 }) (va_Pc [.ref (ad q), .int k, .int x] (cd_U D tt ad N A zs w0)) (va_Qi (fun r w' => (f_Desk_caller u vm vt k x) = r ∧ w0 = w') (fun w' t => cd_P D ad N A w' t.heap) A) 0 0 A := by
  refine Met.ofW (cc := b_Desk_caller) (maxL := 6) (ret := (some .int)) (by decide) rfl ?_
  intro p e s m args below meth c s₁ B hml hv
  obtain ⟨rfl, hP, hK, hZ⟩ := hv
  have hx := B.exec
  have hb := B.bytes
  have hr := B.returns
  have hA : ∀ w ∈ cd_AW, w.before _ s = true := fun w h => atoms_spec (ws := w_Desk_caller) B.pre w (List.mem_cons_of_mem _ h)
  have hown : s.vm.findClass R_Desk = some m.cls := findClass_of_methodNamed B.named
  have hlocks := B.notSynchronized
  have L41 : ∀ (gn : Nat) (y : Int32) (z : Int32) (i : Int32) (H : Heap) (locs : List Loc) (ls : Array Slot), lv_has ls 6 [(0, .ref (ad q)), (1, .int k), (2, .int x), (3, .int y), (4, .int z), (5, .int i)] → (f_Desk_caller u vm vt k x) = f_Desk_caller_L41 u vm vt k x gn y z i → cd_DeskAt N tt ad w0 q u → cd_MemAt N tt ad w0 (q + 27) vm → cd_TtAt N tt ad w0 (q + 41) vt → cd_P D ad N A w0 H → va_S A s.heap H locs → o_Desk_caller_L41 u vm vt k x gn y z i → W p l e (headSpec w_Desk_caller ({ frames := 4, cells := 0, slots := 0, locals := 88 })).room s m [.ref (ad q), .int k, .int x].toArray below meth c H locs 0 0 (MQ below (va_Qi (fun r w' => (f_Desk_caller u vm vt k x) = r ∧ w0 = w') (fun w' t => cd_P D ad N A w' t.heap) A) [.ref (ad q), .int k, .int x].toArray s 0 0 A) (F0 m 41 ls []) := by
    intro gn
    induction gn with
    | zero => intro y z i H locs ls hl he hL0 hL1 hL2 hP hS ho; exact ho.elim
    | succ gn ih =>
      intro y z i H locs ls hl he hL0 hL1 hL2 hP hS ho
      have ho : (x ≤ i → o_Desk_isFrame u vm y z) ∧ (x ≤ i → ¬ (f_Desk_isFrame u vm y z) = 0 → o_Mem_readNumber vm (y + (4 : Int32))) ∧ (¬ x ≤ i → o_Desk_isFrame u vm y z) ∧ (¬ x ≤ i → ¬ (f_Desk_isFrame u vm y z) = 0 → o_Mem_readNumber vm y) ∧ (¬ x ≤ i → ¬ (f_Desk_isFrame u vm y z) = 0 → o_Desk_caller_L41 u vm vt k x gn (f_Mem_readNumber vm y) y (i + (1 : Int32))) := ho
      obtain ⟨hn1, fa2⟩ := hL0
      refine lv_iload hx hb d_Desk_caller_41 (lv_at hl 5 rfl) ?_
      refine lv_iload_n hx hb d_Desk_caller_43 rfl (lv_at hl 2 rfl) ?_
      refine lv_icmp_ge (tgt := 77) hx hb d_Desk_caller_44 (by decide) (fun hc3 => ?_) (fun hc3 => ?_)
      · refine lv_aload_n hx hb d_Desk_caller_77 rfl (lv_at hl 0 rfl) ?_
        refine lv_iload_n hx hb d_Desk_caller_78 rfl (lv_at hl 3 rfl) ?_
        refine lv_iload hx hb d_Desk_caller_79 (lv_at hl 4 rfl) ?_
        refine va_calli (va_runV (As := [.int y, .int z]) (rest := []) ⟨hx, hb, hml, hown, hA⟩ (c_Desk_isFrame l D tt ad N A zs w0 q u vm y z (⟨hn1, fa2⟩) hL1 (ho.1 hc3)) (cwV 2 hA (cd_gV aw_375 aw_376 aw_766 aw_1 aw_377) rfl rfl rfl ⟨rfl, by decide, by decide, by decide +kernel⟩ ⟨Nat.le_of_ble_eq_true rfl, Nat.le_of_ble_eq_true rfl⟩) ⟨cd_blind, cd_recv hK hP (k := q) (by omega) fa2 rfl, fun U hU hW => ⟨rfl, cd_pre hK hP hZ hS U hU hW⟩⟩ rfl rfl hl.1 rfl (lv_room (Nat.le_of_ble_eq_true rfl)) d_Desk_caller_81 ⟨Nat.zero_le _, Nat.zero_le _⟩) hS (fun _ _ h => h) (fun _ h => h) (fun r4 w1 tE H locs ht hvm hr5 hP hz1 hk1 hS => ?_)
        have hP := cd_Pf ht hP
        obtain ⟨rfl, hbo7, rfl⟩ := hr5
        refine lv_if_eq (tgt := 100) hx hb d_Desk_caller_84 (by decide) (fun hc8 => ?_) (fun hc8 => ?_)
        · refine lv_iconst (v := (-1 : Int32)) hx hb d_Desk_caller_100 (by decide) ?_
          have hf9 : (f_Desk_caller u vm vt k x) = (-1 : Int32) := by rw [he, f_Desk_caller_L41, if_pos hc3, if_pos hc8]
          exact W.iret (v := (-1 : Int32)) hx hb hr (fun tE ht _ => ⟨⟨_, w0, rfl, ⟨hf9, rfl⟩, cd_Pt ht hP⟩, hS.F ht⟩) hS.2.2 d_Desk_caller_101
        · refine lv_aload_n hx hb d_Desk_caller_87 rfl (lv_at hl 0 rfl) ?_
          refine g_get (ci := 6) (C := R_Desk) (T := F_Desk) (Nf := 9) (v := .ref (ad (q + 27))) hx hb hA in_Desk hown hK hP (k := q) (by omega) fa2 rfl 6 (by decide) (hA _ aw_106) (fun _ h9 => h9) rfl d_Desk_caller_88 ?_
          refine lv_iload_n hx hb d_Desk_caller_91 rfl (lv_at hl 3 rfl) ?_
          refine lv_iconst (v := (4 : Int32)) hx hb d_Desk_caller_92 (by decide) ?_
          refine lv_iadd hx hb d_Desk_caller_93 ?_
          obtain ⟨hn10, fa11, ⟨rf15, fa12, fa13⟩, fa14⟩ := hL1
          refine va_calli (va_runV (As := [.int (y + (4 : Int32))]) (rest := []) ⟨hx, hb, hml, hown, hA⟩ (c_Mem_readNumber l D tt ad N A zs w0 (q + 27) vm (y + (4 : Int32)) (⟨hn10, fa11, ⟨rf15, fa12, fa13⟩, fa14⟩) (ho.2.1 hc3 hc8)) (cwV 1 hA (cd_gV aw_379 aw_380 aw_381 aw_2 aw_382) rfl rfl rfl ⟨rfl, by decide, by decide, by decide +kernel⟩ ⟨Nat.le_of_ble_eq_true rfl, Nat.le_of_ble_eq_true rfl⟩) ⟨cd_blind, cd_recv hK hP (k := (q + 27)) (by omega) fa11 rfl, fun U hU hW => ⟨rfl, cd_pre hK hP hZ hS U hU hW⟩⟩ rfl rfl hl.1 rfl (lv_room (Nat.le_of_ble_eq_true rfl)) d_Desk_caller_94 ⟨Nat.zero_le _, Nat.zero_le _⟩) hS (fun _ _ h => h) (fun _ h => h) (fun r16 w2 tE H locs ht hvm hr17 hP hz1 hk1 hS => ?_)
          have hP := cd_Pf ht hP
          obtain ⟨rfl, rfl⟩ := hr17
          refine lv_goto (tgt := 101) hx hb d_Desk_caller_97 (by decide) ?_
          have hf19 : (f_Desk_caller u vm vt k x) = (f_Mem_readNumber vm (y + (4 : Int32))) := by rw [he, f_Desk_caller_L41, if_pos hc3, if_neg hc8]
          exact W.iret (v := (f_Mem_readNumber vm (y + (4 : Int32)))) hx hb hr (fun tE ht _ => ⟨⟨_, w0, rfl, ⟨hf19, rfl⟩, cd_Pt ht hP⟩, hS.F ht⟩) hS.2.2 d_Desk_caller_101
      · refine lv_aload_n hx hb d_Desk_caller_47 rfl (lv_at hl 0 rfl) ?_
        refine lv_iload_n hx hb d_Desk_caller_48 rfl (lv_at hl 3 rfl) ?_
        refine lv_iload hx hb d_Desk_caller_49 (lv_at hl 4 rfl) ?_
        refine va_calli (va_runV (As := [.int y, .int z]) (rest := []) ⟨hx, hb, hml, hown, hA⟩ (c_Desk_isFrame l D tt ad N A zs w0 q u vm y z (⟨hn1, fa2⟩) hL1 (ho.2.2.1 hc3)) (cwV 2 hA (cd_gV aw_375 aw_376 aw_766 aw_1 aw_377) rfl rfl rfl ⟨rfl, by decide, by decide, by decide +kernel⟩ ⟨Nat.le_of_ble_eq_true rfl, Nat.le_of_ble_eq_true rfl⟩) ⟨cd_blind, cd_recv hK hP (k := q) (by omega) fa2 rfl, fun U hU hW => ⟨rfl, cd_pre hK hP hZ hS U hU hW⟩⟩ rfl rfl hl.1 rfl (lv_room (Nat.le_of_ble_eq_true rfl)) d_Desk_caller_51 ⟨Nat.zero_le _, Nat.zero_le _⟩) hS (fun _ _ h => h) (fun _ h => h) (fun r20 w3 tE H locs ht hvm hr21 hP hz1 hk1 hS => ?_)
        have hP := cd_Pf ht hP
        obtain ⟨rfl, hbo23, rfl⟩ := hr21
        refine lv_if_ne (tgt := 59) hx hb d_Desk_caller_54 (by decide) (fun hc24 => ?_) (fun hc24 => ?_)
        · refine lv_iload_n hx hb d_Desk_caller_59 rfl (lv_at hl 3 rfl) ?_
          refine lv_istore (lv' := [(4, .int y), (0, .ref (ad q)), (1, .int k), (2, .int x), (3, .int y), (5, .int i)]) hx hb d_Desk_caller_60 hl (by decide) rfl (fun ls hl => ?_)
          refine lv_aload_n hx hb d_Desk_caller_62 rfl (lv_at hl 1 rfl) ?_
          refine g_get (ci := 6) (C := R_Desk) (T := F_Desk) (Nf := 9) (v := .ref (ad (q + 27))) hx hb hA in_Desk hown hK hP (k := q) (by omega) fa2 rfl 6 (by decide) (hA _ aw_106) (fun _ h9 => h9) rfl d_Desk_caller_63 ?_
          refine lv_iload_n hx hb d_Desk_caller_66 rfl (lv_at hl 4 rfl) ?_
          obtain ⟨hn25, fa26, ⟨rf30, fa27, fa28⟩, fa29⟩ := hL1
          refine va_calli (va_runV (As := [.int y]) (rest := []) ⟨hx, hb, hml, hown, hA⟩ (c_Mem_readNumber l D tt ad N A zs w0 (q + 27) vm y (⟨hn25, fa26, ⟨rf30, fa27, fa28⟩, fa29⟩) (ho.2.2.2.1 hc3 hc24)) (cwV 1 hA (cd_gV aw_379 aw_380 aw_381 aw_2 aw_382) rfl rfl rfl ⟨rfl, by decide, by decide, by decide +kernel⟩ ⟨Nat.le_of_ble_eq_true rfl, Nat.le_of_ble_eq_true rfl⟩) ⟨cd_blind, cd_recv hK hP (k := (q + 27)) (by omega) fa26 rfl, fun U hU hW => ⟨rfl, cd_pre hK hP hZ hS U hU hW⟩⟩ rfl rfl hl.1 rfl (lv_room (Nat.le_of_ble_eq_true rfl)) d_Desk_caller_67 ⟨Nat.zero_le _, Nat.zero_le _⟩) hS (fun _ _ h => h) (fun _ h => h) (fun r31 w4 tE H locs ht hvm hr32 hP hz1 hk1 hS => ?_)
          have hP := cd_Pf ht hP
          obtain ⟨rfl, rfl⟩ := hr32
          refine lv_istore_n (lv' := [(3, .int (f_Mem_readNumber vm y)), (4, .int y), (0, .ref (ad q)), (1, .int k), (2, .int x), (5, .int i)]) hx hb d_Desk_caller_70 rfl hl (by decide) rfl (fun ls hl => ?_)
          refine lv_iinc (k := 5) (v := (i + (1 : Int32))) (lv' := [(5, .int (i + (1 : Int32))), (3, .int (f_Mem_readNumber vm y)), (4, .int y), (0, .ref (ad q)), (1, .int k), (2, .int x)]) hx hb d_Desk_caller_71 hl rfl (cd_inc _ _ _ (by decide)) (by decide) rfl (fun ls hl => ?_)
          refine lv_goto (tgt := 41) hx hb d_Desk_caller_74 (by decide) ?_
          exact ih (f_Mem_readNumber vm y) y (i + (1 : Int32)) H locs ls (lv_sub hl [3, 4, 5, 1, 2, 0] rfl) (show (f_Desk_caller u vm vt k x) = f_Desk_caller_L41 u vm vt k x gn (f_Mem_readNumber vm y) y (i + (1 : Int32)) by rw [he, f_Desk_caller_L41, if_neg hc3, if_neg hc24]) (⟨hn1, fa2⟩) (⟨hn25, fa26, ⟨rf30, fa27, fa28⟩, fa29⟩) hL2 hP hS (ho.2.2.2.2 hc3 hc24)
        · refine lv_iconst (v := (-1 : Int32)) hx hb d_Desk_caller_57 (by decide) ?_
          have hf34 : (f_Desk_caller u vm vt k x) = (-1 : Int32) := by rw [he, f_Desk_caller_L41, if_neg hc3, if_pos hc24]
          exact W.iret (v := (-1 : Int32)) hx hb hr (fun tE ht _ => ⟨⟨_, w0, rfl, ⟨hf34, rfl⟩, cd_Pt ht hP⟩, hS.F ht⟩) hS.2.2 d_Desk_caller_58
  have hS : va_S A s.heap s.heap [] := va_S.rf
  have hl := lv_entry ([.ref (ad q), .int k, .int x]) (n := 6) (Nat.le_of_ble_eq_true rfl)
  rw [lg_entry_eq]
  generalize (lg_sl ([.ref (ad q), .int k, .int x]) ++ List.replicate (6 - (lg_sl ([.ref (ad q), .int k, .int x])).length) Slot.unset).toArray = ls at hl ⊢
  have hl : lv_has ls 6 [(0, .ref (ad q)), (1, .int k), (2, .int x)] := hl
  have ho : (¬ (f_Tt_has vt k) = 0 → ¬ x < 0 → x < (6144 : Int32) → o_Tt_read vt k (7 : Int32)) ∧ (¬ (f_Tt_has vt k) = 0 → ¬ x < 0 → x < (6144 : Int32) → o_Desk_caller_L41 u vm vt k x 6145 (f_Tt_read vt k (7 : Int32)) (0 : Int32) (0 : Int32)) := ho
  obtain ⟨hn35, fa36⟩ := hR0
  refine lv_aload_n hx hb d_Desk_caller_0 rfl (lv_at hl 0 rfl) ?_
  refine g_get (ci := 6) (C := R_Desk) (T := F_Desk) (Nf := 9) (v := .ref (ad (q + 41))) hx hb hA in_Desk hown hK hP (k := q) (by omega) fa36 rfl 7 (by decide) (hA _ aw_107) (fun _ h9 => h9) rfl d_Desk_caller_1 ?_
  refine lv_iload_n hx hb d_Desk_caller_4 rfl (lv_at hl 1 rfl) ?_
  obtain ⟨hn37, fa38, fa39, fa40⟩ := hR2
  refine va_calli (va_runV (As := [.int k]) (rest := []) ⟨hx, hb, hml, hown, hA⟩ (c_Tt_has l D tt ad N A zs w0 (q + 41) vt k (⟨hn37, fa38, fa39, fa40⟩)) (cwV 1 hA (cd_gV aw_373 aw_204 aw_205 aw_4 aw_206) rfl rfl rfl ⟨rfl, by decide, by decide, by decide +kernel⟩ ⟨Nat.le_of_ble_eq_true rfl, Nat.le_of_ble_eq_true rfl⟩) ⟨cd_blind, cd_recv hK hP (k := (q + 41)) (by omega) fa38 rfl, fun U hU hW => ⟨rfl, cd_pre hK hP hZ hS U hU hW⟩⟩ rfl rfl hl.1 rfl (lv_room (Nat.le_of_ble_eq_true rfl)) d_Desk_caller_5 ⟨Nat.zero_le _, Nat.zero_le _⟩) hS (fun _ _ h => h) (fun _ h => h) (fun r41 w5 tE H locs ht hvm hr42 hP hz1 hk1 hS => ?_)
  have hP := cd_Pf ht hP
  obtain ⟨rfl, hbo44, rfl⟩ := hr42
  refine lv_if_eq (tgt := 22) hx hb d_Desk_caller_8 (by decide) (fun hc45 => ?_) (fun hc45 => ?_)
  · refine lv_iconst (v := (-1 : Int32)) hx hb d_Desk_caller_22 (by decide) ?_
    have hf46 : (f_Desk_caller u vm vt k x) = (-1 : Int32) := by rw [f_Desk_caller, if_pos hc45]
    exact W.iret (v := (-1 : Int32)) hx hb hr (fun tE ht _ => ⟨⟨_, w0, rfl, ⟨hf46, rfl⟩, cd_Pt ht hP⟩, hS.F ht⟩) hS.2.2 d_Desk_caller_23
  · refine lv_iload_n hx hb d_Desk_caller_11 rfl (lv_at hl 2 rfl) ?_
    refine lv_if_lt (tgt := 22) hx hb d_Desk_caller_12 (by decide) (fun hc47 => ?_) (fun hc47 => ?_)
    · refine lv_iconst (v := (-1 : Int32)) hx hb d_Desk_caller_22 (by decide) ?_
      have hf48 : (f_Desk_caller u vm vt k x) = (-1 : Int32) := by rw [f_Desk_caller, if_neg hc45, if_pos hc47]
      exact W.iret (v := (-1 : Int32)) hx hb hr (fun tE ht _ => ⟨⟨_, w0, rfl, ⟨hf48, rfl⟩, cd_Pt ht hP⟩, hS.F ht⟩) hS.2.2 d_Desk_caller_23
    · refine lv_iload_n hx hb d_Desk_caller_15 rfl (lv_at hl 2 rfl) ?_
      refine lv_sipush (v := (6144 : Int32)) hx hb d_Desk_caller_16 (by decide) ?_
      refine lv_icmp_lt (tgt := 24) hx hb d_Desk_caller_19 (by decide) (fun hc49 => ?_) (fun hc49 => ?_)
      · refine lv_aload_n hx hb d_Desk_caller_24 rfl (lv_at hl 0 rfl) ?_
        refine g_get (ci := 6) (C := R_Desk) (T := F_Desk) (Nf := 9) (v := .ref (ad (q + 41))) hx hb hA in_Desk hown hK hP (k := q) (by omega) fa36 rfl 7 (by decide) (hA _ aw_107) (fun _ h9 => h9) rfl d_Desk_caller_25 ?_
        refine lv_iload_n hx hb d_Desk_caller_28 rfl (lv_at hl 1 rfl) ?_
        refine lv_bipush (v := (7 : Int32)) hx hb d_Desk_caller_29 (by decide) ?_
        refine va_calli (va_runV (As := [.int k, .int (7 : Int32)]) (rest := []) ⟨hx, hb, hml, hown, hA⟩ (c_Tt_read l D tt ad N A zs w0 (q + 41) vt k (7 : Int32) (⟨hn37, fa38, fa39, fa40⟩) (ho.1 hc45 hc47 hc49)) (cwV 2 hA (cd_gV aw_374 aw_274 aw_275 aw_4 aw_276) rfl rfl rfl ⟨rfl, by decide, by decide, by decide +kernel⟩ ⟨Nat.le_of_ble_eq_true rfl, Nat.le_of_ble_eq_true rfl⟩) ⟨cd_blind, cd_recv hK hP (k := (q + 41)) (by omega) fa38 rfl, fun U hU hW => ⟨rfl, cd_pre hK hP hZ hS U hU hW⟩⟩ rfl rfl hl.1 rfl (lv_room (Nat.le_of_ble_eq_true rfl)) d_Desk_caller_31 ⟨Nat.zero_le _, Nat.zero_le _⟩) hS (fun _ _ h => h) (fun _ h => h) (fun r50 w6 tE H locs ht hvm hr51 hP hz1 hk1 hS => ?_)
        have hP := cd_Pf ht hP
        obtain ⟨rfl, rfl⟩ := hr51
        refine lv_istore_n (lv' := [(3, .int (f_Tt_read vt k (7 : Int32))), (0, .ref (ad q)), (1, .int k), (2, .int x)]) hx hb d_Desk_caller_34 rfl hl (by decide) rfl (fun ls hl => ?_)
        refine lv_iconst (v := (0 : Int32)) hx hb d_Desk_caller_35 (by decide) ?_
        refine lv_istore (lv' := [(4, .int (0 : Int32)), (3, .int (f_Tt_read vt k (7 : Int32))), (0, .ref (ad q)), (1, .int k), (2, .int x)]) hx hb d_Desk_caller_36 hl (by decide) rfl (fun ls hl => ?_)
        refine lv_iconst (v := (0 : Int32)) hx hb d_Desk_caller_38 (by decide) ?_
        refine lv_istore (lv' := [(5, .int (0 : Int32)), (4, .int (0 : Int32)), (3, .int (f_Tt_read vt k (7 : Int32))), (0, .ref (ad q)), (1, .int k), (2, .int x)]) hx hb d_Desk_caller_39 hl (by decide) rfl (fun ls hl => ?_)
        exact L41 6145 (f_Tt_read vt k (7 : Int32)) (0 : Int32) (0 : Int32) H locs ls (lv_sub hl [3, 4, 5, 2, 1, 0] rfl) (show (f_Desk_caller u vm vt k x) = f_Desk_caller_L41 u vm vt k x 6145 (f_Tt_read vt k (7 : Int32)) (0 : Int32) (0 : Int32) by rw [f_Desk_caller, if_neg hc45, if_neg hc47, if_pos hc49]) (⟨hn35, fa36⟩) hR1 (⟨hn37, fa38, fa39, fa40⟩) hP hS (ho.2 hc45 hc47 hc49)
      · refine lv_iconst (v := (-1 : Int32)) hx hb d_Desk_caller_22 (by decide) ?_
        have hf53 : (f_Desk_caller u vm vt k x) = (-1 : Int32) := by rw [f_Desk_caller, if_neg hc45, if_neg hc47, if_neg hc49]
        exact W.iret (v := (-1 : Int32)) hx hb hr (fun tE ht _ => ⟨⟨_, w0, rfl, ⟨hf53, rfl⟩, cd_Pt ht hP⟩, hS.F ht⟩) hS.2.2 d_Desk_caller_23
def f_Desk_takeCore_L17 (S : cd_Has × cd_Mem × cd_Tt) (up : cd_Row) (uc : cd_Tc) (uh : cd_Tt) : Nat → Int32 → Int32 → cd_Mem → cd_Has × cd_Mem × cd_Tt
  | 0, _, _, _ => default
  | gn + 1, x, i, vm' => (if x ≤ i then ((1 : Int32), vm', (f_Tt_become S.2.2 uh)) else (f_Desk_takeCore_L17 S up uc uh gn x (i + (1 : Int32)) (f_Mem_fillRegion ((f_Mem_addRegion vm' (f_Tc_entryField uc 8192 up i (2 : Int32)) (f_Tc_entryField uc 8192 up i (5 : Int32)) (f_Tc_entryField uc 8192 up i (6 : Int32))).2) 8192 up (f_Tc_entryField uc 8192 up i (2 : Int32)) (f_Tc_entryField uc 8192 up i (1 : Int32)) (f_Tc_entryField uc 8192 up i (4 : Int32)))))
def f_Desk_takeCore (S : cd_Has × cd_Mem × cd_Tt) (up : cd_Row) (uc : cd_Tc) (uh : cd_Tt) : cd_Has × cd_Mem × cd_Tt := (f_Desk_takeCore_L17 S up uc uh 8 (f_Tc_entries uc 8192 up) (1 : Int32) (f_Mem_clear S.2.1))
def o_Desk_takeCore_L17 (S : cd_Has × cd_Mem × cd_Tt) (up : cd_Row) (uc : cd_Tc) (uh : cd_Tt) : Nat → Int32 → Int32 → cd_Mem → Prop
  | 0, _, _, _ => False
  | gn + 1, x, i, vm' => (x ≤ i → o_Tt_become S.2.2 uh) ∧ (¬ x ≤ i → o_Tc_entryField uc 8192 up i (2 : Int32)) ∧ (¬ x ≤ i → o_Tc_entryField uc 8192 up i (5 : Int32)) ∧ (¬ x ≤ i → o_Tc_entryField uc 8192 up i (6 : Int32)) ∧ (¬ x ≤ i → o_Mem_addRegion vm' (f_Tc_entryField uc 8192 up i (2 : Int32)) (f_Tc_entryField uc 8192 up i (5 : Int32)) (f_Tc_entryField uc 8192 up i (6 : Int32))) ∧ (¬ x ≤ i → o_Tc_entryField uc 8192 up i (1 : Int32)) ∧ (¬ x ≤ i → o_Tc_entryField uc 8192 up i (4 : Int32)) ∧ (¬ x ≤ i → o_Mem_fillRegion ((f_Mem_addRegion vm' (f_Tc_entryField uc 8192 up i (2 : Int32)) (f_Tc_entryField uc 8192 up i (5 : Int32)) (f_Tc_entryField uc 8192 up i (6 : Int32))).2) 8192 up (f_Tc_entryField uc 8192 up i (2 : Int32)) (f_Tc_entryField uc 8192 up i (1 : Int32)) (f_Tc_entryField uc 8192 up i (4 : Int32))) ∧ (¬ x ≤ i → o_Desk_takeCore_L17 S up uc uh gn x (i + (1 : Int32)) (f_Mem_fillRegion ((f_Mem_addRegion vm' (f_Tc_entryField uc 8192 up i (2 : Int32)) (f_Tc_entryField uc 8192 up i (5 : Int32)) (f_Tc_entryField uc 8192 up i (6 : Int32))).2) 8192 up (f_Tc_entryField uc 8192 up i (2 : Int32)) (f_Tc_entryField uc 8192 up i (1 : Int32)) (f_Tc_entryField uc 8192 up i (4 : Int32))))
def o_Desk_takeCore (S : cd_Has × cd_Mem × cd_Tt) (up : cd_Row) (uc : cd_Tc) (uh : cd_Tt) : Prop := (o_Tc_entries uc 8192 up) ∧ (o_Desk_takeCore_L17 S up uc uh 8 (f_Tc_entries uc 8192 up) (1 : Int32) (f_Mem_clear S.2.1))
set_option maxHeartbeats 4000000 in
set_option maxRecDepth 100000 in
theorem c_Desk_takeCore (l : Launch) (D : va_G) (tt : Nat → ClassId) (ad : Nat → Nat) (N : Nat) (A : Nat → Prop) (zs : Nat → Nat) (w0 : Nat → va_E) (q : Nat) (S : cd_Has × cd_Mem × cd_Tt) (up : cd_Row) (uc : cd_Tc) (uh : cd_Tt) (hR0 : cd_DeskAt N tt ad w0 q S.1) (hR1 : cd_RowAt N tt ad w0 (q + 21) 8192 up) (hR2 : cd_TcAt N tt ad w0 (q + 23) (q + 21) uc) (hR3 : cd_TtAt N tt ad w0 (q + 24) uh) (hR4 : cd_MemAt N tt ad w0 (q + 27) S.2.1) (hR5 : cd_TtAt N tt ad w0 (q + 41) S.2.2) (ho : o_Desk_takeCore S up uc uh) : Met l y_Desk_takeCore w_Desk_takeCore ({ frames := 3, cells := 0, slots := 0, locals := 108 }) (va_Pc [.ref (ad q)] (cd_U D tt ad N A zs w0)) (va_Qv (fun w' => cd_DeskAt N tt ad w' q ((f_Desk_takeCore S up uc uh).1) ∧ cd_MemAt N tt ad w' (q + 27) ((f_Desk_takeCore S up uc uh).2.1) ∧ cd_TtAt N tt ad w' (q + 41) ((f_Desk_takeCore S up uc uh).2.2) ∧ (∀ k : Nat, (k < q ∨ q + 1 ≤ k) ∧ (k < (q + 27) ∨ (q + 27) + 14 ≤ k) ∧ (k < (q + 41) ∨ (q + 41) + 3 ≤ k) → w' k = w0 k)) (fun w' t => cd_P D ad N A w' t.heap) A) 0 0 A := by
  refine Met.ofW (cc := b_Desk_takeCore) (maxL := 4) (ret := none) (by decide) rfl ?_
  intro p e s m args below meth c s₁ B hml hv
  obtain ⟨rfl, hP, hK, hZ⟩ := hv
  have hx := B.exec
  have hb := B.bytes
  have hr := B.returns
  have hA : ∀ w ∈ cd_AW, w.before _ s = true := fun w h => atoms_spec (ws := w_Desk_takeCore) B.pre w (List.mem_cons_of_mem _ h)
  have hown : s.vm.findClass R_Desk = some m.cls := findClass_of_methodNamed B.named
  have hlocks := B.notSynchronized
  have L17 : ∀ (gn : Nat) (x : Int32) (i : Int32) (vm' : cd_Mem) (w : Nat → va_E) (efr : ∀ k : Nat, (k < q ∨ q + 1 ≤ k) ∧ (k < (q + 27) ∨ (q + 27) + 14 ≤ k) ∧ (k < (q + 41) ∨ (q + 41) + 3 ≤ k) → w k = w0 k) (H : Heap) (locs : List Loc) (ls : Array Slot), lv_has ls 4 [(0, .ref (ad q)), (1, .int x), (2, .int i)] → (f_Desk_takeCore S up uc uh) = f_Desk_takeCore_L17 S up uc uh gn x i vm' → cd_DeskAt N tt ad w q S.1 → cd_RowAt N tt ad w (q + 21) 8192 up → cd_TcAt N tt ad w (q + 23) (q + 21) uc → cd_TtAt N tt ad w (q + 24) uh → cd_MemAt N tt ad w (q + 27) vm' → cd_TtAt N tt ad w (q + 41) S.2.2 → cd_P D ad N A w H → va_S A s.heap H locs → o_Desk_takeCore_L17 S up uc uh gn x i vm' → W p l e (headSpec w_Desk_takeCore ({ frames := 3, cells := 0, slots := 0, locals := 108 })).room s m [.ref (ad q)].toArray below meth c H locs 0 0 (MQ below (va_Qv (fun w' => cd_DeskAt N tt ad w' q ((f_Desk_takeCore S up uc uh).1) ∧ cd_MemAt N tt ad w' (q + 27) ((f_Desk_takeCore S up uc uh).2.1) ∧ cd_TtAt N tt ad w' (q + 41) ((f_Desk_takeCore S up uc uh).2.2) ∧ (∀ k : Nat, (k < q ∨ q + 1 ≤ k) ∧ (k < (q + 27) ∨ (q + 27) + 14 ≤ k) ∧ (k < (q + 41) ∨ (q + 41) + 3 ≤ k) → w' k = w0 k)) (fun w' t => cd_P D ad N A w' t.heap) A) [.ref (ad q)].toArray s 0 0 A) (F0 m 17 ls []) := by
    intro gn
    induction gn with
    | zero => intro x i vm' w efr H locs ls hl he hL0 hL1 hL2 hL3 hL4 hL5 hP hS ho; exact ho.elim
    | succ gn ih =>
      intro x i vm' w efr H locs ls hl he hL0 hL1 hL2 hL3 hL4 hL5 hP hS ho
      have ho : (x ≤ i → o_Tt_become S.2.2 uh) ∧ (¬ x ≤ i → o_Tc_entryField uc 8192 up i (2 : Int32)) ∧ (¬ x ≤ i → o_Tc_entryField uc 8192 up i (5 : Int32)) ∧ (¬ x ≤ i → o_Tc_entryField uc 8192 up i (6 : Int32)) ∧ (¬ x ≤ i → o_Mem_addRegion vm' (f_Tc_entryField uc 8192 up i (2 : Int32)) (f_Tc_entryField uc 8192 up i (5 : Int32)) (f_Tc_entryField uc 8192 up i (6 : Int32))) ∧ (¬ x ≤ i → o_Tc_entryField uc 8192 up i (1 : Int32)) ∧ (¬ x ≤ i → o_Tc_entryField uc 8192 up i (4 : Int32)) ∧ (¬ x ≤ i → o_Mem_fillRegion ((f_Mem_addRegion vm' (f_Tc_entryField uc 8192 up i (2 : Int32)) (f_Tc_entryField uc 8192 up i (5 : Int32)) (f_Tc_entryField uc 8192 up i (6 : Int32))).2) 8192 up (f_Tc_entryField uc 8192 up i (2 : Int32)) (f_Tc_entryField uc 8192 up i (1 : Int32)) (f_Tc_entryField uc 8192 up i (4 : Int32))) ∧ (¬ x ≤ i → o_Desk_takeCore_L17 S up uc uh gn x (i + (1 : Int32)) (f_Mem_fillRegion ((f_Mem_addRegion vm' (f_Tc_entryField uc 8192 up i (2 : Int32)) (f_Tc_entryField uc 8192 up i (5 : Int32)) (f_Tc_entryField uc 8192 up i (6 : Int32))).2) 8192 up (f_Tc_entryField uc 8192 up i (2 : Int32)) (f_Tc_entryField uc 8192 up i (1 : Int32)) (f_Tc_entryField uc 8192 up i (4 : Int32)))) := ho
      obtain ⟨hn1, fa2⟩ := hL0
      refine lv_iload_n hx hb d_Desk_takeCore_17 rfl (lv_at hl 2 rfl) ?_
      refine lv_iload_n hx hb d_Desk_takeCore_18 rfl (lv_at hl 1 rfl) ?_
      refine lv_icmp_ge (tgt := 96) hx hb d_Desk_takeCore_19 (by decide) (fun hc3 => ?_) (fun hc3 => ?_)
      · refine lv_aload_n hx hb d_Desk_takeCore_96 rfl (lv_at hl 0 rfl) ?_
        refine g_get (ci := 6) (C := R_Desk) (T := F_Desk) (Nf := 9) (v := .ref (ad (q + 41))) hx hb hA in_Desk hown hK hP (k := q) (by omega) fa2 rfl 7 (by decide) (hA _ aw_107) (fun _ h9 => h9) rfl d_Desk_takeCore_97 ?_
        refine lv_aload_n hx hb d_Desk_takeCore_100 rfl (lv_at hl 0 rfl) ?_
        refine g_get (ci := 6) (C := R_Desk) (T := F_Desk) (Nf := 9) (v := .ref (ad (q + 23))) hx hb hA in_Desk hown hK hP (k := q) (by omega) fa2 rfl 5 (by decide) (hA _ aw_105) (fun _ h9 => h9) rfl d_Desk_takeCore_101 ?_
        obtain ⟨hn4, fa5⟩ := hL2
        refine va_callq (va_runV (As := []) (rest := [.ref (ad (q + 41))]) ⟨hx, hb, hml, hown, hA⟩ (c_Tc_threadsFound l D tt ad N A zs w (q + 23) (q + 21) uc (⟨hn4, fa5⟩)) (cwV 0 hA (cd_gV aw_524 aw_525 aw_526 aw_7 aw_527) rfl rfl rfl ⟨rfl, by decide, by decide, by decide +kernel⟩ ⟨Nat.le_of_ble_eq_true rfl, Nat.le_of_ble_eq_true rfl⟩) ⟨cd_blind, cd_recv hK hP (k := (q + 23)) (by omega) fa5 rfl, fun U hU hW => ⟨rfl, cd_pre hK hP hZ hS U hU hW⟩⟩ rfl rfl hl.1 rfl (lv_room (Nat.le_of_ble_eq_true rfl)) d_Desk_takeCore_104 ⟨Nat.zero_le _, Nat.zero_le _⟩) hS (fun _ _ h => h) (fun _ h => h) (fun r6 w1 tE H locs ht hvm hr7 hP hz1 hk1 hS => ?_)
        have hP := cd_Pf ht hP
        obtain ⟨rfl, rfl⟩ := hr7
        obtain ⟨hn8, fa9, fa10, fa11⟩ := hL5
        refine va_callv (va_runV (As := [.ref (ad (q + 24))]) (rest := []) ⟨hx, hb, hml, hown, hA⟩ (c_Tt_become l D tt ad N A zs w (q + 41) S.2.2 (q + 24) uh (⟨hn8, fa9, fa10, fa11⟩) hL3 (by omega) (ho.1 hc3)) (cwV 1 hA (cd_gV aw_528 aw_529 aw_530 aw_4 aw_531) rfl rfl rfl ⟨rfl, by decide, by decide, by decide +kernel⟩ ⟨Nat.le_of_ble_eq_true rfl, Nat.le_of_ble_eq_true rfl⟩) ⟨cd_blind, cd_recv hK hP (k := (q + 41)) (by omega) fa9 rfl, fun U hU hW => ⟨rfl, cd_pre hK hP hZ hS U hU hW⟩⟩ rfl rfl hl.1 rfl (lv_room (Nat.le_of_ble_eq_true rfl)) d_Desk_takeCore_107 ⟨Nat.zero_le _, Nat.zero_le _⟩) hS (fun _ _ h => h) (fun _ h => h) (fun w2 tE H locs ht hvm hr13 hP hz1 hk1 hS => ?_)
        have hP := cd_Pf ht hP
        obtain ⟨at15, e2⟩ := hr13
        have fa16 := (e2 q (by omega)).trans fa2
        have at17 := cd_RowAt_keep hL1 (fun k h1 h2 => e2 k (by omega))
        have fa18 := (e2 (q + 23) (by omega)).trans fa5
        have at19 := cd_TtAt_keep hL3 (fun k h1 h2 => e2 k (by omega))
        have at20 := cd_MemAt_keep hL4 (fun k h1 h2 => e2 k (by omega))
        refine lv_aload_n hx hb d_Desk_takeCore_110 rfl (lv_at hl 0 rfl) ?_
        refine lv_iconst (v := (1 : Int32)) hx hb d_Desk_takeCore_111 (by decide) ?_
        refine g_put (ci := 6) (C := R_Desk) (T := F_Desk) (Nf := 9) (v := .int (1 : Int32)) (ty := .boolean) hx hb hA in_Desk t_Desk t_Desk_ok n_Desk hown hK hP hS (k := q) (by omega) fa16 rfl 8 (by decide) (hA _ aw_108) (fun _ h9 => h9) rfl (by decide +kernel) rfl rfl (Nat.le_of_ble_eq_true rfl) d_Desk_takeCore_112 (fun H locs w3 fa21 e3 hP hS => ?_)
        have fa21 : w3 q = .inr (6, [.ref (ad (q + 1)), .ref (ad (q + 15)), .ref (ad (q + 18)), .ref (ad (q + 20)), .ref (ad (q + 21)), .ref (ad (q + 23)), .ref (ad (q + 27)), .ref (ad (q + 41)), .int (1 : Int32)]) := fa21
        have at22 := cd_RowAt_keep at17 (fun k h1 h2 => e3 k (by omega))
        have fa23 := (e3 (q + 23) (by omega)).trans fa18
        have at24 := cd_TtAt_keep at19 (fun k h1 h2 => e3 k (by omega))
        have at25 := cd_MemAt_keep at20 (fun k h1 h2 => e3 k (by omega))
        have at26 := cd_TtAt_keep at15 (fun k h1 h2 => e3 k (by omega))
        have hf27 : (f_Desk_takeCore S up uc uh) = ((1 : Int32), vm', (f_Tt_become S.2.2 uh)) := by rw [he, f_Desk_takeCore_L17, if_pos hc3]
        exact W.vret hx hb hr (fun tE ht _ => ⟨⟨w3, rfl, ⟨(by rw [hf27]; exact ⟨hn1, fa21⟩), (by rw [hf27]; exact at25), (by rw [hf27]; exact at26), (fun k hk => ((e3 k (by omega)).trans ((e2 k (by omega)).trans (efr k (by omega)))))⟩, cd_Pt ht hP⟩, hS.F ht⟩) hS.2.2 d_Desk_takeCore_115
      · refine lv_aload_n hx hb d_Desk_takeCore_22 rfl (lv_at hl 0 rfl) ?_
        refine g_get (ci := 6) (C := R_Desk) (T := F_Desk) (Nf := 9) (v := .ref (ad (q + 23))) hx hb hA in_Desk hown hK hP (k := q) (by omega) fa2 rfl 5 (by decide) (hA _ aw_105) (fun _ h9 => h9) rfl d_Desk_takeCore_23 ?_
        refine lv_iload_n hx hb d_Desk_takeCore_26 rfl (lv_at hl 2 rfl) ?_
        refine lv_iconst (v := (2 : Int32)) hx hb d_Desk_takeCore_27 (by decide) ?_
        obtain ⟨hn28, fa29⟩ := hL2
        refine va_calli (va_runV (As := [.int i, .int (2 : Int32)]) (rest := []) ⟨hx, hb, hml, hown, hA⟩ (c_Tc_entryField l D tt ad N A zs w (q + 23) (q + 21) uc 8192 up i (2 : Int32) (⟨hn28, fa29⟩) hL1 (ho.2.1 hc3)) (cwV 2 hA (cd_gV aw_515 aw_430 aw_431 aw_7 aw_432) rfl rfl rfl ⟨rfl, by decide, by decide, by decide +kernel⟩ ⟨Nat.le_of_ble_eq_true rfl, Nat.le_of_ble_eq_true rfl⟩) ⟨cd_blind, cd_recv hK hP (k := (q + 23)) (by omega) fa29 rfl, fun U hU hW => ⟨rfl, cd_pre hK hP hZ hS U hU hW⟩⟩ rfl rfl hl.1 rfl (lv_room (Nat.le_of_ble_eq_true rfl)) d_Desk_takeCore_28 ⟨Nat.zero_le _, Nat.zero_le _⟩) hS (fun _ _ h => h) (fun _ h => h) (fun r30 w4 tE H locs ht hvm hr31 hP hz1 hk1 hS => ?_)
        have hP := cd_Pf ht hP
        obtain ⟨rfl, rfl⟩ := hr31
        refine lv_istore_n (lv' := [(3, .int (f_Tc_entryField uc 8192 up i (2 : Int32))), (0, .ref (ad q)), (1, .int x), (2, .int i)]) hx hb d_Desk_takeCore_31 rfl hl (by decide) rfl (fun ls hl => ?_)
        refine lv_aload_n hx hb d_Desk_takeCore_32 rfl (lv_at hl 1 rfl) ?_
        refine g_get (ci := 6) (C := R_Desk) (T := F_Desk) (Nf := 9) (v := .ref (ad (q + 27))) hx hb hA in_Desk hown hK hP (k := q) (by omega) fa2 rfl 6 (by decide) (hA _ aw_106) (fun _ h9 => h9) rfl d_Desk_takeCore_33 ?_
        refine lv_iload_n hx hb d_Desk_takeCore_36 rfl (lv_at hl 0 rfl) ?_
        refine lv_aload_n hx hb d_Desk_takeCore_37 rfl (lv_at hl 1 rfl) ?_
        refine g_get (ci := 6) (C := R_Desk) (T := F_Desk) (Nf := 9) (v := .ref (ad (q + 23))) hx hb hA in_Desk hown hK hP (k := q) (by omega) fa2 rfl 5 (by decide) (hA _ aw_105) (fun _ h9 => h9) rfl d_Desk_takeCore_38 ?_
        refine lv_iload_n hx hb d_Desk_takeCore_41 rfl (lv_at hl 3 rfl) ?_
        refine lv_iconst (v := (5 : Int32)) hx hb d_Desk_takeCore_42 (by decide) ?_
        refine va_calli (va_runV (As := [.int i, .int (5 : Int32)]) (rest := [.int (f_Tc_entryField uc 8192 up i (2 : Int32)), .ref (ad (q + 27))]) ⟨hx, hb, hml, hown, hA⟩ (c_Tc_entryField l D tt ad N A zs w (q + 23) (q + 21) uc 8192 up i (5 : Int32) (⟨hn28, fa29⟩) hL1 (ho.2.2.1 hc3)) (cwV 2 hA (cd_gV aw_515 aw_430 aw_431 aw_7 aw_432) rfl rfl rfl ⟨rfl, by decide, by decide, by decide +kernel⟩ ⟨Nat.le_of_ble_eq_true rfl, Nat.le_of_ble_eq_true rfl⟩) ⟨cd_blind, cd_recv hK hP (k := (q + 23)) (by omega) fa29 rfl, fun U hU hW => ⟨rfl, cd_pre hK hP hZ hS U hU hW⟩⟩ rfl rfl hl.1 rfl (lv_room (Nat.le_of_ble_eq_true rfl)) d_Desk_takeCore_43 ⟨Nat.zero_le _, Nat.zero_le _⟩) hS (fun _ _ h => h) (fun _ h => h) (fun r33 w5 tE H locs ht hvm hr34 hP hz1 hk1 hS => ?_)
        have hP := cd_Pf ht hP
        obtain ⟨rfl, rfl⟩ := hr34
        refine lv_aload_n hx hb d_Desk_takeCore_46 rfl (lv_at hl 1 rfl) ?_
        refine g_get (ci := 6) (C := R_Desk) (T := F_Desk) (Nf := 9) (v := .ref (ad (q + 23))) hx hb hA in_Desk hown hK hP (k := q) (by omega) fa2 rfl 5 (by decide) (hA _ aw_105) (fun _ h9 => h9) rfl d_Desk_takeCore_47 ?_
        refine lv_iload_n hx hb d_Desk_takeCore_50 rfl (lv_at hl 3 rfl) ?_
        refine lv_bipush (v := (6 : Int32)) hx hb d_Desk_takeCore_51 (by decide) ?_
        refine va_calli (va_runV (As := [.int i, .int (6 : Int32)]) (rest := [.int (f_Tc_entryField uc 8192 up i (5 : Int32)), .int (f_Tc_entryField uc 8192 up i (2 : Int32)), .ref (ad (q + 27))]) ⟨hx, hb, hml, hown, hA⟩ (c_Tc_entryField l D tt ad N A zs w (q + 23) (q + 21) uc 8192 up i (6 : Int32) (⟨hn28, fa29⟩) hL1 (ho.2.2.2.1 hc3)) (cwV 2 hA (cd_gV aw_515 aw_430 aw_431 aw_7 aw_432) rfl rfl rfl ⟨rfl, by decide, by decide, by decide +kernel⟩ ⟨Nat.le_of_ble_eq_true rfl, Nat.le_of_ble_eq_true rfl⟩) ⟨cd_blind, cd_recv hK hP (k := (q + 23)) (by omega) fa29 rfl, fun U hU hW => ⟨rfl, cd_pre hK hP hZ hS U hU hW⟩⟩ rfl rfl hl.1 rfl (lv_room (Nat.le_of_ble_eq_true rfl)) d_Desk_takeCore_53 ⟨Nat.zero_le _, Nat.zero_le _⟩) hS (fun _ _ h => h) (fun _ h => h) (fun r36 w6 tE H locs ht hvm hr37 hP hz1 hk1 hS => ?_)
        have hP := cd_Pf ht hP
        obtain ⟨rfl, rfl⟩ := hr37
        obtain ⟨hn39, fa40, ⟨rf44, fa41, fa42⟩, fa43⟩ := hL4
        refine va_calli (va_runV (As := [.int (f_Tc_entryField uc 8192 up i (2 : Int32)), .int (f_Tc_entryField uc 8192 up i (5 : Int32)), .int (f_Tc_entryField uc 8192 up i (6 : Int32))]) (rest := []) ⟨hx, hb, hml, hown, hA⟩ (c_Mem_addRegion l D tt ad N A zs w (q + 27) vm' (f_Tc_entryField uc 8192 up i (2 : Int32)) (f_Tc_entryField uc 8192 up i (5 : Int32)) (f_Tc_entryField uc 8192 up i (6 : Int32)) (⟨hn39, fa40, ⟨rf44, fa41, fa42⟩, fa43⟩) (ho.2.2.2.2.1 hc3)) (cwV 3 hA (cd_gV aw_122 aw_123 aw_124 aw_2 aw_125) rfl rfl rfl ⟨rfl, by decide, by decide, by decide +kernel⟩ ⟨Nat.le_of_ble_eq_true rfl, Nat.le_of_ble_eq_true rfl⟩) ⟨cd_blind, cd_recv hK hP (k := (q + 27)) (by omega) fa40 rfl, fun U hU hW => ⟨rfl, cd_pre hK hP hZ hS U hU hW⟩⟩ rfl rfl hl.1 rfl (lv_room (Nat.le_of_ble_eq_true rfl)) d_Desk_takeCore_56 ⟨Nat.zero_le _, Nat.zero_le _⟩) hS (fun _ _ h => h) (fun _ h => h) (fun r45 w7 tE H locs ht hvm hr46 hP hz1 hk1 hS => ?_)
        have hP := cd_Pf ht hP
        obtain ⟨rfl, hbo48, at49, e7⟩ := hr46
        have fa50 := (e7 q (by omega)).trans fa2
        have at51 := cd_RowAt_keep hL1 (fun k h1 h2 => e7 k (by omega))
        have fa52 := (e7 (q + 23) (by omega)).trans fa29
        have at53 := cd_TtAt_keep hL3 (fun k h1 h2 => e7 k (by omega))
        have at54 := cd_TtAt_keep hL5 (fun k h1 h2 => e7 k (by omega))
        refine lv_pop hx hb d_Desk_takeCore_59 rfl ?_
        refine lv_aload_n hx hb d_Desk_takeCore_60 rfl (lv_at hl 1 rfl) ?_
        refine g_get (ci := 6) (C := R_Desk) (T := F_Desk) (Nf := 9) (v := .ref (ad (q + 27))) hx hb hA in_Desk hown hK hP (k := q) (by omega) fa50 rfl 6 (by decide) (hA _ aw_106) (fun _ h9 => h9) rfl d_Desk_takeCore_61 ?_
        refine lv_iload_n hx hb d_Desk_takeCore_64 rfl (lv_at hl 0 rfl) ?_
        refine lv_aload_n hx hb d_Desk_takeCore_65 rfl (lv_at hl 1 rfl) ?_
        refine g_get (ci := 6) (C := R_Desk) (T := F_Desk) (Nf := 9) (v := .ref (ad (q + 21))) hx hb hA in_Desk hown hK hP (k := q) (by omega) fa50 rfl 4 (by decide) (hA _ aw_104) (fun _ h9 => h9) rfl d_Desk_takeCore_66 ?_
        refine lv_aload_n hx hb d_Desk_takeCore_69 rfl (lv_at hl 1 rfl) ?_
        refine g_get (ci := 6) (C := R_Desk) (T := F_Desk) (Nf := 9) (v := .ref (ad (q + 23))) hx hb hA in_Desk hown hK hP (k := q) (by omega) fa50 rfl 5 (by decide) (hA _ aw_105) (fun _ h9 => h9) rfl d_Desk_takeCore_70 ?_
        refine lv_iload_n hx hb d_Desk_takeCore_73 rfl (lv_at hl 3 rfl) ?_
        refine lv_iconst (v := (1 : Int32)) hx hb d_Desk_takeCore_74 (by decide) ?_
        refine va_calli (va_runV (As := [.int i, .int (1 : Int32)]) (rest := [.ref (ad (q + 21)), .int (f_Tc_entryField uc 8192 up i (2 : Int32)), .ref (ad (q + 27))]) ⟨hx, hb, hml, hown, hA⟩ (c_Tc_entryField l D tt ad N A zs w7 (q + 23) (q + 21) uc 8192 up i (1 : Int32) (⟨hn28, fa52⟩) at51 (ho.2.2.2.2.2.1 hc3)) (cwV 2 hA (cd_gV aw_515 aw_430 aw_431 aw_7 aw_432) rfl rfl rfl ⟨rfl, by decide, by decide, by decide +kernel⟩ ⟨Nat.le_of_ble_eq_true rfl, Nat.le_of_ble_eq_true rfl⟩) ⟨cd_blind, cd_recv hK hP (k := (q + 23)) (by omega) fa52 rfl, fun U hU hW => ⟨rfl, cd_pre hK hP hZ hS U hU hW⟩⟩ rfl rfl hl.1 rfl (lv_room (Nat.le_of_ble_eq_true rfl)) d_Desk_takeCore_75 ⟨Nat.zero_le _, Nat.zero_le _⟩) hS (fun _ _ h => h) (fun _ h => h) (fun r55 w8 tE H locs ht hvm hr56 hP hz1 hk1 hS => ?_)
        have hP := cd_Pf ht hP
        obtain ⟨rfl, rfl⟩ := hr56
        refine lv_aload_n hx hb d_Desk_takeCore_78 rfl (lv_at hl 1 rfl) ?_
        refine g_get (ci := 6) (C := R_Desk) (T := F_Desk) (Nf := 9) (v := .ref (ad (q + 23))) hx hb hA in_Desk hown hK hP (k := q) (by omega) fa50 rfl 5 (by decide) (hA _ aw_105) (fun _ h9 => h9) rfl d_Desk_takeCore_79 ?_
        refine lv_iload_n hx hb d_Desk_takeCore_82 rfl (lv_at hl 3 rfl) ?_
        refine lv_iconst (v := (4 : Int32)) hx hb d_Desk_takeCore_83 (by decide) ?_
        refine va_calli (va_runV (As := [.int i, .int (4 : Int32)]) (rest := [.int (f_Tc_entryField uc 8192 up i (1 : Int32)), .ref (ad (q + 21)), .int (f_Tc_entryField uc 8192 up i (2 : Int32)), .ref (ad (q + 27))]) ⟨hx, hb, hml, hown, hA⟩ (c_Tc_entryField l D tt ad N A zs w7 (q + 23) (q + 21) uc 8192 up i (4 : Int32) (⟨hn28, fa52⟩) at51 (ho.2.2.2.2.2.2.1 hc3)) (cwV 2 hA (cd_gV aw_515 aw_430 aw_431 aw_7 aw_432) rfl rfl rfl ⟨rfl, by decide, by decide, by decide +kernel⟩ ⟨Nat.le_of_ble_eq_true rfl, Nat.le_of_ble_eq_true rfl⟩) ⟨cd_blind, cd_recv hK hP (k := (q + 23)) (by omega) fa52 rfl, fun U hU hW => ⟨rfl, cd_pre hK hP hZ hS U hU hW⟩⟩ rfl rfl hl.1 rfl (lv_room (Nat.le_of_ble_eq_true rfl)) d_Desk_takeCore_84 ⟨Nat.zero_le _, Nat.zero_le _⟩) hS (fun _ _ h => h) (fun _ h => h) (fun r58 w9 tE H locs ht hvm hr59 hP hz1 hk1 hS => ?_)
        have hP := cd_Pf ht hP
        obtain ⟨rfl, rfl⟩ := hr59
        obtain ⟨hn61, fa62, ⟨rf66, fa63, fa64⟩, fa65⟩ := at49
        refine va_callv (va_runV (As := [.int (f_Tc_entryField uc 8192 up i (2 : Int32)), .ref (ad (q + 21)), .int (f_Tc_entryField uc 8192 up i (1 : Int32)), .int (f_Tc_entryField uc 8192 up i (4 : Int32))]) (rest := []) ⟨hx, hb, hml, hown, hA⟩ (c_Mem_fillRegion l D tt ad N A zs w7 (q + 27) ((f_Mem_addRegion vm' (f_Tc_entryField uc 8192 up i (2 : Int32)) (f_Tc_entryField uc 8192 up i (5 : Int32)) (f_Tc_entryField uc 8192 up i (6 : Int32))).2) (q + 21) 8192 up (f_Tc_entryField uc 8192 up i (2 : Int32)) (f_Tc_entryField uc 8192 up i (1 : Int32)) (f_Tc_entryField uc 8192 up i (4 : Int32)) (⟨hn61, fa62, ⟨rf66, fa63, fa64⟩, fa65⟩) at51 (by omega) (ho.2.2.2.2.2.2.2.1 hc3)) (cwV 4 hA (cd_gV aw_516 aw_517 aw_518 aw_2 aw_519) rfl rfl rfl ⟨rfl, by decide, by decide, by decide +kernel⟩ ⟨Nat.le_of_ble_eq_true rfl, Nat.le_of_ble_eq_true rfl⟩) ⟨cd_blind, cd_recv hK hP (k := (q + 27)) (by omega) fa62 rfl, fun U hU hW => ⟨rfl, cd_pre hK hP hZ hS U hU hW⟩⟩ rfl rfl hl.1 rfl (lv_room (Nat.le_of_ble_eq_true rfl)) d_Desk_takeCore_87 ⟨Nat.zero_le _, Nat.zero_le _⟩) hS (fun _ _ h => h) (fun _ h => h) (fun w10 tE H locs ht hvm hr68 hP hz1 hk1 hS => ?_)
        have hP := cd_Pf ht hP
        obtain ⟨at70, e10⟩ := hr68
        have fa71 := (e10 q (by omega)).trans fa50
        have at72 := cd_RowAt_keep at51 (fun k h1 h2 => e10 k (by omega))
        have fa73 := (e10 (q + 23) (by omega)).trans fa52
        have at74 := cd_TtAt_keep at53 (fun k h1 h2 => e10 k (by omega))
        have at75 := cd_TtAt_keep at54 (fun k h1 h2 => e10 k (by omega))
        refine lv_iinc (k := 3) (v := (i + (1 : Int32))) (lv' := [(2, .int (i + (1 : Int32))), (3, .int (f_Tc_entryField uc 8192 up i (2 : Int32))), (0, .ref (ad q)), (1, .int x)]) hx hb d_Desk_takeCore_90 hl rfl (cd_inc _ _ _ (by decide)) (by decide) rfl (fun ls hl => ?_)
        refine lv_goto (tgt := 17) hx hb d_Desk_takeCore_93 (by decide) ?_
        exact ih x (i + (1 : Int32)) (f_Mem_fillRegion ((f_Mem_addRegion vm' (f_Tc_entryField uc 8192 up i (2 : Int32)) (f_Tc_entryField uc 8192 up i (5 : Int32)) (f_Tc_entryField uc 8192 up i (6 : Int32))).2) 8192 up (f_Tc_entryField uc 8192 up i (2 : Int32)) (f_Tc_entryField uc 8192 up i (1 : Int32)) (f_Tc_entryField uc 8192 up i (4 : Int32))) w10 (fun k hk => ((e10 k (by omega)).trans ((e7 k (by omega)).trans (efr k (by omega))))) H locs ls (lv_sub hl [2, 3, 0] rfl) (show (f_Desk_takeCore S up uc uh) = f_Desk_takeCore_L17 S up uc uh gn x (i + (1 : Int32)) (f_Mem_fillRegion ((f_Mem_addRegion vm' (f_Tc_entryField uc 8192 up i (2 : Int32)) (f_Tc_entryField uc 8192 up i (5 : Int32)) (f_Tc_entryField uc 8192 up i (6 : Int32))).2) 8192 up (f_Tc_entryField uc 8192 up i (2 : Int32)) (f_Tc_entryField uc 8192 up i (1 : Int32)) (f_Tc_entryField uc 8192 up i (4 : Int32))) by rw [he, f_Desk_takeCore_L17, if_neg hc3]) (⟨hn1, fa71⟩) at72 (⟨hn28, fa73⟩) at74 at70 at75 hP hS (ho.2.2.2.2.2.2.2.2 hc3)
  have hS : va_S A s.heap s.heap [] := va_S.rf
  have hl := lv_entry ([.ref (ad q)]) (n := 4) (Nat.le_of_ble_eq_true rfl)
  rw [lg_entry_eq]
  generalize (lg_sl ([.ref (ad q)]) ++ List.replicate (4 - (lg_sl ([.ref (ad q)])).length) Slot.unset).toArray = ls at hl ⊢
  have hl : lv_has ls 4 [(0, .ref (ad q))] := hl
  have ho : (o_Tc_entries uc 8192 up) ∧ (o_Desk_takeCore_L17 S up uc uh 8 (f_Tc_entries uc 8192 up) (1 : Int32) (f_Mem_clear S.2.1)) := ho
  obtain ⟨hn76, fa77⟩ := hR0
  refine lv_aload_n hx hb d_Desk_takeCore_0 rfl (lv_at hl 0 rfl) ?_
  refine g_get (ci := 6) (C := R_Desk) (T := F_Desk) (Nf := 9) (v := .ref (ad (q + 27))) hx hb hA in_Desk hown hK hP (k := q) (by omega) fa77 rfl 6 (by decide) (hA _ aw_106) (fun _ h9 => h9) rfl d_Desk_takeCore_1 ?_
  obtain ⟨hn78, fa79, ⟨rf83, fa80, fa81⟩, fa82⟩ := hR4
  refine va_callv (va_runV (As := []) (rest := []) ⟨hx, hb, hml, hown, hA⟩ (c_Mem_clear l D tt ad N A zs w0 (q + 27) S.2.1 (⟨hn78, fa79, ⟨rf83, fa80, fa81⟩, fa82⟩)) (cwV 0 hA (cd_gV aw_510 aw_511 aw_512 aw_2 aw_513) rfl rfl rfl ⟨rfl, by decide, by decide, by decide +kernel⟩ ⟨Nat.le_of_ble_eq_true rfl, Nat.le_of_ble_eq_true rfl⟩) ⟨cd_blind, cd_recv hK hP (k := (q + 27)) (by omega) fa79 rfl, fun U hU hW => ⟨rfl, cd_pre hK hP hZ hS U hU hW⟩⟩ rfl rfl hl.1 rfl (lv_room (Nat.le_of_ble_eq_true rfl)) d_Desk_takeCore_4 ⟨Nat.zero_le _, Nat.zero_le _⟩) hS (fun _ _ h => h) (fun _ h => h) (fun w11 tE H locs ht hvm hr85 hP hz1 hk1 hS => ?_)
  have hP := cd_Pf ht hP
  obtain ⟨at87, e11⟩ := hr85
  have fa88 := (e11 q (by omega)).trans fa77
  have at89 := cd_RowAt_keep hR1 (fun k h1 h2 => e11 k (by omega))
  have at90 := cd_TcAt_keep hR2 (fun k h1 h2 => e11 k (by omega))
  have at91 := cd_TtAt_keep hR3 (fun k h1 h2 => e11 k (by omega))
  have at92 := cd_TtAt_keep hR5 (fun k h1 h2 => e11 k (by omega))
  refine lv_aload_n hx hb d_Desk_takeCore_7 rfl (lv_at hl 0 rfl) ?_
  refine g_get (ci := 6) (C := R_Desk) (T := F_Desk) (Nf := 9) (v := .ref (ad (q + 23))) hx hb hA in_Desk hown hK hP (k := q) (by omega) fa88 rfl 5 (by decide) (hA _ aw_105) (fun _ h9 => h9) rfl d_Desk_takeCore_8 ?_
  obtain ⟨hn93, fa94⟩ := at90
  refine va_calli (va_runV (As := []) (rest := []) ⟨hx, hb, hml, hown, hA⟩ (c_Tc_entries l D tt ad N A zs w11 (q + 23) (q + 21) uc 8192 up (⟨hn93, fa94⟩) at89 (ho.1)) (cwV 0 hA (cd_gV aw_514 aw_417 aw_418 aw_7 aw_419) rfl rfl rfl ⟨rfl, by decide, by decide, by decide +kernel⟩ ⟨Nat.le_of_ble_eq_true rfl, Nat.le_of_ble_eq_true rfl⟩) ⟨cd_blind, cd_recv hK hP (k := (q + 23)) (by omega) fa94 rfl, fun U hU hW => ⟨rfl, cd_pre hK hP hZ hS U hU hW⟩⟩ rfl rfl hl.1 rfl (lv_room (Nat.le_of_ble_eq_true rfl)) d_Desk_takeCore_11 ⟨Nat.zero_le _, Nat.zero_le _⟩) hS (fun _ _ h => h) (fun _ h => h) (fun r95 w12 tE H locs ht hvm hr96 hP hz1 hk1 hS => ?_)
  have hP := cd_Pf ht hP
  obtain ⟨rfl, rfl⟩ := hr96
  refine lv_istore_n (lv' := [(1, .int (f_Tc_entries uc 8192 up)), (0, .ref (ad q))]) hx hb d_Desk_takeCore_14 rfl hl (by decide) rfl (fun ls hl => ?_)
  refine lv_iconst (v := (1 : Int32)) hx hb d_Desk_takeCore_15 (by decide) ?_
  refine lv_istore_n (lv' := [(2, .int (1 : Int32)), (1, .int (f_Tc_entries uc 8192 up)), (0, .ref (ad q))]) hx hb d_Desk_takeCore_16 rfl hl (by decide) rfl (fun ls hl => ?_)
  exact L17 8 (f_Tc_entries uc 8192 up) (1 : Int32) (f_Mem_clear S.2.1) w11 (fun k hk => (e11 k (by omega))) H locs ls (lv_sub hl [2, 1, 0] rfl) (show (f_Desk_takeCore S up uc uh) = f_Desk_takeCore_L17 S up uc uh 8 (f_Tc_entries uc 8192 up) (1 : Int32) (f_Mem_clear S.2.1) by rw [f_Desk_takeCore]) (⟨hn76, fa88⟩) at89 (⟨hn93, fa94⟩) at91 at87 at92 hP hS (ho.2)
