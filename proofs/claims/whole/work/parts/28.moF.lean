def f_Mo_noteByte (k0 : Int32) : Int32 := (if k0 = (0 : Int32) then (5 : Int32) else (if k0 = (1 : Int32) then (0 : Int32) else (if k0 = (2 : Int32) then (0 : Int32) else (if k0 = (3 : Int32) then (0 : Int32) else (if k0 = (4 : Int32) then (-1 : Int32) else (if k0 = (5 : Int32) then (-1 : Int32) else (if k0 = (6 : Int32) then (-1 : Int32) else (if k0 = (7 : Int32) then (-1 : Int32) else (if k0 = (8 : Int32) then (-1 : Int32) else (if k0 = (9 : Int32) then (-1 : Int32) else (if k0 = (10 : Int32) then (-1 : Int32) else (if k0 = (11 : Int32) then (-1 : Int32) else (if k0 = (12 : Int32) then (67 : Int32) else (if k0 = (13 : Int32) then (79 : Int32) else (if k0 = (14 : Int32) then (82 : Int32) else (if k0 = (15 : Int32) then (69 : Int32) else (if k0 = (16 : Int32) then (0 : Int32) else (if k0 = (17 : Int32) then (0 : Int32) else (if k0 = (18 : Int32) then (0 : Int32) else (if k0 = (19 : Int32) then (0 : Int32) else (-1 : Int32)))))))))))))))))))))
set_option maxHeartbeats 4000000 in
set_option maxRecDepth 100000 in
theorem c_Mo_noteByte (l : Launch) (D : va_G) (tt : Nat → ClassId) (ad : Nat → Nat) (N : Nat) (A : Nat → Prop) (zs : Nat → Nat) (w0 : Nat → va_E) (k0 : Int32) : Met l y_Mo_noteByte w_Mo_noteByte ({ frames := 0, cells := 0, slots := 0, locals := 0 }) (va_Pc [.int k0] (cd_U D tt ad N A zs w0)) (va_Qi (fun r w' => (f_Mo_noteByte k0) = r ∧ w0 = w') (fun w' t => cd_P D ad N A w' t.heap) A) 0 0 A := by
  refine Met.ofW (cc := b_Mo_noteByte) (maxL := 1) (ret := (some .int)) (by decide) rfl ?_
  intro p e s m args below meth c s₁ B hml hv
  obtain ⟨rfl, hP, hK, hZ⟩ := hv
  have hx := B.exec
  have hb := B.bytes
  have hr := B.returns
  have hA : ∀ w ∈ cd_AW, w.before _ s = true := fun w h => atoms_spec (ws := w_Mo_noteByte) B.pre w (List.mem_cons_of_mem _ h)
  have hown : s.vm.findClass R_Mo = some m.cls := findClass_of_methodNamed B.named
  have hlocks := B.notSynchronized
  have hS : va_S A s.heap s.heap [] := va_S.rf
  have hl := lv_entry ([.int k0]) (n := 1) (Nat.le_of_ble_eq_true rfl)
  rw [lg_entry_eq]
  generalize (lg_sl ([.int k0]) ++ List.replicate (1 - (lg_sl ([.int k0])).length) Slot.unset).toArray = ls at hl ⊢
  have hl : lv_has ls 1 [(0, .int k0)] := hl
  refine lv_iload_n hx hb d_Mo_noteByte_0 rfl (lv_at hl 0 rfl) ?_
  by_cases hc1 : k0 = (0 : Int32)
  · refine g_tabIn (tgt := 96) (off := 95) hx hb d_Mo_noteByte_1 hc1 (by decide) (by decide) (by decide) (by decide) ?_
    refine lv_iconst (v := (5 : Int32)) hx hb d_Mo_noteByte_96 (by decide) ?_
    have hf2 : (f_Mo_noteByte k0) = (5 : Int32) := by rw [f_Mo_noteByte, if_pos hc1]
    exact W.iret (v := (5 : Int32)) hx hb hr (fun tE ht _ => ⟨⟨_, w0, rfl, ⟨hf2, rfl⟩, cd_Pt ht hP⟩, hS.F ht⟩) hS.2.2 d_Mo_noteByte_97
  by_cases hc3 : k0 = (1 : Int32)
  · refine g_tabIn (tgt := 98) (off := 97) hx hb d_Mo_noteByte_1 hc3 (by decide) (by decide) (by decide) (by decide) ?_
    refine lv_iconst (v := (0 : Int32)) hx hb d_Mo_noteByte_98 (by decide) ?_
    have hf4 : (f_Mo_noteByte k0) = (0 : Int32) := by rw [f_Mo_noteByte, if_neg hc1, if_pos hc3]
    exact W.iret (v := (0 : Int32)) hx hb hr (fun tE ht _ => ⟨⟨_, w0, rfl, ⟨hf4, rfl⟩, cd_Pt ht hP⟩, hS.F ht⟩) hS.2.2 d_Mo_noteByte_99
  by_cases hc5 : k0 = (2 : Int32)
  · refine g_tabIn (tgt := 98) (off := 97) hx hb d_Mo_noteByte_1 hc5 (by decide) (by decide) (by decide) (by decide) ?_
    refine lv_iconst (v := (0 : Int32)) hx hb d_Mo_noteByte_98 (by decide) ?_
    have hf6 : (f_Mo_noteByte k0) = (0 : Int32) := by rw [f_Mo_noteByte, if_neg hc1, if_neg hc3, if_pos hc5]
    exact W.iret (v := (0 : Int32)) hx hb hr (fun tE ht _ => ⟨⟨_, w0, rfl, ⟨hf6, rfl⟩, cd_Pt ht hP⟩, hS.F ht⟩) hS.2.2 d_Mo_noteByte_99
  by_cases hc7 : k0 = (3 : Int32)
  · refine g_tabIn (tgt := 98) (off := 97) hx hb d_Mo_noteByte_1 hc7 (by decide) (by decide) (by decide) (by decide) ?_
    refine lv_iconst (v := (0 : Int32)) hx hb d_Mo_noteByte_98 (by decide) ?_
    have hf8 : (f_Mo_noteByte k0) = (0 : Int32) := by rw [f_Mo_noteByte, if_neg hc1, if_neg hc3, if_neg hc5, if_pos hc7]
    exact W.iret (v := (0 : Int32)) hx hb hr (fun tE ht _ => ⟨⟨_, w0, rfl, ⟨hf8, rfl⟩, cd_Pt ht hP⟩, hS.F ht⟩) hS.2.2 d_Mo_noteByte_99
  by_cases hc9 : k0 = (4 : Int32)
  · refine g_tabIn (tgt := 112) (off := 111) hx hb d_Mo_noteByte_1 hc9 (by decide) (by decide) (by decide) (by decide) ?_
    refine lv_iconst (v := (-1 : Int32)) hx hb d_Mo_noteByte_112 (by decide) ?_
    have hf10 : (f_Mo_noteByte k0) = (-1 : Int32) := by rw [f_Mo_noteByte, if_neg hc1, if_neg hc3, if_neg hc5, if_neg hc7, if_pos hc9]
    exact W.iret (v := (-1 : Int32)) hx hb hr (fun tE ht _ => ⟨⟨_, w0, rfl, ⟨hf10, rfl⟩, cd_Pt ht hP⟩, hS.F ht⟩) hS.2.2 d_Mo_noteByte_113
  by_cases hc11 : k0 = (5 : Int32)
  · refine g_tabIn (tgt := 112) (off := 111) hx hb d_Mo_noteByte_1 hc11 (by decide) (by decide) (by decide) (by decide) ?_
    refine lv_iconst (v := (-1 : Int32)) hx hb d_Mo_noteByte_112 (by decide) ?_
    have hf12 : (f_Mo_noteByte k0) = (-1 : Int32) := by rw [f_Mo_noteByte, if_neg hc1, if_neg hc3, if_neg hc5, if_neg hc7, if_neg hc9, if_pos hc11]
    exact W.iret (v := (-1 : Int32)) hx hb hr (fun tE ht _ => ⟨⟨_, w0, rfl, ⟨hf12, rfl⟩, cd_Pt ht hP⟩, hS.F ht⟩) hS.2.2 d_Mo_noteByte_113
  by_cases hc13 : k0 = (6 : Int32)
  · refine g_tabIn (tgt := 112) (off := 111) hx hb d_Mo_noteByte_1 hc13 (by decide) (by decide) (by decide) (by decide) ?_
    refine lv_iconst (v := (-1 : Int32)) hx hb d_Mo_noteByte_112 (by decide) ?_
    have hf14 : (f_Mo_noteByte k0) = (-1 : Int32) := by rw [f_Mo_noteByte, if_neg hc1, if_neg hc3, if_neg hc5, if_neg hc7, if_neg hc9, if_neg hc11, if_pos hc13]
    exact W.iret (v := (-1 : Int32)) hx hb hr (fun tE ht _ => ⟨⟨_, w0, rfl, ⟨hf14, rfl⟩, cd_Pt ht hP⟩, hS.F ht⟩) hS.2.2 d_Mo_noteByte_113
  by_cases hc15 : k0 = (7 : Int32)
  · refine g_tabIn (tgt := 112) (off := 111) hx hb d_Mo_noteByte_1 hc15 (by decide) (by decide) (by decide) (by decide) ?_
    refine lv_iconst (v := (-1 : Int32)) hx hb d_Mo_noteByte_112 (by decide) ?_
    have hf16 : (f_Mo_noteByte k0) = (-1 : Int32) := by rw [f_Mo_noteByte, if_neg hc1, if_neg hc3, if_neg hc5, if_neg hc7, if_neg hc9, if_neg hc11, if_neg hc13, if_pos hc15]
    exact W.iret (v := (-1 : Int32)) hx hb hr (fun tE ht _ => ⟨⟨_, w0, rfl, ⟨hf16, rfl⟩, cd_Pt ht hP⟩, hS.F ht⟩) hS.2.2 d_Mo_noteByte_113
  by_cases hc17 : k0 = (8 : Int32)
  · refine g_tabIn (tgt := 112) (off := 111) hx hb d_Mo_noteByte_1 hc17 (by decide) (by decide) (by decide) (by decide) ?_
    refine lv_iconst (v := (-1 : Int32)) hx hb d_Mo_noteByte_112 (by decide) ?_
    have hf18 : (f_Mo_noteByte k0) = (-1 : Int32) := by rw [f_Mo_noteByte, if_neg hc1, if_neg hc3, if_neg hc5, if_neg hc7, if_neg hc9, if_neg hc11, if_neg hc13, if_neg hc15, if_pos hc17]
    exact W.iret (v := (-1 : Int32)) hx hb hr (fun tE ht _ => ⟨⟨_, w0, rfl, ⟨hf18, rfl⟩, cd_Pt ht hP⟩, hS.F ht⟩) hS.2.2 d_Mo_noteByte_113
  by_cases hc19 : k0 = (9 : Int32)
  · refine g_tabIn (tgt := 112) (off := 111) hx hb d_Mo_noteByte_1 hc19 (by decide) (by decide) (by decide) (by decide) ?_
    refine lv_iconst (v := (-1 : Int32)) hx hb d_Mo_noteByte_112 (by decide) ?_
    have hf20 : (f_Mo_noteByte k0) = (-1 : Int32) := by rw [f_Mo_noteByte, if_neg hc1, if_neg hc3, if_neg hc5, if_neg hc7, if_neg hc9, if_neg hc11, if_neg hc13, if_neg hc15, if_neg hc17, if_pos hc19]
    exact W.iret (v := (-1 : Int32)) hx hb hr (fun tE ht _ => ⟨⟨_, w0, rfl, ⟨hf20, rfl⟩, cd_Pt ht hP⟩, hS.F ht⟩) hS.2.2 d_Mo_noteByte_113
  by_cases hc21 : k0 = (10 : Int32)
  · refine g_tabIn (tgt := 112) (off := 111) hx hb d_Mo_noteByte_1 hc21 (by decide) (by decide) (by decide) (by decide) ?_
    refine lv_iconst (v := (-1 : Int32)) hx hb d_Mo_noteByte_112 (by decide) ?_
    have hf22 : (f_Mo_noteByte k0) = (-1 : Int32) := by rw [f_Mo_noteByte, if_neg hc1, if_neg hc3, if_neg hc5, if_neg hc7, if_neg hc9, if_neg hc11, if_neg hc13, if_neg hc15, if_neg hc17, if_neg hc19, if_pos hc21]
    exact W.iret (v := (-1 : Int32)) hx hb hr (fun tE ht _ => ⟨⟨_, w0, rfl, ⟨hf22, rfl⟩, cd_Pt ht hP⟩, hS.F ht⟩) hS.2.2 d_Mo_noteByte_113
  by_cases hc23 : k0 = (11 : Int32)
  · refine g_tabIn (tgt := 112) (off := 111) hx hb d_Mo_noteByte_1 hc23 (by decide) (by decide) (by decide) (by decide) ?_
    refine lv_iconst (v := (-1 : Int32)) hx hb d_Mo_noteByte_112 (by decide) ?_
    have hf24 : (f_Mo_noteByte k0) = (-1 : Int32) := by rw [f_Mo_noteByte, if_neg hc1, if_neg hc3, if_neg hc5, if_neg hc7, if_neg hc9, if_neg hc11, if_neg hc13, if_neg hc15, if_neg hc17, if_neg hc19, if_neg hc21, if_pos hc23]
    exact W.iret (v := (-1 : Int32)) hx hb hr (fun tE ht _ => ⟨⟨_, w0, rfl, ⟨hf24, rfl⟩, cd_Pt ht hP⟩, hS.F ht⟩) hS.2.2 d_Mo_noteByte_113
  by_cases hc25 : k0 = (12 : Int32)
  · refine g_tabIn (tgt := 100) (off := 99) hx hb d_Mo_noteByte_1 hc25 (by decide) (by decide) (by decide) (by decide) ?_
    refine lv_bipush (v := (67 : Int32)) hx hb d_Mo_noteByte_100 (by decide) ?_
    have hf26 : (f_Mo_noteByte k0) = (67 : Int32) := by rw [f_Mo_noteByte, if_neg hc1, if_neg hc3, if_neg hc5, if_neg hc7, if_neg hc9, if_neg hc11, if_neg hc13, if_neg hc15, if_neg hc17, if_neg hc19, if_neg hc21, if_neg hc23, if_pos hc25]
    exact W.iret (v := (67 : Int32)) hx hb hr (fun tE ht _ => ⟨⟨_, w0, rfl, ⟨hf26, rfl⟩, cd_Pt ht hP⟩, hS.F ht⟩) hS.2.2 d_Mo_noteByte_102
  by_cases hc27 : k0 = (13 : Int32)
  · refine g_tabIn (tgt := 103) (off := 102) hx hb d_Mo_noteByte_1 hc27 (by decide) (by decide) (by decide) (by decide) ?_
    refine lv_bipush (v := (79 : Int32)) hx hb d_Mo_noteByte_103 (by decide) ?_
    have hf28 : (f_Mo_noteByte k0) = (79 : Int32) := by rw [f_Mo_noteByte, if_neg hc1, if_neg hc3, if_neg hc5, if_neg hc7, if_neg hc9, if_neg hc11, if_neg hc13, if_neg hc15, if_neg hc17, if_neg hc19, if_neg hc21, if_neg hc23, if_neg hc25, if_pos hc27]
    exact W.iret (v := (79 : Int32)) hx hb hr (fun tE ht _ => ⟨⟨_, w0, rfl, ⟨hf28, rfl⟩, cd_Pt ht hP⟩, hS.F ht⟩) hS.2.2 d_Mo_noteByte_105
  by_cases hc29 : k0 = (14 : Int32)
  · refine g_tabIn (tgt := 106) (off := 105) hx hb d_Mo_noteByte_1 hc29 (by decide) (by decide) (by decide) (by decide) ?_
    refine lv_bipush (v := (82 : Int32)) hx hb d_Mo_noteByte_106 (by decide) ?_
    have hf30 : (f_Mo_noteByte k0) = (82 : Int32) := by rw [f_Mo_noteByte, if_neg hc1, if_neg hc3, if_neg hc5, if_neg hc7, if_neg hc9, if_neg hc11, if_neg hc13, if_neg hc15, if_neg hc17, if_neg hc19, if_neg hc21, if_neg hc23, if_neg hc25, if_neg hc27, if_pos hc29]
    exact W.iret (v := (82 : Int32)) hx hb hr (fun tE ht _ => ⟨⟨_, w0, rfl, ⟨hf30, rfl⟩, cd_Pt ht hP⟩, hS.F ht⟩) hS.2.2 d_Mo_noteByte_108
  by_cases hc31 : k0 = (15 : Int32)
  · refine g_tabIn (tgt := 109) (off := 108) hx hb d_Mo_noteByte_1 hc31 (by decide) (by decide) (by decide) (by decide) ?_
    refine lv_bipush (v := (69 : Int32)) hx hb d_Mo_noteByte_109 (by decide) ?_
    have hf32 : (f_Mo_noteByte k0) = (69 : Int32) := by rw [f_Mo_noteByte, if_neg hc1, if_neg hc3, if_neg hc5, if_neg hc7, if_neg hc9, if_neg hc11, if_neg hc13, if_neg hc15, if_neg hc17, if_neg hc19, if_neg hc21, if_neg hc23, if_neg hc25, if_neg hc27, if_neg hc29, if_pos hc31]
    exact W.iret (v := (69 : Int32)) hx hb hr (fun tE ht _ => ⟨⟨_, w0, rfl, ⟨hf32, rfl⟩, cd_Pt ht hP⟩, hS.F ht⟩) hS.2.2 d_Mo_noteByte_111
  by_cases hc33 : k0 = (16 : Int32)
  · refine g_tabIn (tgt := 98) (off := 97) hx hb d_Mo_noteByte_1 hc33 (by decide) (by decide) (by decide) (by decide) ?_
    refine lv_iconst (v := (0 : Int32)) hx hb d_Mo_noteByte_98 (by decide) ?_
    have hf34 : (f_Mo_noteByte k0) = (0 : Int32) := by rw [f_Mo_noteByte, if_neg hc1, if_neg hc3, if_neg hc5, if_neg hc7, if_neg hc9, if_neg hc11, if_neg hc13, if_neg hc15, if_neg hc17, if_neg hc19, if_neg hc21, if_neg hc23, if_neg hc25, if_neg hc27, if_neg hc29, if_neg hc31, if_pos hc33]
    exact W.iret (v := (0 : Int32)) hx hb hr (fun tE ht _ => ⟨⟨_, w0, rfl, ⟨hf34, rfl⟩, cd_Pt ht hP⟩, hS.F ht⟩) hS.2.2 d_Mo_noteByte_99
  by_cases hc35 : k0 = (17 : Int32)
  · refine g_tabIn (tgt := 98) (off := 97) hx hb d_Mo_noteByte_1 hc35 (by decide) (by decide) (by decide) (by decide) ?_
    refine lv_iconst (v := (0 : Int32)) hx hb d_Mo_noteByte_98 (by decide) ?_
    have hf36 : (f_Mo_noteByte k0) = (0 : Int32) := by rw [f_Mo_noteByte, if_neg hc1, if_neg hc3, if_neg hc5, if_neg hc7, if_neg hc9, if_neg hc11, if_neg hc13, if_neg hc15, if_neg hc17, if_neg hc19, if_neg hc21, if_neg hc23, if_neg hc25, if_neg hc27, if_neg hc29, if_neg hc31, if_neg hc33, if_pos hc35]
    exact W.iret (v := (0 : Int32)) hx hb hr (fun tE ht _ => ⟨⟨_, w0, rfl, ⟨hf36, rfl⟩, cd_Pt ht hP⟩, hS.F ht⟩) hS.2.2 d_Mo_noteByte_99
  by_cases hc37 : k0 = (18 : Int32)
  · refine g_tabIn (tgt := 98) (off := 97) hx hb d_Mo_noteByte_1 hc37 (by decide) (by decide) (by decide) (by decide) ?_
    refine lv_iconst (v := (0 : Int32)) hx hb d_Mo_noteByte_98 (by decide) ?_
    have hf38 : (f_Mo_noteByte k0) = (0 : Int32) := by rw [f_Mo_noteByte, if_neg hc1, if_neg hc3, if_neg hc5, if_neg hc7, if_neg hc9, if_neg hc11, if_neg hc13, if_neg hc15, if_neg hc17, if_neg hc19, if_neg hc21, if_neg hc23, if_neg hc25, if_neg hc27, if_neg hc29, if_neg hc31, if_neg hc33, if_neg hc35, if_pos hc37]
    exact W.iret (v := (0 : Int32)) hx hb hr (fun tE ht _ => ⟨⟨_, w0, rfl, ⟨hf38, rfl⟩, cd_Pt ht hP⟩, hS.F ht⟩) hS.2.2 d_Mo_noteByte_99
  by_cases hc39 : k0 = (19 : Int32)
  · refine g_tabIn (tgt := 98) (off := 97) hx hb d_Mo_noteByte_1 hc39 (by decide) (by decide) (by decide) (by decide) ?_
    refine lv_iconst (v := (0 : Int32)) hx hb d_Mo_noteByte_98 (by decide) ?_
    have hf40 : (f_Mo_noteByte k0) = (0 : Int32) := by rw [f_Mo_noteByte, if_neg hc1, if_neg hc3, if_neg hc5, if_neg hc7, if_neg hc9, if_neg hc11, if_neg hc13, if_neg hc15, if_neg hc17, if_neg hc19, if_neg hc21, if_neg hc23, if_neg hc25, if_neg hc27, if_neg hc29, if_neg hc31, if_neg hc33, if_neg hc35, if_neg hc37, if_pos hc39]
    exact W.iret (v := (0 : Int32)) hx hb hr (fun tE ht _ => ⟨⟨_, w0, rfl, ⟨hf40, rfl⟩, cd_Pt ht hP⟩, hS.F ht⟩) hS.2.2 d_Mo_noteByte_99
  refine lv_tableOut (tgt := 112) hx hb d_Mo_noteByte_1 (cd_out0_19 hc1 hc3 hc5 hc7 hc9 hc11 hc13 hc15 hc17 hc19 hc21 hc23 hc25 hc27 hc29 hc31 hc33 hc35 hc37 hc39) (by decide) ?_
  refine lv_iconst (v := (-1 : Int32)) hx hb d_Mo_noteByte_112 (by decide) ?_
  have hf41 : (f_Mo_noteByte k0) = (-1 : Int32) := by rw [f_Mo_noteByte, if_neg hc1, if_neg hc3, if_neg hc5, if_neg hc7, if_neg hc9, if_neg hc11, if_neg hc13, if_neg hc15, if_neg hc17, if_neg hc19, if_neg hc21, if_neg hc23, if_neg hc25, if_neg hc27, if_neg hc29, if_neg hc31, if_neg hc33, if_neg hc35, if_neg hc37, if_neg hc39]
  exact W.iret (v := (-1 : Int32)) hx hb hr (fun tE ht _ => ⟨⟨_, w0, rfl, ⟨hf41, rfl⟩, cd_Pt ht hP⟩, hS.F ht⟩) hS.2.2 d_Mo_noteByte_113
def f_Mo_note_L261 (S : cd_Mo × cd_Ia × cd_Ia × cd_Ia) (mp : cd_By) (k0 : Int32) (k1 : Int32) : Nat → Int64 → Int32 → (cd_Mo × cd_Ia × cd_Ia × cd_Ia) → Int32 × cd_Mo × cd_Ia × cd_Ia × cd_Ia
  | 0, _, _, _ => default
  | gn + 1, x4, x7, S' => (if (8 : Int32) ≤ x7 then (x4.toInt32, S'.1, (upd S'.2.1 (2 : Int32).toNatClampNeg ((S'.2.1 (2 : Int32).toNatClampNeg) + (1 : Int32))), S'.2.2.1, S'.2.2.2) else (f_Mo_note_L261 S mp k0 k1 gn x4 (x7 + (1 : Int32)) (S'.1, S'.2.1, S'.2.2.1, (upd S'.2.2.2 (((8 : Int32) * ((6 : Int32) + (S'.2.1 (2 : Int32).toNatClampNeg))) + x7).toNatClampNeg (f_Mo_fourAt S'.1 mp ((k0 + (24 : Int32)) + ((4 : Int32) * x7)))))))
def f_Mo_note_L23 (S : cd_Mo × cd_Ia × cd_Ia × cd_Ia) (mp : cd_By) (k0 : Int32) (k1 : Int32) : Nat → Int32 → (cd_Mo × cd_Ia × cd_Ia × cd_Ia) → Int32 × cd_Mo × cd_Ia × cd_Ia × cd_Ia
  | 0, _, _ => default
  | gn + 1, x3, S' => (if (20 : Int32) ≤ x3 then (if (f_Mo_fourAt S'.1 mp (k0 + (4 : Int32))) < 0 then (if (k0 + (4 : Int32)) = (-1 : Int32) then (if (f_Mo_fourAt S'.1 mp (k0 + (8 : Int32))) = (1 : Int32) then (f_Mo_note_L261 S mp k0 k1 9 ((20 : Int64) + ((((f_Mo_fourAt S'.1 mp (k0 + (4 : Int32))).toInt64 + (3 : Int64)) / (4 : Int64)) * (4 : Int64))) (0 : Int32) (S'.1, S'.2.1, (upd S'.2.2.1 ((6 : Int32) + (S'.2.1 (2 : Int32).toNatClampNeg)).toNatClampNeg (f_Mo_fourAt S'.1 mp (k0 + (20 : Int32)))), S'.2.2.2)) else (((20 : Int64) + ((((f_Mo_fourAt S'.1 mp (k0 + (4 : Int32))).toInt64 + (3 : Int64)) / (4 : Int64)) * (4 : Int64))).toInt32, S'.1, S'.2.1, S'.2.2.1, S'.2.2.2)) else ((-1 : Int32), (S'.1.1, S'.1.2.1, S'.1.2.2.1, S'.1.2.2.2.1, (6 : Int32), (k0 + (4 : Int32))), S'.2.1, S'.2.2.1, S'.2.2.2)) else (if (k0.toInt64 + ((20 : Int64) + ((((f_Mo_fourAt S'.1 mp (k0 + (4 : Int32))).toInt64 + (3 : Int64)) / (4 : Int64)) * (4 : Int64)))) ≤ k1.toInt64 then (if (f_Mo_fourAt S'.1 mp (k0 + (8 : Int32))) = (1 : Int32) then (if (f_Mo_fourAt S'.1 mp (k0 + (4 : Int32))) = (36 : Int32) then (if (f_Mo_hasId S'.1 S'.2.1 S'.2.2.1 (2 : Int32) (f_Mo_fourAt S'.1 mp (k0 + (20 : Int32)))) = 0 then (if (S'.2.1 (2 : Int32).toNatClampNeg) = (3 : Int32) then (if k0 = (-1 : Int32) then (f_Mo_note_L261 S mp k0 k1 9 ((20 : Int64) + ((((f_Mo_fourAt S'.1 mp (k0 + (4 : Int32))).toInt64 + (3 : Int64)) / (4 : Int64)) * (4 : Int64))) (0 : Int32) (S'.1, S'.2.1, (upd S'.2.2.1 ((6 : Int32) + (S'.2.1 (2 : Int32).toNatClampNeg)).toNatClampNeg (f_Mo_fourAt S'.1 mp (k0 + (20 : Int32)))), S'.2.2.2)) else ((-1 : Int32), (S'.1.1, S'.1.2.1, S'.1.2.2.1, S'.1.2.2.2.1, (6 : Int32), k0), S'.2.1, S'.2.2.1, S'.2.2.2)) else (f_Mo_note_L261 S mp k0 k1 9 ((20 : Int64) + ((((f_Mo_fourAt S'.1 mp (k0 + (4 : Int32))).toInt64 + (3 : Int64)) / (4 : Int64)) * (4 : Int64))) (0 : Int32) (S'.1, S'.2.1, (upd S'.2.2.1 ((6 : Int32) + (S'.2.1 (2 : Int32).toNatClampNeg)).toNatClampNeg (f_Mo_fourAt S'.1 mp (k0 + (20 : Int32)))), S'.2.2.2))) else (if (k0 + (20 : Int32)) = (-1 : Int32) then (f_Mo_note_L261 S mp k0 k1 9 ((20 : Int64) + ((((f_Mo_fourAt S'.1 mp (k0 + (4 : Int32))).toInt64 + (3 : Int64)) / (4 : Int64)) * (4 : Int64))) (0 : Int32) (S'.1, S'.2.1, (upd S'.2.2.1 ((6 : Int32) + (S'.2.1 (2 : Int32).toNatClampNeg)).toNatClampNeg (f_Mo_fourAt S'.1 mp (k0 + (20 : Int32)))), S'.2.2.2)) else ((-1 : Int32), (S'.1.1, S'.1.2.1, S'.1.2.2.1, S'.1.2.2.2.1, (6 : Int32), (k0 + (20 : Int32))), S'.2.1, S'.2.2.1, S'.2.2.2))) else (if (k0 + (4 : Int32)) = (-1 : Int32) then (f_Mo_note_L261 S mp k0 k1 9 ((20 : Int64) + ((((f_Mo_fourAt S'.1 mp (k0 + (4 : Int32))).toInt64 + (3 : Int64)) / (4 : Int64)) * (4 : Int64))) (0 : Int32) (S'.1, S'.2.1, (upd S'.2.2.1 ((6 : Int32) + (S'.2.1 (2 : Int32).toNatClampNeg)).toNatClampNeg (f_Mo_fourAt S'.1 mp (k0 + (20 : Int32)))), S'.2.2.2)) else ((-1 : Int32), (S'.1.1, S'.1.2.1, S'.1.2.2.1, S'.1.2.2.2.1, (6 : Int32), (k0 + (4 : Int32))), S'.2.1, S'.2.2.1, S'.2.2.2))) else (((20 : Int64) + ((((f_Mo_fourAt S'.1 mp (k0 + (4 : Int32))).toInt64 + (3 : Int64)) / (4 : Int64)) * (4 : Int64))).toInt32, S'.1, S'.2.1, S'.2.2.1, S'.2.2.2)) else (if (k0 + (4 : Int32)) = (-1 : Int32) then (if (f_Mo_fourAt S'.1 mp (k0 + (8 : Int32))) = (1 : Int32) then (f_Mo_note_L261 S mp k0 k1 9 ((20 : Int64) + ((((f_Mo_fourAt S'.1 mp (k0 + (4 : Int32))).toInt64 + (3 : Int64)) / (4 : Int64)) * (4 : Int64))) (0 : Int32) (S'.1, S'.2.1, (upd S'.2.2.1 ((6 : Int32) + (S'.2.1 (2 : Int32).toNatClampNeg)).toNatClampNeg (f_Mo_fourAt S'.1 mp (k0 + (20 : Int32)))), S'.2.2.2)) else (((20 : Int64) + ((((f_Mo_fourAt S'.1 mp (k0 + (4 : Int32))).toInt64 + (3 : Int64)) / (4 : Int64)) * (4 : Int64))).toInt32, S'.1, S'.2.1, S'.2.2.1, S'.2.2.2)) else ((-1 : Int32), (S'.1.1, S'.1.2.1, S'.1.2.2.1, S'.1.2.2.2.1, (6 : Int32), (k0 + (4 : Int32))), S'.2.1, S'.2.2.1, S'.2.2.2)))) else (if (f_Mo_noteByte x3) = (-1 : Int32) then (f_Mo_note_L23 S mp k0 k1 gn (x3 + (1 : Int32)) S') else (if (f_Mo_noteByte x3) = ((mp (k0 + x3).toNatClampNeg) &&& (255 : Int32)) then (f_Mo_note_L23 S mp k0 k1 gn (x3 + (1 : Int32)) S') else (if (4 : Int32) ≤ x3 then ((-1 : Int32), (S'.1.1, S'.1.2.1, S'.1.2.2.1, S'.1.2.2.2.1, (6 : Int32), (k0 + x3)), S'.2.1, S'.2.2.1, S'.2.2.2) else ((-1 : Int32), (S'.1.1, S'.1.2.1, S'.1.2.2.1, S'.1.2.2.2.1, (6 : Int32), k0), S'.2.1, S'.2.2.1, S'.2.2.2)))))
def f_Mo_note (S : cd_Mo × cd_Ia × cd_Ia × cd_Ia) (mp : cd_By) (k0 : Int32) (k1 : Int32) : Int32 × cd_Mo × cd_Ia × cd_Ia × cd_Ia := (if (k0 + (20 : Int32)) ≤ k1 then (f_Mo_note_L23 S mp k0 k1 21 (0 : Int32) S) else ((-1 : Int32), (S.1.1, S.1.2.1, S.1.2.2.1, S.1.2.2.2.1, (6 : Int32), k0), S.2.1, S.2.2.1, S.2.2.2))
def o_Mo_note_L261 (S : cd_Mo × cd_Ia × cd_Ia × cd_Ia) (mp : cd_By) (k0 : Int32) (k1 : Int32) : Nat → Int64 → Int32 → (cd_Mo × cd_Ia × cd_Ia × cd_Ia) → Prop
  | 0, _, _, _ => False
  | gn + 1, x4, x7, S' => ((8 : Int32) ≤ x7 → vp_in (2 : Int32) 3) ∧ ((8 : Int32) ≤ x7 → vp_in (2 : Int32) 3) ∧ (¬ (8 : Int32) ≤ x7 → vp_in (2 : Int32) 3) ∧ (¬ (8 : Int32) ≤ x7 → o_Mo_fourAt S'.1 mp ((k0 + (24 : Int32)) + ((4 : Int32) * x7))) ∧ (¬ (8 : Int32) ≤ x7 → vp_in (((8 : Int32) * ((6 : Int32) + (S'.2.1 (2 : Int32).toNatClampNeg))) + x7) 72) ∧ (¬ (8 : Int32) ≤ x7 → o_Mo_note_L261 S mp k0 k1 gn x4 (x7 + (1 : Int32)) (S'.1, S'.2.1, S'.2.2.1, (upd S'.2.2.2 (((8 : Int32) * ((6 : Int32) + (S'.2.1 (2 : Int32).toNatClampNeg))) + x7).toNatClampNeg (f_Mo_fourAt S'.1 mp ((k0 + (24 : Int32)) + ((4 : Int32) * x7))))))
def o_Mo_note_L23 (S : cd_Mo × cd_Ia × cd_Ia × cd_Ia) (mp : cd_By) (k0 : Int32) (k1 : Int32) : Nat → Int32 → (cd_Mo × cd_Ia × cd_Ia × cd_Ia) → Prop
  | 0, _, _ => False
  | gn + 1, x3, S' => ((20 : Int32) ≤ x3 → o_Mo_fourAt S'.1 mp (k0 + (4 : Int32))) ∧ ((20 : Int32) ≤ x3 → (f_Mo_fourAt S'.1 mp (k0 + (4 : Int32))) < 0 → (k0 + (4 : Int32)) = (-1 : Int32) → o_Mo_fourAt S'.1 mp (k0 + (8 : Int32))) ∧ ((20 : Int32) ≤ x3 → (f_Mo_fourAt S'.1 mp (k0 + (4 : Int32))) < 0 → (k0 + (4 : Int32)) = (-1 : Int32) → (f_Mo_fourAt S'.1 mp (k0 + (8 : Int32))) = (1 : Int32) → vp_in (2 : Int32) 3) ∧ ((20 : Int32) ≤ x3 → (f_Mo_fourAt S'.1 mp (k0 + (4 : Int32))) < 0 → (k0 + (4 : Int32)) = (-1 : Int32) → (f_Mo_fourAt S'.1 mp (k0 + (8 : Int32))) = (1 : Int32) → o_Mo_fourAt S'.1 mp (k0 + (20 : Int32))) ∧ ((20 : Int32) ≤ x3 → (f_Mo_fourAt S'.1 mp (k0 + (4 : Int32))) < 0 → (k0 + (4 : Int32)) = (-1 : Int32) → (f_Mo_fourAt S'.1 mp (k0 + (8 : Int32))) = (1 : Int32) → vp_in ((6 : Int32) + (S'.2.1 (2 : Int32).toNatClampNeg)) 9) ∧ ((20 : Int32) ≤ x3 → (f_Mo_fourAt S'.1 mp (k0 + (4 : Int32))) < 0 → (k0 + (4 : Int32)) = (-1 : Int32) → (f_Mo_fourAt S'.1 mp (k0 + (8 : Int32))) = (1 : Int32) → o_Mo_note_L261 S mp k0 k1 9 ((20 : Int64) + ((((f_Mo_fourAt S'.1 mp (k0 + (4 : Int32))).toInt64 + (3 : Int64)) / (4 : Int64)) * (4 : Int64))) (0 : Int32) (S'.1, S'.2.1, (upd S'.2.2.1 ((6 : Int32) + (S'.2.1 (2 : Int32).toNatClampNeg)).toNatClampNeg (f_Mo_fourAt S'.1 mp (k0 + (20 : Int32)))), S'.2.2.2)) ∧ ((20 : Int32) ≤ x3 → ¬ (f_Mo_fourAt S'.1 mp (k0 + (4 : Int32))) < 0 → (k0.toInt64 + ((20 : Int64) + ((((f_Mo_fourAt S'.1 mp (k0 + (4 : Int32))).toInt64 + (3 : Int64)) / (4 : Int64)) * (4 : Int64)))) ≤ k1.toInt64 → o_Mo_fourAt S'.1 mp (k0 + (8 : Int32))) ∧ ((20 : Int32) ≤ x3 → ¬ (f_Mo_fourAt S'.1 mp (k0 + (4 : Int32))) < 0 → (k0.toInt64 + ((20 : Int64) + ((((f_Mo_fourAt S'.1 mp (k0 + (4 : Int32))).toInt64 + (3 : Int64)) / (4 : Int64)) * (4 : Int64)))) ≤ k1.toInt64 → ¬ (f_Mo_fourAt S'.1 mp (k0 + (8 : Int32))) = (1 : Int32) → o_Mo_fourAt S'.1 mp (k0 + (8 : Int32))) ∧ ((20 : Int32) ≤ x3 → ¬ (f_Mo_fourAt S'.1 mp (k0 + (4 : Int32))) < 0 → (k0.toInt64 + ((20 : Int64) + ((((f_Mo_fourAt S'.1 mp (k0 + (4 : Int32))).toInt64 + (3 : Int64)) / (4 : Int64)) * (4 : Int64)))) ≤ k1.toInt64 → (f_Mo_fourAt S'.1 mp (k0 + (8 : Int32))) = (1 : Int32) → (f_Mo_fourAt S'.1 mp (k0 + (4 : Int32))) = (36 : Int32) → o_Mo_fourAt S'.1 mp (k0 + (20 : Int32))) ∧ ((20 : Int32) ≤ x3 → ¬ (f_Mo_fourAt S'.1 mp (k0 + (4 : Int32))) < 0 → (k0.toInt64 + ((20 : Int64) + ((((f_Mo_fourAt S'.1 mp (k0 + (4 : Int32))).toInt64 + (3 : Int64)) / (4 : Int64)) * (4 : Int64)))) ≤ k1.toInt64 → (f_Mo_fourAt S'.1 mp (k0 + (8 : Int32))) = (1 : Int32) → (f_Mo_fourAt S'.1 mp (k0 + (4 : Int32))) = (36 : Int32) → o_Mo_hasId S'.1 S'.2.1 S'.2.2.1 (2 : Int32) (f_Mo_fourAt S'.1 mp (k0 + (20 : Int32)))) ∧ ((20 : Int32) ≤ x3 → ¬ (f_Mo_fourAt S'.1 mp (k0 + (4 : Int32))) < 0 → (k0.toInt64 + ((20 : Int64) + ((((f_Mo_fourAt S'.1 mp (k0 + (4 : Int32))).toInt64 + (3 : Int64)) / (4 : Int64)) * (4 : Int64)))) ≤ k1.toInt64 → (f_Mo_fourAt S'.1 mp (k0 + (8 : Int32))) = (1 : Int32) → (f_Mo_fourAt S'.1 mp (k0 + (4 : Int32))) = (36 : Int32) → (f_Mo_hasId S'.1 S'.2.1 S'.2.2.1 (2 : Int32) (f_Mo_fourAt S'.1 mp (k0 + (20 : Int32)))) = 0 → vp_in (2 : Int32) 3) ∧ ((20 : Int32) ≤ x3 → ¬ (f_Mo_fourAt S'.1 mp (k0 + (4 : Int32))) < 0 → (k0.toInt64 + ((20 : Int64) + ((((f_Mo_fourAt S'.1 mp (k0 + (4 : Int32))).toInt64 + (3 : Int64)) / (4 : Int64)) * (4 : Int64)))) ≤ k1.toInt64 → (f_Mo_fourAt S'.1 mp (k0 + (8 : Int32))) = (1 : Int32) → (f_Mo_fourAt S'.1 mp (k0 + (4 : Int32))) = (36 : Int32) → (f_Mo_hasId S'.1 S'.2.1 S'.2.2.1 (2 : Int32) (f_Mo_fourAt S'.1 mp (k0 + (20 : Int32)))) = 0 → ¬ (S'.2.1 (2 : Int32).toNatClampNeg) = (3 : Int32) → o_Mo_fourAt S'.1 mp (k0 + (8 : Int32))) ∧ ((20 : Int32) ≤ x3 → ¬ (f_Mo_fourAt S'.1 mp (k0 + (4 : Int32))) < 0 → (k0.toInt64 + ((20 : Int64) + ((((f_Mo_fourAt S'.1 mp (k0 + (4 : Int32))).toInt64 + (3 : Int64)) / (4 : Int64)) * (4 : Int64)))) ≤ k1.toInt64 → (f_Mo_fourAt S'.1 mp (k0 + (8 : Int32))) = (1 : Int32) → (f_Mo_fourAt S'.1 mp (k0 + (4 : Int32))) = (36 : Int32) → (f_Mo_hasId S'.1 S'.2.1 S'.2.2.1 (2 : Int32) (f_Mo_fourAt S'.1 mp (k0 + (20 : Int32)))) = 0 → ¬ (S'.2.1 (2 : Int32).toNatClampNeg) = (3 : Int32) → vp_in (2 : Int32) 3) ∧ ((20 : Int32) ≤ x3 → ¬ (f_Mo_fourAt S'.1 mp (k0 + (4 : Int32))) < 0 → (k0.toInt64 + ((20 : Int64) + ((((f_Mo_fourAt S'.1 mp (k0 + (4 : Int32))).toInt64 + (3 : Int64)) / (4 : Int64)) * (4 : Int64)))) ≤ k1.toInt64 → (f_Mo_fourAt S'.1 mp (k0 + (8 : Int32))) = (1 : Int32) → (f_Mo_fourAt S'.1 mp (k0 + (4 : Int32))) = (36 : Int32) → (f_Mo_hasId S'.1 S'.2.1 S'.2.2.1 (2 : Int32) (f_Mo_fourAt S'.1 mp (k0 + (20 : Int32)))) = 0 → ¬ (S'.2.1 (2 : Int32).toNatClampNeg) = (3 : Int32) → o_Mo_fourAt S'.1 mp (k0 + (20 : Int32))) ∧ ((20 : Int32) ≤ x3 → ¬ (f_Mo_fourAt S'.1 mp (k0 + (4 : Int32))) < 0 → (k0.toInt64 + ((20 : Int64) + ((((f_Mo_fourAt S'.1 mp (k0 + (4 : Int32))).toInt64 + (3 : Int64)) / (4 : Int64)) * (4 : Int64)))) ≤ k1.toInt64 → (f_Mo_fourAt S'.1 mp (k0 + (8 : Int32))) = (1 : Int32) → (f_Mo_fourAt S'.1 mp (k0 + (4 : Int32))) = (36 : Int32) → (f_Mo_hasId S'.1 S'.2.1 S'.2.2.1 (2 : Int32) (f_Mo_fourAt S'.1 mp (k0 + (20 : Int32)))) = 0 → ¬ (S'.2.1 (2 : Int32).toNatClampNeg) = (3 : Int32) → vp_in ((6 : Int32) + (S'.2.1 (2 : Int32).toNatClampNeg)) 9) ∧ ((20 : Int32) ≤ x3 → ¬ (f_Mo_fourAt S'.1 mp (k0 + (4 : Int32))) < 0 → (k0.toInt64 + ((20 : Int64) + ((((f_Mo_fourAt S'.1 mp (k0 + (4 : Int32))).toInt64 + (3 : Int64)) / (4 : Int64)) * (4 : Int64)))) ≤ k1.toInt64 → (f_Mo_fourAt S'.1 mp (k0 + (8 : Int32))) = (1 : Int32) → (f_Mo_fourAt S'.1 mp (k0 + (4 : Int32))) = (36 : Int32) → (f_Mo_hasId S'.1 S'.2.1 S'.2.2.1 (2 : Int32) (f_Mo_fourAt S'.1 mp (k0 + (20 : Int32)))) = 0 → ¬ (S'.2.1 (2 : Int32).toNatClampNeg) = (3 : Int32) → o_Mo_note_L261 S mp k0 k1 9 ((20 : Int64) + ((((f_Mo_fourAt S'.1 mp (k0 + (4 : Int32))).toInt64 + (3 : Int64)) / (4 : Int64)) * (4 : Int64))) (0 : Int32) (S'.1, S'.2.1, (upd S'.2.2.1 ((6 : Int32) + (S'.2.1 (2 : Int32).toNatClampNeg)).toNatClampNeg (f_Mo_fourAt S'.1 mp (k0 + (20 : Int32)))), S'.2.2.2)) ∧ ((20 : Int32) ≤ x3 → ¬ (f_Mo_fourAt S'.1 mp (k0 + (4 : Int32))) < 0 → (k0.toInt64 + ((20 : Int64) + ((((f_Mo_fourAt S'.1 mp (k0 + (4 : Int32))).toInt64 + (3 : Int64)) / (4 : Int64)) * (4 : Int64)))) ≤ k1.toInt64 → (f_Mo_fourAt S'.1 mp (k0 + (8 : Int32))) = (1 : Int32) → (f_Mo_fourAt S'.1 mp (k0 + (4 : Int32))) = (36 : Int32) → (f_Mo_hasId S'.1 S'.2.1 S'.2.2.1 (2 : Int32) (f_Mo_fourAt S'.1 mp (k0 + (20 : Int32)))) = 0 → (S'.2.1 (2 : Int32).toNatClampNeg) = (3 : Int32) → k0 = (-1 : Int32) → o_Mo_fourAt S'.1 mp (k0 + (8 : Int32))) ∧ ((20 : Int32) ≤ x3 → ¬ (f_Mo_fourAt S'.1 mp (k0 + (4 : Int32))) < 0 → (k0.toInt64 + ((20 : Int64) + ((((f_Mo_fourAt S'.1 mp (k0 + (4 : Int32))).toInt64 + (3 : Int64)) / (4 : Int64)) * (4 : Int64)))) ≤ k1.toInt64 → (f_Mo_fourAt S'.1 mp (k0 + (8 : Int32))) = (1 : Int32) → (f_Mo_fourAt S'.1 mp (k0 + (4 : Int32))) = (36 : Int32) → (f_Mo_hasId S'.1 S'.2.1 S'.2.2.1 (2 : Int32) (f_Mo_fourAt S'.1 mp (k0 + (20 : Int32)))) = 0 → (S'.2.1 (2 : Int32).toNatClampNeg) = (3 : Int32) → k0 = (-1 : Int32) → vp_in (2 : Int32) 3) ∧ ((20 : Int32) ≤ x3 → ¬ (f_Mo_fourAt S'.1 mp (k0 + (4 : Int32))) < 0 → (k0.toInt64 + ((20 : Int64) + ((((f_Mo_fourAt S'.1 mp (k0 + (4 : Int32))).toInt64 + (3 : Int64)) / (4 : Int64)) * (4 : Int64)))) ≤ k1.toInt64 → (f_Mo_fourAt S'.1 mp (k0 + (8 : Int32))) = (1 : Int32) → (f_Mo_fourAt S'.1 mp (k0 + (4 : Int32))) = (36 : Int32) → (f_Mo_hasId S'.1 S'.2.1 S'.2.2.1 (2 : Int32) (f_Mo_fourAt S'.1 mp (k0 + (20 : Int32)))) = 0 → (S'.2.1 (2 : Int32).toNatClampNeg) = (3 : Int32) → k0 = (-1 : Int32) → o_Mo_fourAt S'.1 mp (k0 + (20 : Int32))) ∧ ((20 : Int32) ≤ x3 → ¬ (f_Mo_fourAt S'.1 mp (k0 + (4 : Int32))) < 0 → (k0.toInt64 + ((20 : Int64) + ((((f_Mo_fourAt S'.1 mp (k0 + (4 : Int32))).toInt64 + (3 : Int64)) / (4 : Int64)) * (4 : Int64)))) ≤ k1.toInt64 → (f_Mo_fourAt S'.1 mp (k0 + (8 : Int32))) = (1 : Int32) → (f_Mo_fourAt S'.1 mp (k0 + (4 : Int32))) = (36 : Int32) → (f_Mo_hasId S'.1 S'.2.1 S'.2.2.1 (2 : Int32) (f_Mo_fourAt S'.1 mp (k0 + (20 : Int32)))) = 0 → (S'.2.1 (2 : Int32).toNatClampNeg) = (3 : Int32) → k0 = (-1 : Int32) → vp_in ((6 : Int32) + (S'.2.1 (2 : Int32).toNatClampNeg)) 9) ∧ ((20 : Int32) ≤ x3 → ¬ (f_Mo_fourAt S'.1 mp (k0 + (4 : Int32))) < 0 → (k0.toInt64 + ((20 : Int64) + ((((f_Mo_fourAt S'.1 mp (k0 + (4 : Int32))).toInt64 + (3 : Int64)) / (4 : Int64)) * (4 : Int64)))) ≤ k1.toInt64 → (f_Mo_fourAt S'.1 mp (k0 + (8 : Int32))) = (1 : Int32) → (f_Mo_fourAt S'.1 mp (k0 + (4 : Int32))) = (36 : Int32) → (f_Mo_hasId S'.1 S'.2.1 S'.2.2.1 (2 : Int32) (f_Mo_fourAt S'.1 mp (k0 + (20 : Int32)))) = 0 → (S'.2.1 (2 : Int32).toNatClampNeg) = (3 : Int32) → k0 = (-1 : Int32) → o_Mo_note_L261 S mp k0 k1 9 ((20 : Int64) + ((((f_Mo_fourAt S'.1 mp (k0 + (4 : Int32))).toInt64 + (3 : Int64)) / (4 : Int64)) * (4 : Int64))) (0 : Int32) (S'.1, S'.2.1, (upd S'.2.2.1 ((6 : Int32) + (S'.2.1 (2 : Int32).toNatClampNeg)).toNatClampNeg (f_Mo_fourAt S'.1 mp (k0 + (20 : Int32)))), S'.2.2.2)) ∧ ((20 : Int32) ≤ x3 → ¬ (f_Mo_fourAt S'.1 mp (k0 + (4 : Int32))) < 0 → (k0.toInt64 + ((20 : Int64) + ((((f_Mo_fourAt S'.1 mp (k0 + (4 : Int32))).toInt64 + (3 : Int64)) / (4 : Int64)) * (4 : Int64)))) ≤ k1.toInt64 → (f_Mo_fourAt S'.1 mp (k0 + (8 : Int32))) = (1 : Int32) → (f_Mo_fourAt S'.1 mp (k0 + (4 : Int32))) = (36 : Int32) → ¬ (f_Mo_hasId S'.1 S'.2.1 S'.2.2.1 (2 : Int32) (f_Mo_fourAt S'.1 mp (k0 + (20 : Int32)))) = 0 → (k0 + (20 : Int32)) = (-1 : Int32) → o_Mo_fourAt S'.1 mp (k0 + (8 : Int32))) ∧ ((20 : Int32) ≤ x3 → ¬ (f_Mo_fourAt S'.1 mp (k0 + (4 : Int32))) < 0 → (k0.toInt64 + ((20 : Int64) + ((((f_Mo_fourAt S'.1 mp (k0 + (4 : Int32))).toInt64 + (3 : Int64)) / (4 : Int64)) * (4 : Int64)))) ≤ k1.toInt64 → (f_Mo_fourAt S'.1 mp (k0 + (8 : Int32))) = (1 : Int32) → (f_Mo_fourAt S'.1 mp (k0 + (4 : Int32))) = (36 : Int32) → ¬ (f_Mo_hasId S'.1 S'.2.1 S'.2.2.1 (2 : Int32) (f_Mo_fourAt S'.1 mp (k0 + (20 : Int32)))) = 0 → (k0 + (20 : Int32)) = (-1 : Int32) → vp_in (2 : Int32) 3) ∧ ((20 : Int32) ≤ x3 → ¬ (f_Mo_fourAt S'.1 mp (k0 + (4 : Int32))) < 0 → (k0.toInt64 + ((20 : Int64) + ((((f_Mo_fourAt S'.1 mp (k0 + (4 : Int32))).toInt64 + (3 : Int64)) / (4 : Int64)) * (4 : Int64)))) ≤ k1.toInt64 → (f_Mo_fourAt S'.1 mp (k0 + (8 : Int32))) = (1 : Int32) → (f_Mo_fourAt S'.1 mp (k0 + (4 : Int32))) = (36 : Int32) → ¬ (f_Mo_hasId S'.1 S'.2.1 S'.2.2.1 (2 : Int32) (f_Mo_fourAt S'.1 mp (k0 + (20 : Int32)))) = 0 → (k0 + (20 : Int32)) = (-1 : Int32) → o_Mo_fourAt S'.1 mp (k0 + (20 : Int32))) ∧ ((20 : Int32) ≤ x3 → ¬ (f_Mo_fourAt S'.1 mp (k0 + (4 : Int32))) < 0 → (k0.toInt64 + ((20 : Int64) + ((((f_Mo_fourAt S'.1 mp (k0 + (4 : Int32))).toInt64 + (3 : Int64)) / (4 : Int64)) * (4 : Int64)))) ≤ k1.toInt64 → (f_Mo_fourAt S'.1 mp (k0 + (8 : Int32))) = (1 : Int32) → (f_Mo_fourAt S'.1 mp (k0 + (4 : Int32))) = (36 : Int32) → ¬ (f_Mo_hasId S'.1 S'.2.1 S'.2.2.1 (2 : Int32) (f_Mo_fourAt S'.1 mp (k0 + (20 : Int32)))) = 0 → (k0 + (20 : Int32)) = (-1 : Int32) → vp_in ((6 : Int32) + (S'.2.1 (2 : Int32).toNatClampNeg)) 9) ∧ ((20 : Int32) ≤ x3 → ¬ (f_Mo_fourAt S'.1 mp (k0 + (4 : Int32))) < 0 → (k0.toInt64 + ((20 : Int64) + ((((f_Mo_fourAt S'.1 mp (k0 + (4 : Int32))).toInt64 + (3 : Int64)) / (4 : Int64)) * (4 : Int64)))) ≤ k1.toInt64 → (f_Mo_fourAt S'.1 mp (k0 + (8 : Int32))) = (1 : Int32) → (f_Mo_fourAt S'.1 mp (k0 + (4 : Int32))) = (36 : Int32) → ¬ (f_Mo_hasId S'.1 S'.2.1 S'.2.2.1 (2 : Int32) (f_Mo_fourAt S'.1 mp (k0 + (20 : Int32)))) = 0 → (k0 + (20 : Int32)) = (-1 : Int32) → o_Mo_note_L261 S mp k0 k1 9 ((20 : Int64) + ((((f_Mo_fourAt S'.1 mp (k0 + (4 : Int32))).toInt64 + (3 : Int64)) / (4 : Int64)) * (4 : Int64))) (0 : Int32) (S'.1, S'.2.1, (upd S'.2.2.1 ((6 : Int32) + (S'.2.1 (2 : Int32).toNatClampNeg)).toNatClampNeg (f_Mo_fourAt S'.1 mp (k0 + (20 : Int32)))), S'.2.2.2)) ∧ ((20 : Int32) ≤ x3 → ¬ (f_Mo_fourAt S'.1 mp (k0 + (4 : Int32))) < 0 → (k0.toInt64 + ((20 : Int64) + ((((f_Mo_fourAt S'.1 mp (k0 + (4 : Int32))).toInt64 + (3 : Int64)) / (4 : Int64)) * (4 : Int64)))) ≤ k1.toInt64 → (f_Mo_fourAt S'.1 mp (k0 + (8 : Int32))) = (1 : Int32) → ¬ (f_Mo_fourAt S'.1 mp (k0 + (4 : Int32))) = (36 : Int32) → (k0 + (4 : Int32)) = (-1 : Int32) → o_Mo_fourAt S'.1 mp (k0 + (8 : Int32))) ∧ ((20 : Int32) ≤ x3 → ¬ (f_Mo_fourAt S'.1 mp (k0 + (4 : Int32))) < 0 → (k0.toInt64 + ((20 : Int64) + ((((f_Mo_fourAt S'.1 mp (k0 + (4 : Int32))).toInt64 + (3 : Int64)) / (4 : Int64)) * (4 : Int64)))) ≤ k1.toInt64 → (f_Mo_fourAt S'.1 mp (k0 + (8 : Int32))) = (1 : Int32) → ¬ (f_Mo_fourAt S'.1 mp (k0 + (4 : Int32))) = (36 : Int32) → (k0 + (4 : Int32)) = (-1 : Int32) → vp_in (2 : Int32) 3) ∧ ((20 : Int32) ≤ x3 → ¬ (f_Mo_fourAt S'.1 mp (k0 + (4 : Int32))) < 0 → (k0.toInt64 + ((20 : Int64) + ((((f_Mo_fourAt S'.1 mp (k0 + (4 : Int32))).toInt64 + (3 : Int64)) / (4 : Int64)) * (4 : Int64)))) ≤ k1.toInt64 → (f_Mo_fourAt S'.1 mp (k0 + (8 : Int32))) = (1 : Int32) → ¬ (f_Mo_fourAt S'.1 mp (k0 + (4 : Int32))) = (36 : Int32) → (k0 + (4 : Int32)) = (-1 : Int32) → o_Mo_fourAt S'.1 mp (k0 + (20 : Int32))) ∧ ((20 : Int32) ≤ x3 → ¬ (f_Mo_fourAt S'.1 mp (k0 + (4 : Int32))) < 0 → (k0.toInt64 + ((20 : Int64) + ((((f_Mo_fourAt S'.1 mp (k0 + (4 : Int32))).toInt64 + (3 : Int64)) / (4 : Int64)) * (4 : Int64)))) ≤ k1.toInt64 → (f_Mo_fourAt S'.1 mp (k0 + (8 : Int32))) = (1 : Int32) → ¬ (f_Mo_fourAt S'.1 mp (k0 + (4 : Int32))) = (36 : Int32) → (k0 + (4 : Int32)) = (-1 : Int32) → vp_in ((6 : Int32) + (S'.2.1 (2 : Int32).toNatClampNeg)) 9) ∧ ((20 : Int32) ≤ x3 → ¬ (f_Mo_fourAt S'.1 mp (k0 + (4 : Int32))) < 0 → (k0.toInt64 + ((20 : Int64) + ((((f_Mo_fourAt S'.1 mp (k0 + (4 : Int32))).toInt64 + (3 : Int64)) / (4 : Int64)) * (4 : Int64)))) ≤ k1.toInt64 → (f_Mo_fourAt S'.1 mp (k0 + (8 : Int32))) = (1 : Int32) → ¬ (f_Mo_fourAt S'.1 mp (k0 + (4 : Int32))) = (36 : Int32) → (k0 + (4 : Int32)) = (-1 : Int32) → o_Mo_note_L261 S mp k0 k1 9 ((20 : Int64) + ((((f_Mo_fourAt S'.1 mp (k0 + (4 : Int32))).toInt64 + (3 : Int64)) / (4 : Int64)) * (4 : Int64))) (0 : Int32) (S'.1, S'.2.1, (upd S'.2.2.1 ((6 : Int32) + (S'.2.1 (2 : Int32).toNatClampNeg)).toNatClampNeg (f_Mo_fourAt S'.1 mp (k0 + (20 : Int32)))), S'.2.2.2)) ∧ ((20 : Int32) ≤ x3 → ¬ (f_Mo_fourAt S'.1 mp (k0 + (4 : Int32))) < 0 → ¬ (k0.toInt64 + ((20 : Int64) + ((((f_Mo_fourAt S'.1 mp (k0 + (4 : Int32))).toInt64 + (3 : Int64)) / (4 : Int64)) * (4 : Int64)))) ≤ k1.toInt64 → (k0 + (4 : Int32)) = (-1 : Int32) → o_Mo_fourAt S'.1 mp (k0 + (8 : Int32))) ∧ ((20 : Int32) ≤ x3 → ¬ (f_Mo_fourAt S'.1 mp (k0 + (4 : Int32))) < 0 → ¬ (k0.toInt64 + ((20 : Int64) + ((((f_Mo_fourAt S'.1 mp (k0 + (4 : Int32))).toInt64 + (3 : Int64)) / (4 : Int64)) * (4 : Int64)))) ≤ k1.toInt64 → (k0 + (4 : Int32)) = (-1 : Int32) → (f_Mo_fourAt S'.1 mp (k0 + (8 : Int32))) = (1 : Int32) → vp_in (2 : Int32) 3) ∧ ((20 : Int32) ≤ x3 → ¬ (f_Mo_fourAt S'.1 mp (k0 + (4 : Int32))) < 0 → ¬ (k0.toInt64 + ((20 : Int64) + ((((f_Mo_fourAt S'.1 mp (k0 + (4 : Int32))).toInt64 + (3 : Int64)) / (4 : Int64)) * (4 : Int64)))) ≤ k1.toInt64 → (k0 + (4 : Int32)) = (-1 : Int32) → (f_Mo_fourAt S'.1 mp (k0 + (8 : Int32))) = (1 : Int32) → o_Mo_fourAt S'.1 mp (k0 + (20 : Int32))) ∧ ((20 : Int32) ≤ x3 → ¬ (f_Mo_fourAt S'.1 mp (k0 + (4 : Int32))) < 0 → ¬ (k0.toInt64 + ((20 : Int64) + ((((f_Mo_fourAt S'.1 mp (k0 + (4 : Int32))).toInt64 + (3 : Int64)) / (4 : Int64)) * (4 : Int64)))) ≤ k1.toInt64 → (k0 + (4 : Int32)) = (-1 : Int32) → (f_Mo_fourAt S'.1 mp (k0 + (8 : Int32))) = (1 : Int32) → vp_in ((6 : Int32) + (S'.2.1 (2 : Int32).toNatClampNeg)) 9) ∧ ((20 : Int32) ≤ x3 → ¬ (f_Mo_fourAt S'.1 mp (k0 + (4 : Int32))) < 0 → ¬ (k0.toInt64 + ((20 : Int64) + ((((f_Mo_fourAt S'.1 mp (k0 + (4 : Int32))).toInt64 + (3 : Int64)) / (4 : Int64)) * (4 : Int64)))) ≤ k1.toInt64 → (k0 + (4 : Int32)) = (-1 : Int32) → (f_Mo_fourAt S'.1 mp (k0 + (8 : Int32))) = (1 : Int32) → o_Mo_note_L261 S mp k0 k1 9 ((20 : Int64) + ((((f_Mo_fourAt S'.1 mp (k0 + (4 : Int32))).toInt64 + (3 : Int64)) / (4 : Int64)) * (4 : Int64))) (0 : Int32) (S'.1, S'.2.1, (upd S'.2.2.1 ((6 : Int32) + (S'.2.1 (2 : Int32).toNatClampNeg)).toNatClampNeg (f_Mo_fourAt S'.1 mp (k0 + (20 : Int32)))), S'.2.2.2)) ∧ (¬ (20 : Int32) ≤ x3 → (f_Mo_noteByte x3) = (-1 : Int32) → o_Mo_note_L23 S mp k0 k1 gn (x3 + (1 : Int32)) S') ∧ (¬ (20 : Int32) ≤ x3 → ¬ (f_Mo_noteByte x3) = (-1 : Int32) → vp_in (k0 + x3) 8192) ∧ (¬ (20 : Int32) ≤ x3 → ¬ (f_Mo_noteByte x3) = (-1 : Int32) → (f_Mo_noteByte x3) = ((mp (k0 + x3).toNatClampNeg) &&& (255 : Int32)) → o_Mo_note_L23 S mp k0 k1 gn (x3 + (1 : Int32)) S')
def o_Mo_note (S : cd_Mo × cd_Ia × cd_Ia × cd_Ia) (mp : cd_By) (k0 : Int32) (k1 : Int32) : Prop := ((k0 + (20 : Int32)) ≤ k1 → o_Mo_note_L23 S mp k0 k1 21 (0 : Int32) S)
set_option maxHeartbeats 4000000 in
set_option maxRecDepth 100000 in
theorem c_Mo_note (l : Launch) (D : va_G) (tt : Nat → ClassId) (ad : Nat → Nat) (N : Nat) (A : Nat → Prop) (zs : Nat → Nat) (w0 : Nat → va_E) (q : Nat) (S : cd_Mo × cd_Ia × cd_Ia × cd_Ia) (mp : cd_By) (k0 : Int32) (k1 : Int32) (hR0 : cd_MoAt N tt ad w0 q S.1) (hR1 : cd_IaAt N tt ad w0 (q + 6) 3 S.2.1) (hR2 : cd_IaAt N tt ad w0 (q + 7) 9 S.2.2.1) (hR3 : cd_IaAt N tt ad w0 (q + 8) 72 S.2.2.2) (hR4 : cd_ByAt N tt ad w0 (q + 10) 8192 mp) (ho : o_Mo_note S mp k0 k1) : Met l y_Mo_note w_Mo_note ({ frames := 2, cells := 0, slots := 0, locals := 42 }) (va_Pc [.ref (ad q), .int k0, .int k1] (cd_U D tt ad N A zs w0)) (va_Qi (fun r w' => (f_Mo_note S mp k0 k1).1 = r ∧ cd_MoAt N tt ad w' q ((f_Mo_note S mp k0 k1).2.1) ∧ cd_IaAt N tt ad w' (q + 6) 3 ((f_Mo_note S mp k0 k1).2.2.1) ∧ cd_IaAt N tt ad w' (q + 7) 9 ((f_Mo_note S mp k0 k1).2.2.2.1) ∧ cd_IaAt N tt ad w' (q + 8) 72 ((f_Mo_note S mp k0 k1).2.2.2.2) ∧ (∀ k : Nat, (k < q ∨ q + 1 ≤ k) ∧ (k < (q + 6) ∨ (q + 6) + 1 ≤ k) ∧ (k < (q + 7) ∨ (q + 7) + 1 ≤ k) ∧ (k < (q + 8) ∨ (q + 8) + 1 ≤ k) → w' k = w0 k)) (fun w' t => cd_P D ad N A w' t.heap) A) 0 0 A := by
  refine Met.ofW (cc := b_Mo_note) (maxL := 8) (ret := (some .int)) (by decide) rfl ?_
  intro p e s m args below meth c s₁ B hml hv
  obtain ⟨rfl, hP, hK, hZ⟩ := hv
  have hx := B.exec
  have hb := B.bytes
  have hr := B.returns
  have hA : ∀ w ∈ cd_AW, w.before _ s = true := fun w h => atoms_spec (ws := w_Mo_note) B.pre w (List.mem_cons_of_mem _ h)
  have hown : s.vm.findClass R_Mo = some m.cls := findClass_of_methodNamed B.named
  have hlocks := B.notSynchronized
  have L261 : ∀ (gn : Nat) (x4 : Int64) (x7 : Int32) (S' : cd_Mo × cd_Ia × cd_Ia × cd_Ia) (w : Nat → va_E) (efr : ∀ k : Nat, (k < q ∨ q + 1 ≤ k) ∧ (k < (q + 6) ∨ (q + 6) + 1 ≤ k) ∧ (k < (q + 7) ∨ (q + 7) + 1 ≤ k) ∧ (k < (q + 8) ∨ (q + 8) + 1 ≤ k) → w k = w0 k) (H : Heap) (locs : List Loc) (ls : Array Slot), lv_has ls 8 [(0, .ref (ad q)), (1, .int k0), (4, .long x4), (7, .int x7)] → (f_Mo_note S mp k0 k1) = f_Mo_note_L261 S mp k0 k1 gn x4 x7 S' → cd_MoAt N tt ad w q S'.1 → cd_IaAt N tt ad w (q + 6) 3 S'.2.1 → cd_IaAt N tt ad w (q + 7) 9 S'.2.2.1 → cd_IaAt N tt ad w (q + 8) 72 S'.2.2.2 → cd_ByAt N tt ad w (q + 10) 8192 mp → cd_P D ad N A w H → va_S A s.heap H locs → o_Mo_note_L261 S mp k0 k1 gn x4 x7 S' → W p l e (headSpec w_Mo_note ({ frames := 2, cells := 0, slots := 0, locals := 42 })).room s m [.ref (ad q), .int k0, .int k1].toArray below meth c H locs 0 0 (MQ below (va_Qi (fun r w' => (f_Mo_note S mp k0 k1).1 = r ∧ cd_MoAt N tt ad w' q ((f_Mo_note S mp k0 k1).2.1) ∧ cd_IaAt N tt ad w' (q + 6) 3 ((f_Mo_note S mp k0 k1).2.2.1) ∧ cd_IaAt N tt ad w' (q + 7) 9 ((f_Mo_note S mp k0 k1).2.2.2.1) ∧ cd_IaAt N tt ad w' (q + 8) 72 ((f_Mo_note S mp k0 k1).2.2.2.2) ∧ (∀ k : Nat, (k < q ∨ q + 1 ≤ k) ∧ (k < (q + 6) ∨ (q + 6) + 1 ≤ k) ∧ (k < (q + 7) ∨ (q + 7) + 1 ≤ k) ∧ (k < (q + 8) ∨ (q + 8) + 1 ≤ k) → w' k = w0 k)) (fun w' t => cd_P D ad N A w' t.heap) A) [.ref (ad q), .int k0, .int k1].toArray s 0 0 A) (F0 m 261 ls []) := by
    intro gn
    induction gn with
    | zero => intro x4 x7 S' w efr H locs ls hl he hL0 hL1 hL2 hL3 hL4 hP hS ho; exact ho.elim
    | succ gn ih =>
      intro x4 x7 S' w efr H locs ls hl he hL0 hL1 hL2 hL3 hL4 hP hS ho
      have ho : ((8 : Int32) ≤ x7 → vp_in (2 : Int32) 3) ∧ ((8 : Int32) ≤ x7 → vp_in (2 : Int32) 3) ∧ (¬ (8 : Int32) ≤ x7 → vp_in (2 : Int32) 3) ∧ (¬ (8 : Int32) ≤ x7 → o_Mo_fourAt S'.1 mp ((k0 + (24 : Int32)) + ((4 : Int32) * x7))) ∧ (¬ (8 : Int32) ≤ x7 → vp_in (((8 : Int32) * ((6 : Int32) + (S'.2.1 (2 : Int32).toNatClampNeg))) + x7) 72) ∧ (¬ (8 : Int32) ≤ x7 → o_Mo_note_L261 S mp k0 k1 gn x4 (x7 + (1 : Int32)) (S'.1, S'.2.1, S'.2.2.1, (upd S'.2.2.2 (((8 : Int32) * ((6 : Int32) + (S'.2.1 (2 : Int32).toNatClampNeg))) + x7).toNatClampNeg (f_Mo_fourAt S'.1 mp ((k0 + (24 : Int32)) + ((4 : Int32) * x7)))))) := ho
      obtain ⟨hn1, fa2⟩ := hL0
      refine lv_iload hx hb d_Mo_note_261 (lv_at hl 3 rfl) ?_
      refine lv_bipush (v := (8 : Int32)) hx hb d_Mo_note_263 (by decide) ?_
      refine lv_icmp_ge (tgt := 307) hx hb d_Mo_note_265 (by decide) (fun hc3 => ?_) (fun hc3 => ?_)
      · refine lv_aload_n hx hb d_Mo_note_307 rfl (lv_at hl 0 rfl) ?_
        refine g_get (ci := 7) (C := R_Mo) (T := F_Mo) (Nf := 16) (v := .ref (ad (q + 6))) hx hb hA in_Mo hown hK hP (k := q) (by omega) fa2 rfl 6 (by decide) (hA _ aw_566) (fun _ h9 => h9) rfl d_Mo_note_308 ?_
        refine lv_iconst (v := (2 : Int32)) hx hb d_Mo_note_311 (by decide) ?_
        refine lv_dup2_11 hx hb d_Mo_note_312 rfl rfl ?_
        obtain ⟨hn4, fa5⟩ := hL1
        refine g_iald hx hb hK hP (k := (q + 6)) (by omega) fa5 rfl (ho.1 hc3) d_Mo_note_313 ?_
        refine lv_iconst (v := (1 : Int32)) hx hb d_Mo_note_314 (by decide) ?_
        refine lv_iadd hx hb d_Mo_note_315 ?_
        refine g_iast hx hb hK hP hS (k := (q + 6)) (by omega) fa5 rfl (ho.2.1 hc3) d_Mo_note_316 (fun H locs w1 fa6 e1 hP hS => ?_)
        have fa7 := (e1 q (by omega)).trans fa2
        have at8 := cd_IaAt_keep hL2 (fun k h1 h2 => e1 k (by omega))
        have at9 := cd_IaAt_keep hL3 (fun k h1 h2 => e1 k (by omega))
        have at10 := cd_ByAt_keep hL4 (fun k h1 h2 => e1 k (by omega))
        refine lv_lload hx hb d_Mo_note_317 (lv_at hl 2 rfl) ?_
        refine lv_l2i hx hb d_Mo_note_319 rfl ?_
        have hf11 : (f_Mo_note S mp k0 k1) = (x4.toInt32, S'.1, (upd S'.2.1 (2 : Int32).toNatClampNeg ((S'.2.1 (2 : Int32).toNatClampNeg) + (1 : Int32))), S'.2.2.1, S'.2.2.2) := by rw [he, f_Mo_note_L261, if_pos hc3]
        exact W.iret (v := x4.toInt32) hx hb hr (fun tE ht _ => ⟨⟨_, w1, rfl, ⟨(by rw [hf11]), (by rw [hf11]; exact ⟨hn1, fa7⟩), (by rw [hf11]; exact ⟨hn4, fa6⟩), (by rw [hf11]; exact at8), (by rw [hf11]; exact at9), (fun k hk => ((e1 k (by omega)).trans (efr k (by omega))))⟩, cd_Pt ht hP⟩, hS.F ht⟩) hS.2.2 d_Mo_note_320
      · refine lv_aload_n hx hb d_Mo_note_268 rfl (lv_at hl 0 rfl) ?_
        refine g_get (ci := 7) (C := R_Mo) (T := F_Mo) (Nf := 16) (v := .ref (ad (q + 8))) hx hb hA in_Mo hown hK hP (k := q) (by omega) fa2 rfl 8 (by decide) (hA _ aw_568) (fun _ h9 => h9) rfl d_Mo_note_269 ?_
        refine lv_bipush (v := (8 : Int32)) hx hb d_Mo_note_272 (by decide) ?_
        refine lv_bipush (v := (6 : Int32)) hx hb d_Mo_note_274 (by decide) ?_
        refine lv_aload_n hx hb d_Mo_note_276 rfl (lv_at hl 0 rfl) ?_
        refine g_get (ci := 7) (C := R_Mo) (T := F_Mo) (Nf := 16) (v := .ref (ad (q + 6))) hx hb hA in_Mo hown hK hP (k := q) (by omega) fa2 rfl 6 (by decide) (hA _ aw_566) (fun _ h9 => h9) rfl d_Mo_note_277 ?_
        refine lv_iconst (v := (2 : Int32)) hx hb d_Mo_note_280 (by decide) ?_
        obtain ⟨hn12, fa13⟩ := hL1
        refine g_iald hx hb hK hP (k := (q + 6)) (by omega) fa13 rfl (ho.2.2.1 hc3) d_Mo_note_281 ?_
        refine lv_iadd hx hb d_Mo_note_282 ?_
        refine lv_imul hx hb d_Mo_note_283 ?_
        refine lv_iload hx hb d_Mo_note_284 (lv_at hl 3 rfl) ?_
        refine lv_iadd hx hb d_Mo_note_286 ?_
        refine lv_aload_n hx hb d_Mo_note_287 rfl (lv_at hl 0 rfl) ?_
        refine lv_iload_n hx hb d_Mo_note_288 rfl (lv_at hl 1 rfl) ?_
        refine lv_bipush (v := (24 : Int32)) hx hb d_Mo_note_289 (by decide) ?_
        refine lv_iadd hx hb d_Mo_note_291 ?_
        refine lv_iconst (v := (4 : Int32)) hx hb d_Mo_note_292 (by decide) ?_
        refine lv_iload hx hb d_Mo_note_293 (lv_at hl 3 rfl) ?_
        refine lv_imul hx hb d_Mo_note_295 ?_
        refine lv_iadd hx hb d_Mo_note_296 ?_
        refine va_calli (va_runV (As := [.int ((k0 + (24 : Int32)) + ((4 : Int32) * x7))]) (rest := [.int (((8 : Int32) * ((6 : Int32) + (S'.2.1 (2 : Int32).toNatClampNeg))) + x7), .ref (ad (q + 8))]) ⟨hx, hb, hml, hown, hA⟩ (c_Mo_fourAt l D tt ad N A zs w q S'.1 mp ((k0 + (24 : Int32)) + ((4 : Int32) * x7)) (⟨hn1, fa2⟩) hL4 (ho.2.2.2.1 hc3)) (cwV 1 hA (cd_gV aw_699 aw_700 aw_800 aw_8 aw_701) rfl rfl rfl ⟨rfl, by decide, by decide, by decide +kernel⟩ ⟨Nat.le_of_ble_eq_true rfl, Nat.le_of_ble_eq_true rfl⟩) ⟨cd_blind, cd_recv hK hP (k := q) (by omega) fa2 rfl, fun U hU hW => ⟨rfl, cd_pre hK hP hZ hS U hU hW⟩⟩ rfl rfl hl.1 rfl (lv_room (Nat.le_of_ble_eq_true rfl)) d_Mo_note_297 ⟨Nat.zero_le _, Nat.zero_le _⟩) hS (fun _ _ h => h) (fun _ h => h) (fun r14 w2 tE H locs ht hvm hr15 hP hz1 hk1 hS => ?_)
        have hP := cd_Pf ht hP
        obtain ⟨rfl, rfl⟩ := hr15
        obtain ⟨hn17, fa18⟩ := hL3
        refine g_iast hx hb hK hP hS (k := (q + 8)) (by omega) fa18 rfl (ho.2.2.2.2.1 hc3) d_Mo_note_300 (fun H locs w3 fa19 e3 hP hS => ?_)
        have fa20 := (e3 q (by omega)).trans fa2
        have fa21 := (e3 (q + 6) (by omega)).trans fa13
        have at22 := cd_IaAt_keep hL2 (fun k h1 h2 => e3 k (by omega))
        have at23 := cd_ByAt_keep hL4 (fun k h1 h2 => e3 k (by omega))
        refine lv_iinc (k := 3) (v := (x7 + (1 : Int32))) (lv' := [(7, .int (x7 + (1 : Int32))), (0, .ref (ad q)), (1, .int k0), (4, .long x4)]) hx hb d_Mo_note_301 hl rfl (cd_inc _ _ _ (by decide)) (by decide) rfl (fun ls hl => ?_)
        refine lv_goto (tgt := 261) hx hb d_Mo_note_304 (by decide) ?_
        exact ih x4 (x7 + (1 : Int32)) (S'.1, S'.2.1, S'.2.2.1, (upd S'.2.2.2 (((8 : Int32) * ((6 : Int32) + (S'.2.1 (2 : Int32).toNatClampNeg))) + x7).toNatClampNeg (f_Mo_fourAt S'.1 mp ((k0 + (24 : Int32)) + ((4 : Int32) * x7))))) w3 (fun k hk => ((e3 k (by omega)).trans (efr k (by omega)))) H locs ls (lv_sub hl [1, 2, 3, 0] rfl) (show (f_Mo_note S mp k0 k1) = f_Mo_note_L261 S mp k0 k1 gn x4 (x7 + (1 : Int32)) (S'.1, S'.2.1, S'.2.2.1, (upd S'.2.2.2 (((8 : Int32) * ((6 : Int32) + (S'.2.1 (2 : Int32).toNatClampNeg))) + x7).toNatClampNeg (f_Mo_fourAt S'.1 mp ((k0 + (24 : Int32)) + ((4 : Int32) * x7))))) by rw [he, f_Mo_note_L261, if_neg hc3]) (⟨hn1, fa20⟩) (⟨hn12, fa21⟩) at22 (⟨hn17, fa19⟩) at23 hP hS (ho.2.2.2.2.2 hc3)
  have L23 : ∀ (gn : Nat) (x3 : Int32) (S' : cd_Mo × cd_Ia × cd_Ia × cd_Ia) (w : Nat → va_E) (efr : ∀ k : Nat, (k < q ∨ q + 1 ≤ k) ∧ (k < (q + 6) ∨ (q + 6) + 1 ≤ k) ∧ (k < (q + 7) ∨ (q + 7) + 1 ≤ k) ∧ (k < (q + 8) ∨ (q + 8) + 1 ≤ k) → w k = w0 k) (H : Heap) (locs : List Loc) (ls : Array Slot), lv_has ls 8 [(0, .ref (ad q)), (1, .int k0), (2, .int k1), (3, .int x3)] → (f_Mo_note S mp k0 k1) = f_Mo_note_L23 S mp k0 k1 gn x3 S' → cd_MoAt N tt ad w q S'.1 → cd_IaAt N tt ad w (q + 6) 3 S'.2.1 → cd_IaAt N tt ad w (q + 7) 9 S'.2.2.1 → cd_IaAt N tt ad w (q + 8) 72 S'.2.2.2 → cd_ByAt N tt ad w (q + 10) 8192 mp → cd_P D ad N A w H → va_S A s.heap H locs → o_Mo_note_L23 S mp k0 k1 gn x3 S' → W p l e (headSpec w_Mo_note ({ frames := 2, cells := 0, slots := 0, locals := 42 })).room s m [.ref (ad q), .int k0, .int k1].toArray below meth c H locs 0 0 (MQ below (va_Qi (fun r w' => (f_Mo_note S mp k0 k1).1 = r ∧ cd_MoAt N tt ad w' q ((f_Mo_note S mp k0 k1).2.1) ∧ cd_IaAt N tt ad w' (q + 6) 3 ((f_Mo_note S mp k0 k1).2.2.1) ∧ cd_IaAt N tt ad w' (q + 7) 9 ((f_Mo_note S mp k0 k1).2.2.2.1) ∧ cd_IaAt N tt ad w' (q + 8) 72 ((f_Mo_note S mp k0 k1).2.2.2.2) ∧ (∀ k : Nat, (k < q ∨ q + 1 ≤ k) ∧ (k < (q + 6) ∨ (q + 6) + 1 ≤ k) ∧ (k < (q + 7) ∨ (q + 7) + 1 ≤ k) ∧ (k < (q + 8) ∨ (q + 8) + 1 ≤ k) → w' k = w0 k)) (fun w' t => cd_P D ad N A w' t.heap) A) [.ref (ad q), .int k0, .int k1].toArray s 0 0 A) (F0 m 23 ls []) := by
    intro gn
    induction gn with
    | zero => intro x3 S' w efr H locs ls hl he hL0 hL1 hL2 hL3 hL4 hP hS ho; exact ho.elim
    | succ gn ih =>
      intro x3 S' w efr H locs ls hl he hL0 hL1 hL2 hL3 hL4 hP hS ho
      have ho : ((20 : Int32) ≤ x3 → o_Mo_fourAt S'.1 mp (k0 + (4 : Int32))) ∧ ((20 : Int32) ≤ x3 → (f_Mo_fourAt S'.1 mp (k0 + (4 : Int32))) < 0 → (k0 + (4 : Int32)) = (-1 : Int32) → o_Mo_fourAt S'.1 mp (k0 + (8 : Int32))) ∧ ((20 : Int32) ≤ x3 → (f_Mo_fourAt S'.1 mp (k0 + (4 : Int32))) < 0 → (k0 + (4 : Int32)) = (-1 : Int32) → (f_Mo_fourAt S'.1 mp (k0 + (8 : Int32))) = (1 : Int32) → vp_in (2 : Int32) 3) ∧ ((20 : Int32) ≤ x3 → (f_Mo_fourAt S'.1 mp (k0 + (4 : Int32))) < 0 → (k0 + (4 : Int32)) = (-1 : Int32) → (f_Mo_fourAt S'.1 mp (k0 + (8 : Int32))) = (1 : Int32) → o_Mo_fourAt S'.1 mp (k0 + (20 : Int32))) ∧ ((20 : Int32) ≤ x3 → (f_Mo_fourAt S'.1 mp (k0 + (4 : Int32))) < 0 → (k0 + (4 : Int32)) = (-1 : Int32) → (f_Mo_fourAt S'.1 mp (k0 + (8 : Int32))) = (1 : Int32) → vp_in ((6 : Int32) + (S'.2.1 (2 : Int32).toNatClampNeg)) 9) ∧ ((20 : Int32) ≤ x3 → (f_Mo_fourAt S'.1 mp (k0 + (4 : Int32))) < 0 → (k0 + (4 : Int32)) = (-1 : Int32) → (f_Mo_fourAt S'.1 mp (k0 + (8 : Int32))) = (1 : Int32) → o_Mo_note_L261 S mp k0 k1 9 ((20 : Int64) + ((((f_Mo_fourAt S'.1 mp (k0 + (4 : Int32))).toInt64 + (3 : Int64)) / (4 : Int64)) * (4 : Int64))) (0 : Int32) (S'.1, S'.2.1, (upd S'.2.2.1 ((6 : Int32) + (S'.2.1 (2 : Int32).toNatClampNeg)).toNatClampNeg (f_Mo_fourAt S'.1 mp (k0 + (20 : Int32)))), S'.2.2.2)) ∧ ((20 : Int32) ≤ x3 → ¬ (f_Mo_fourAt S'.1 mp (k0 + (4 : Int32))) < 0 → (k0.toInt64 + ((20 : Int64) + ((((f_Mo_fourAt S'.1 mp (k0 + (4 : Int32))).toInt64 + (3 : Int64)) / (4 : Int64)) * (4 : Int64)))) ≤ k1.toInt64 → o_Mo_fourAt S'.1 mp (k0 + (8 : Int32))) ∧ ((20 : Int32) ≤ x3 → ¬ (f_Mo_fourAt S'.1 mp (k0 + (4 : Int32))) < 0 → (k0.toInt64 + ((20 : Int64) + ((((f_Mo_fourAt S'.1 mp (k0 + (4 : Int32))).toInt64 + (3 : Int64)) / (4 : Int64)) * (4 : Int64)))) ≤ k1.toInt64 → ¬ (f_Mo_fourAt S'.1 mp (k0 + (8 : Int32))) = (1 : Int32) → o_Mo_fourAt S'.1 mp (k0 + (8 : Int32))) ∧ ((20 : Int32) ≤ x3 → ¬ (f_Mo_fourAt S'.1 mp (k0 + (4 : Int32))) < 0 → (k0.toInt64 + ((20 : Int64) + ((((f_Mo_fourAt S'.1 mp (k0 + (4 : Int32))).toInt64 + (3 : Int64)) / (4 : Int64)) * (4 : Int64)))) ≤ k1.toInt64 → (f_Mo_fourAt S'.1 mp (k0 + (8 : Int32))) = (1 : Int32) → (f_Mo_fourAt S'.1 mp (k0 + (4 : Int32))) = (36 : Int32) → o_Mo_fourAt S'.1 mp (k0 + (20 : Int32))) ∧ ((20 : Int32) ≤ x3 → ¬ (f_Mo_fourAt S'.1 mp (k0 + (4 : Int32))) < 0 → (k0.toInt64 + ((20 : Int64) + ((((f_Mo_fourAt S'.1 mp (k0 + (4 : Int32))).toInt64 + (3 : Int64)) / (4 : Int64)) * (4 : Int64)))) ≤ k1.toInt64 → (f_Mo_fourAt S'.1 mp (k0 + (8 : Int32))) = (1 : Int32) → (f_Mo_fourAt S'.1 mp (k0 + (4 : Int32))) = (36 : Int32) → o_Mo_hasId S'.1 S'.2.1 S'.2.2.1 (2 : Int32) (f_Mo_fourAt S'.1 mp (k0 + (20 : Int32)))) ∧ ((20 : Int32) ≤ x3 → ¬ (f_Mo_fourAt S'.1 mp (k0 + (4 : Int32))) < 0 → (k0.toInt64 + ((20 : Int64) + ((((f_Mo_fourAt S'.1 mp (k0 + (4 : Int32))).toInt64 + (3 : Int64)) / (4 : Int64)) * (4 : Int64)))) ≤ k1.toInt64 → (f_Mo_fourAt S'.1 mp (k0 + (8 : Int32))) = (1 : Int32) → (f_Mo_fourAt S'.1 mp (k0 + (4 : Int32))) = (36 : Int32) → (f_Mo_hasId S'.1 S'.2.1 S'.2.2.1 (2 : Int32) (f_Mo_fourAt S'.1 mp (k0 + (20 : Int32)))) = 0 → vp_in (2 : Int32) 3) ∧ ((20 : Int32) ≤ x3 → ¬ (f_Mo_fourAt S'.1 mp (k0 + (4 : Int32))) < 0 → (k0.toInt64 + ((20 : Int64) + ((((f_Mo_fourAt S'.1 mp (k0 + (4 : Int32))).toInt64 + (3 : Int64)) / (4 : Int64)) * (4 : Int64)))) ≤ k1.toInt64 → (f_Mo_fourAt S'.1 mp (k0 + (8 : Int32))) = (1 : Int32) → (f_Mo_fourAt S'.1 mp (k0 + (4 : Int32))) = (36 : Int32) → (f_Mo_hasId S'.1 S'.2.1 S'.2.2.1 (2 : Int32) (f_Mo_fourAt S'.1 mp (k0 + (20 : Int32)))) = 0 → ¬ (S'.2.1 (2 : Int32).toNatClampNeg) = (3 : Int32) → o_Mo_fourAt S'.1 mp (k0 + (8 : Int32))) ∧ ((20 : Int32) ≤ x3 → ¬ (f_Mo_fourAt S'.1 mp (k0 + (4 : Int32))) < 0 → (k0.toInt64 + ((20 : Int64) + ((((f_Mo_fourAt S'.1 mp (k0 + (4 : Int32))).toInt64 + (3 : Int64)) / (4 : Int64)) * (4 : Int64)))) ≤ k1.toInt64 → (f_Mo_fourAt S'.1 mp (k0 + (8 : Int32))) = (1 : Int32) → (f_Mo_fourAt S'.1 mp (k0 + (4 : Int32))) = (36 : Int32) → (f_Mo_hasId S'.1 S'.2.1 S'.2.2.1 (2 : Int32) (f_Mo_fourAt S'.1 mp (k0 + (20 : Int32)))) = 0 → ¬ (S'.2.1 (2 : Int32).toNatClampNeg) = (3 : Int32) → vp_in (2 : Int32) 3) ∧ ((20 : Int32) ≤ x3 → ¬ (f_Mo_fourAt S'.1 mp (k0 + (4 : Int32))) < 0 → (k0.toInt64 + ((20 : Int64) + ((((f_Mo_fourAt S'.1 mp (k0 + (4 : Int32))).toInt64 + (3 : Int64)) / (4 : Int64)) * (4 : Int64)))) ≤ k1.toInt64 → (f_Mo_fourAt S'.1 mp (k0 + (8 : Int32))) = (1 : Int32) → (f_Mo_fourAt S'.1 mp (k0 + (4 : Int32))) = (36 : Int32) → (f_Mo_hasId S'.1 S'.2.1 S'.2.2.1 (2 : Int32) (f_Mo_fourAt S'.1 mp (k0 + (20 : Int32)))) = 0 → ¬ (S'.2.1 (2 : Int32).toNatClampNeg) = (3 : Int32) → o_Mo_fourAt S'.1 mp (k0 + (20 : Int32))) ∧ ((20 : Int32) ≤ x3 → ¬ (f_Mo_fourAt S'.1 mp (k0 + (4 : Int32))) < 0 → (k0.toInt64 + ((20 : Int64) + ((((f_Mo_fourAt S'.1 mp (k0 + (4 : Int32))).toInt64 + (3 : Int64)) / (4 : Int64)) * (4 : Int64)))) ≤ k1.toInt64 → (f_Mo_fourAt S'.1 mp (k0 + (8 : Int32))) = (1 : Int32) → (f_Mo_fourAt S'.1 mp (k0 + (4 : Int32))) = (36 : Int32) → (f_Mo_hasId S'.1 S'.2.1 S'.2.2.1 (2 : Int32) (f_Mo_fourAt S'.1 mp (k0 + (20 : Int32)))) = 0 → ¬ (S'.2.1 (2 : Int32).toNatClampNeg) = (3 : Int32) → vp_in ((6 : Int32) + (S'.2.1 (2 : Int32).toNatClampNeg)) 9) ∧ ((20 : Int32) ≤ x3 → ¬ (f_Mo_fourAt S'.1 mp (k0 + (4 : Int32))) < 0 → (k0.toInt64 + ((20 : Int64) + ((((f_Mo_fourAt S'.1 mp (k0 + (4 : Int32))).toInt64 + (3 : Int64)) / (4 : Int64)) * (4 : Int64)))) ≤ k1.toInt64 → (f_Mo_fourAt S'.1 mp (k0 + (8 : Int32))) = (1 : Int32) → (f_Mo_fourAt S'.1 mp (k0 + (4 : Int32))) = (36 : Int32) → (f_Mo_hasId S'.1 S'.2.1 S'.2.2.1 (2 : Int32) (f_Mo_fourAt S'.1 mp (k0 + (20 : Int32)))) = 0 → ¬ (S'.2.1 (2 : Int32).toNatClampNeg) = (3 : Int32) → o_Mo_note_L261 S mp k0 k1 9 ((20 : Int64) + ((((f_Mo_fourAt S'.1 mp (k0 + (4 : Int32))).toInt64 + (3 : Int64)) / (4 : Int64)) * (4 : Int64))) (0 : Int32) (S'.1, S'.2.1, (upd S'.2.2.1 ((6 : Int32) + (S'.2.1 (2 : Int32).toNatClampNeg)).toNatClampNeg (f_Mo_fourAt S'.1 mp (k0 + (20 : Int32)))), S'.2.2.2)) ∧ ((20 : Int32) ≤ x3 → ¬ (f_Mo_fourAt S'.1 mp (k0 + (4 : Int32))) < 0 → (k0.toInt64 + ((20 : Int64) + ((((f_Mo_fourAt S'.1 mp (k0 + (4 : Int32))).toInt64 + (3 : Int64)) / (4 : Int64)) * (4 : Int64)))) ≤ k1.toInt64 → (f_Mo_fourAt S'.1 mp (k0 + (8 : Int32))) = (1 : Int32) → (f_Mo_fourAt S'.1 mp (k0 + (4 : Int32))) = (36 : Int32) → (f_Mo_hasId S'.1 S'.2.1 S'.2.2.1 (2 : Int32) (f_Mo_fourAt S'.1 mp (k0 + (20 : Int32)))) = 0 → (S'.2.1 (2 : Int32).toNatClampNeg) = (3 : Int32) → k0 = (-1 : Int32) → o_Mo_fourAt S'.1 mp (k0 + (8 : Int32))) ∧ ((20 : Int32) ≤ x3 → ¬ (f_Mo_fourAt S'.1 mp (k0 + (4 : Int32))) < 0 → (k0.toInt64 + ((20 : Int64) + ((((f_Mo_fourAt S'.1 mp (k0 + (4 : Int32))).toInt64 + (3 : Int64)) / (4 : Int64)) * (4 : Int64)))) ≤ k1.toInt64 → (f_Mo_fourAt S'.1 mp (k0 + (8 : Int32))) = (1 : Int32) → (f_Mo_fourAt S'.1 mp (k0 + (4 : Int32))) = (36 : Int32) → (f_Mo_hasId S'.1 S'.2.1 S'.2.2.1 (2 : Int32) (f_Mo_fourAt S'.1 mp (k0 + (20 : Int32)))) = 0 → (S'.2.1 (2 : Int32).toNatClampNeg) = (3 : Int32) → k0 = (-1 : Int32) → vp_in (2 : Int32) 3) ∧ ((20 : Int32) ≤ x3 → ¬ (f_Mo_fourAt S'.1 mp (k0 + (4 : Int32))) < 0 → (k0.toInt64 + ((20 : Int64) + ((((f_Mo_fourAt S'.1 mp (k0 + (4 : Int32))).toInt64 + (3 : Int64)) / (4 : Int64)) * (4 : Int64)))) ≤ k1.toInt64 → (f_Mo_fourAt S'.1 mp (k0 + (8 : Int32))) = (1 : Int32) → (f_Mo_fourAt S'.1 mp (k0 + (4 : Int32))) = (36 : Int32) → (f_Mo_hasId S'.1 S'.2.1 S'.2.2.1 (2 : Int32) (f_Mo_fourAt S'.1 mp (k0 + (20 : Int32)))) = 0 → (S'.2.1 (2 : Int32).toNatClampNeg) = (3 : Int32) → k0 = (-1 : Int32) → o_Mo_fourAt S'.1 mp (k0 + (20 : Int32))) ∧ ((20 : Int32) ≤ x3 → ¬ (f_Mo_fourAt S'.1 mp (k0 + (4 : Int32))) < 0 → (k0.toInt64 + ((20 : Int64) + ((((f_Mo_fourAt S'.1 mp (k0 + (4 : Int32))).toInt64 + (3 : Int64)) / (4 : Int64)) * (4 : Int64)))) ≤ k1.toInt64 → (f_Mo_fourAt S'.1 mp (k0 + (8 : Int32))) = (1 : Int32) → (f_Mo_fourAt S'.1 mp (k0 + (4 : Int32))) = (36 : Int32) → (f_Mo_hasId S'.1 S'.2.1 S'.2.2.1 (2 : Int32) (f_Mo_fourAt S'.1 mp (k0 + (20 : Int32)))) = 0 → (S'.2.1 (2 : Int32).toNatClampNeg) = (3 : Int32) → k0 = (-1 : Int32) → vp_in ((6 : Int32) + (S'.2.1 (2 : Int32).toNatClampNeg)) 9) ∧ ((20 : Int32) ≤ x3 → ¬ (f_Mo_fourAt S'.1 mp (k0 + (4 : Int32))) < 0 → (k0.toInt64 + ((20 : Int64) + ((((f_Mo_fourAt S'.1 mp (k0 + (4 : Int32))).toInt64 + (3 : Int64)) / (4 : Int64)) * (4 : Int64)))) ≤ k1.toInt64 → (f_Mo_fourAt S'.1 mp (k0 + (8 : Int32))) = (1 : Int32) → (f_Mo_fourAt S'.1 mp (k0 + (4 : Int32))) = (36 : Int32) → (f_Mo_hasId S'.1 S'.2.1 S'.2.2.1 (2 : Int32) (f_Mo_fourAt S'.1 mp (k0 + (20 : Int32)))) = 0 → (S'.2.1 (2 : Int32).toNatClampNeg) = (3 : Int32) → k0 = (-1 : Int32) → o_Mo_note_L261 S mp k0 k1 9 ((20 : Int64) + ((((f_Mo_fourAt S'.1 mp (k0 + (4 : Int32))).toInt64 + (3 : Int64)) / (4 : Int64)) * (4 : Int64))) (0 : Int32) (S'.1, S'.2.1, (upd S'.2.2.1 ((6 : Int32) + (S'.2.1 (2 : Int32).toNatClampNeg)).toNatClampNeg (f_Mo_fourAt S'.1 mp (k0 + (20 : Int32)))), S'.2.2.2)) ∧ ((20 : Int32) ≤ x3 → ¬ (f_Mo_fourAt S'.1 mp (k0 + (4 : Int32))) < 0 → (k0.toInt64 + ((20 : Int64) + ((((f_Mo_fourAt S'.1 mp (k0 + (4 : Int32))).toInt64 + (3 : Int64)) / (4 : Int64)) * (4 : Int64)))) ≤ k1.toInt64 → (f_Mo_fourAt S'.1 mp (k0 + (8 : Int32))) = (1 : Int32) → (f_Mo_fourAt S'.1 mp (k0 + (4 : Int32))) = (36 : Int32) → ¬ (f_Mo_hasId S'.1 S'.2.1 S'.2.2.1 (2 : Int32) (f_Mo_fourAt S'.1 mp (k0 + (20 : Int32)))) = 0 → (k0 + (20 : Int32)) = (-1 : Int32) → o_Mo_fourAt S'.1 mp (k0 + (8 : Int32))) ∧ ((20 : Int32) ≤ x3 → ¬ (f_Mo_fourAt S'.1 mp (k0 + (4 : Int32))) < 0 → (k0.toInt64 + ((20 : Int64) + ((((f_Mo_fourAt S'.1 mp (k0 + (4 : Int32))).toInt64 + (3 : Int64)) / (4 : Int64)) * (4 : Int64)))) ≤ k1.toInt64 → (f_Mo_fourAt S'.1 mp (k0 + (8 : Int32))) = (1 : Int32) → (f_Mo_fourAt S'.1 mp (k0 + (4 : Int32))) = (36 : Int32) → ¬ (f_Mo_hasId S'.1 S'.2.1 S'.2.2.1 (2 : Int32) (f_Mo_fourAt S'.1 mp (k0 + (20 : Int32)))) = 0 → (k0 + (20 : Int32)) = (-1 : Int32) → vp_in (2 : Int32) 3) ∧ ((20 : Int32) ≤ x3 → ¬ (f_Mo_fourAt S'.1 mp (k0 + (4 : Int32))) < 0 → (k0.toInt64 + ((20 : Int64) + ((((f_Mo_fourAt S'.1 mp (k0 + (4 : Int32))).toInt64 + (3 : Int64)) / (4 : Int64)) * (4 : Int64)))) ≤ k1.toInt64 → (f_Mo_fourAt S'.1 mp (k0 + (8 : Int32))) = (1 : Int32) → (f_Mo_fourAt S'.1 mp (k0 + (4 : Int32))) = (36 : Int32) → ¬ (f_Mo_hasId S'.1 S'.2.1 S'.2.2.1 (2 : Int32) (f_Mo_fourAt S'.1 mp (k0 + (20 : Int32)))) = 0 → (k0 + (20 : Int32)) = (-1 : Int32) → o_Mo_fourAt S'.1 mp (k0 + (20 : Int32))) ∧ ((20 : Int32) ≤ x3 → ¬ (f_Mo_fourAt S'.1 mp (k0 + (4 : Int32))) < 0 → (k0.toInt64 + ((20 : Int64) + ((((f_Mo_fourAt S'.1 mp (k0 + (4 : Int32))).toInt64 + (3 : Int64)) / (4 : Int64)) * (4 : Int64)))) ≤ k1.toInt64 → (f_Mo_fourAt S'.1 mp (k0 + (8 : Int32))) = (1 : Int32) → (f_Mo_fourAt S'.1 mp (k0 + (4 : Int32))) = (36 : Int32) → ¬ (f_Mo_hasId S'.1 S'.2.1 S'.2.2.1 (2 : Int32) (f_Mo_fourAt S'.1 mp (k0 + (20 : Int32)))) = 0 → (k0 + (20 : Int32)) = (-1 : Int32) → vp_in ((6 : Int32) + (S'.2.1 (2 : Int32).toNatClampNeg)) 9) ∧ ((20 : Int32) ≤ x3 → ¬ (f_Mo_fourAt S'.1 mp (k0 + (4 : Int32))) < 0 → (k0.toInt64 + ((20 : Int64) + ((((f_Mo_fourAt S'.1 mp (k0 + (4 : Int32))).toInt64 + (3 : Int64)) / (4 : Int64)) * (4 : Int64)))) ≤ k1.toInt64 → (f_Mo_fourAt S'.1 mp (k0 + (8 : Int32))) = (1 : Int32) → (f_Mo_fourAt S'.1 mp (k0 + (4 : Int32))) = (36 : Int32) → ¬ (f_Mo_hasId S'.1 S'.2.1 S'.2.2.1 (2 : Int32) (f_Mo_fourAt S'.1 mp (k0 + (20 : Int32)))) = 0 → (k0 + (20 : Int32)) = (-1 : Int32) → o_Mo_note_L261 S mp k0 k1 9 ((20 : Int64) + ((((f_Mo_fourAt S'.1 mp (k0 + (4 : Int32))).toInt64 + (3 : Int64)) / (4 : Int64)) * (4 : Int64))) (0 : Int32) (S'.1, S'.2.1, (upd S'.2.2.1 ((6 : Int32) + (S'.2.1 (2 : Int32).toNatClampNeg)).toNatClampNeg (f_Mo_fourAt S'.1 mp (k0 + (20 : Int32)))), S'.2.2.2)) ∧ ((20 : Int32) ≤ x3 → ¬ (f_Mo_fourAt S'.1 mp (k0 + (4 : Int32))) < 0 → (k0.toInt64 + ((20 : Int64) + ((((f_Mo_fourAt S'.1 mp (k0 + (4 : Int32))).toInt64 + (3 : Int64)) / (4 : Int64)) * (4 : Int64)))) ≤ k1.toInt64 → (f_Mo_fourAt S'.1 mp (k0 + (8 : Int32))) = (1 : Int32) → ¬ (f_Mo_fourAt S'.1 mp (k0 + (4 : Int32))) = (36 : Int32) → (k0 + (4 : Int32)) = (-1 : Int32) → o_Mo_fourAt S'.1 mp (k0 + (8 : Int32))) ∧ ((20 : Int32) ≤ x3 → ¬ (f_Mo_fourAt S'.1 mp (k0 + (4 : Int32))) < 0 → (k0.toInt64 + ((20 : Int64) + ((((f_Mo_fourAt S'.1 mp (k0 + (4 : Int32))).toInt64 + (3 : Int64)) / (4 : Int64)) * (4 : Int64)))) ≤ k1.toInt64 → (f_Mo_fourAt S'.1 mp (k0 + (8 : Int32))) = (1 : Int32) → ¬ (f_Mo_fourAt S'.1 mp (k0 + (4 : Int32))) = (36 : Int32) → (k0 + (4 : Int32)) = (-1 : Int32) → vp_in (2 : Int32) 3) ∧ ((20 : Int32) ≤ x3 → ¬ (f_Mo_fourAt S'.1 mp (k0 + (4 : Int32))) < 0 → (k0.toInt64 + ((20 : Int64) + ((((f_Mo_fourAt S'.1 mp (k0 + (4 : Int32))).toInt64 + (3 : Int64)) / (4 : Int64)) * (4 : Int64)))) ≤ k1.toInt64 → (f_Mo_fourAt S'.1 mp (k0 + (8 : Int32))) = (1 : Int32) → ¬ (f_Mo_fourAt S'.1 mp (k0 + (4 : Int32))) = (36 : Int32) → (k0 + (4 : Int32)) = (-1 : Int32) → o_Mo_fourAt S'.1 mp (k0 + (20 : Int32))) ∧ ((20 : Int32) ≤ x3 → ¬ (f_Mo_fourAt S'.1 mp (k0 + (4 : Int32))) < 0 → (k0.toInt64 + ((20 : Int64) + ((((f_Mo_fourAt S'.1 mp (k0 + (4 : Int32))).toInt64 + (3 : Int64)) / (4 : Int64)) * (4 : Int64)))) ≤ k1.toInt64 → (f_Mo_fourAt S'.1 mp (k0 + (8 : Int32))) = (1 : Int32) → ¬ (f_Mo_fourAt S'.1 mp (k0 + (4 : Int32))) = (36 : Int32) → (k0 + (4 : Int32)) = (-1 : Int32) → vp_in ((6 : Int32) + (S'.2.1 (2 : Int32).toNatClampNeg)) 9) ∧ ((20 : Int32) ≤ x3 → ¬ (f_Mo_fourAt S'.1 mp (k0 + (4 : Int32))) < 0 → (k0.toInt64 + ((20 : Int64) + ((((f_Mo_fourAt S'.1 mp (k0 + (4 : Int32))).toInt64 + (3 : Int64)) / (4 : Int64)) * (4 : Int64)))) ≤ k1.toInt64 → (f_Mo_fourAt S'.1 mp (k0 + (8 : Int32))) = (1 : Int32) → ¬ (f_Mo_fourAt S'.1 mp (k0 + (4 : Int32))) = (36 : Int32) → (k0 + (4 : Int32)) = (-1 : Int32) → o_Mo_note_L261 S mp k0 k1 9 ((20 : Int64) + ((((f_Mo_fourAt S'.1 mp (k0 + (4 : Int32))).toInt64 + (3 : Int64)) / (4 : Int64)) * (4 : Int64))) (0 : Int32) (S'.1, S'.2.1, (upd S'.2.2.1 ((6 : Int32) + (S'.2.1 (2 : Int32).toNatClampNeg)).toNatClampNeg (f_Mo_fourAt S'.1 mp (k0 + (20 : Int32)))), S'.2.2.2)) ∧ ((20 : Int32) ≤ x3 → ¬ (f_Mo_fourAt S'.1 mp (k0 + (4 : Int32))) < 0 → ¬ (k0.toInt64 + ((20 : Int64) + ((((f_Mo_fourAt S'.1 mp (k0 + (4 : Int32))).toInt64 + (3 : Int64)) / (4 : Int64)) * (4 : Int64)))) ≤ k1.toInt64 → (k0 + (4 : Int32)) = (-1 : Int32) → o_Mo_fourAt S'.1 mp (k0 + (8 : Int32))) ∧ ((20 : Int32) ≤ x3 → ¬ (f_Mo_fourAt S'.1 mp (k0 + (4 : Int32))) < 0 → ¬ (k0.toInt64 + ((20 : Int64) + ((((f_Mo_fourAt S'.1 mp (k0 + (4 : Int32))).toInt64 + (3 : Int64)) / (4 : Int64)) * (4 : Int64)))) ≤ k1.toInt64 → (k0 + (4 : Int32)) = (-1 : Int32) → (f_Mo_fourAt S'.1 mp (k0 + (8 : Int32))) = (1 : Int32) → vp_in (2 : Int32) 3) ∧ ((20 : Int32) ≤ x3 → ¬ (f_Mo_fourAt S'.1 mp (k0 + (4 : Int32))) < 0 → ¬ (k0.toInt64 + ((20 : Int64) + ((((f_Mo_fourAt S'.1 mp (k0 + (4 : Int32))).toInt64 + (3 : Int64)) / (4 : Int64)) * (4 : Int64)))) ≤ k1.toInt64 → (k0 + (4 : Int32)) = (-1 : Int32) → (f_Mo_fourAt S'.1 mp (k0 + (8 : Int32))) = (1 : Int32) → o_Mo_fourAt S'.1 mp (k0 + (20 : Int32))) ∧ ((20 : Int32) ≤ x3 → ¬ (f_Mo_fourAt S'.1 mp (k0 + (4 : Int32))) < 0 → ¬ (k0.toInt64 + ((20 : Int64) + ((((f_Mo_fourAt S'.1 mp (k0 + (4 : Int32))).toInt64 + (3 : Int64)) / (4 : Int64)) * (4 : Int64)))) ≤ k1.toInt64 → (k0 + (4 : Int32)) = (-1 : Int32) → (f_Mo_fourAt S'.1 mp (k0 + (8 : Int32))) = (1 : Int32) → vp_in ((6 : Int32) + (S'.2.1 (2 : Int32).toNatClampNeg)) 9) ∧ ((20 : Int32) ≤ x3 → ¬ (f_Mo_fourAt S'.1 mp (k0 + (4 : Int32))) < 0 → ¬ (k0.toInt64 + ((20 : Int64) + ((((f_Mo_fourAt S'.1 mp (k0 + (4 : Int32))).toInt64 + (3 : Int64)) / (4 : Int64)) * (4 : Int64)))) ≤ k1.toInt64 → (k0 + (4 : Int32)) = (-1 : Int32) → (f_Mo_fourAt S'.1 mp (k0 + (8 : Int32))) = (1 : Int32) → o_Mo_note_L261 S mp k0 k1 9 ((20 : Int64) + ((((f_Mo_fourAt S'.1 mp (k0 + (4 : Int32))).toInt64 + (3 : Int64)) / (4 : Int64)) * (4 : Int64))) (0 : Int32) (S'.1, S'.2.1, (upd S'.2.2.1 ((6 : Int32) + (S'.2.1 (2 : Int32).toNatClampNeg)).toNatClampNeg (f_Mo_fourAt S'.1 mp (k0 + (20 : Int32)))), S'.2.2.2)) ∧ (¬ (20 : Int32) ≤ x3 → (f_Mo_noteByte x3) = (-1 : Int32) → o_Mo_note_L23 S mp k0 k1 gn (x3 + (1 : Int32)) S') ∧ (¬ (20 : Int32) ≤ x3 → ¬ (f_Mo_noteByte x3) = (-1 : Int32) → vp_in (k0 + x3) 8192) ∧ (¬ (20 : Int32) ≤ x3 → ¬ (f_Mo_noteByte x3) = (-1 : Int32) → (f_Mo_noteByte x3) = ((mp (k0 + x3).toNatClampNeg) &&& (255 : Int32)) → o_Mo_note_L23 S mp k0 k1 gn (x3 + (1 : Int32)) S') := ho
      obtain ⟨hn24, fa25⟩ := hL0
      refine lv_iload_n hx hb d_Mo_note_23 rfl (lv_at hl 3 rfl) ?_
      refine lv_bipush (v := (20 : Int32)) hx hb d_Mo_note_24 (by decide) ?_
      refine lv_icmp_ge (tgt := 86) hx hb d_Mo_note_26 (by decide) (fun hc26 => ?_) (fun hc26 => ?_)
      · refine lv_aload_n hx hb d_Mo_note_86 rfl (lv_at hl 0 rfl) ?_
        refine lv_iload_n hx hb d_Mo_note_87 rfl (lv_at hl 1 rfl) ?_
        refine lv_iconst (v := (4 : Int32)) hx hb d_Mo_note_88 (by decide) ?_
        refine lv_iadd hx hb d_Mo_note_89 ?_
        refine va_calli (va_runV (As := [.int (k0 + (4 : Int32))]) (rest := []) ⟨hx, hb, hml, hown, hA⟩ (c_Mo_fourAt l D tt ad N A zs w q S'.1 mp (k0 + (4 : Int32)) (⟨hn24, fa25⟩) hL4 (ho.1 hc26)) (cwV 1 hA (cd_gV aw_699 aw_700 aw_800 aw_8 aw_701) rfl rfl rfl ⟨rfl, by decide, by decide, by decide +kernel⟩ ⟨Nat.le_of_ble_eq_true rfl, Nat.le_of_ble_eq_true rfl⟩) ⟨cd_blind, cd_recv hK hP (k := q) (by omega) fa25 rfl, fun U hU hW => ⟨rfl, cd_pre hK hP hZ hS U hU hW⟩⟩ rfl rfl hl.1 rfl (lv_room (Nat.le_of_ble_eq_true rfl)) d_Mo_note_90 ⟨Nat.zero_le _, Nat.zero_le _⟩) hS (fun _ _ h => h) (fun _ h => h) (fun r27 w4 tE H locs ht hvm hr28 hP hz1 hk1 hS => ?_)
        have hP := cd_Pf ht hP
        obtain ⟨rfl, rfl⟩ := hr28
        refine lv_istore_n (lv' := [(3, .int (f_Mo_fourAt S'.1 mp (k0 + (4 : Int32)))), (0, .ref (ad q)), (1, .int k0), (2, .int k1)]) hx hb d_Mo_note_93 rfl hl (by decide) rfl (fun ls hl => ?_)
        refine lv_ldc2 (v := (20 : Int64)) hx hb hown (hA _ aw_714) d_Mo_note_94 ?_
        refine lv_iload_n hx hb d_Mo_note_97 rfl (lv_at hl 0 rfl) ?_
        refine lv_i2l hx hb d_Mo_note_98 rfl ?_
        refine lv_ldc2 (v := (3 : Int64)) hx hb hown (hA _ aw_715) d_Mo_note_99 ?_
        refine lv_ladd hx hb d_Mo_note_102 ?_
        refine lv_ldc2 (v := (4 : Int64)) hx hb hown (hA _ aw_716) d_Mo_note_103 ?_
        refine lv_ldiv hx hb d_Mo_note_106 (by decide) ?_
        refine lv_ldc2 (v := (4 : Int64)) hx hb hown (hA _ aw_716) d_Mo_note_107 ?_
        refine lv_lmul hx hb d_Mo_note_110 ?_
        refine lv_ladd hx hb d_Mo_note_111 ?_
        refine lv_lstore (lv' := [(4, .long ((20 : Int64) + ((((f_Mo_fourAt S'.1 mp (k0 + (4 : Int32))).toInt64 + (3 : Int64)) / (4 : Int64)) * (4 : Int64)))), (3, .int (f_Mo_fourAt S'.1 mp (k0 + (4 : Int32)))), (0, .ref (ad q)), (1, .int k0), (2, .int k1)]) hx hb d_Mo_note_112 hl (by decide) rfl (fun ls hl => ?_)
        refine lv_iconst (v := (-1 : Int32)) hx hb d_Mo_note_114 (by decide) ?_
        refine lv_istore (lv' := [(6, .int (-1 : Int32)), (4, .long ((20 : Int64) + ((((f_Mo_fourAt S'.1 mp (k0 + (4 : Int32))).toInt64 + (3 : Int64)) / (4 : Int64)) * (4 : Int64)))), (3, .int (f_Mo_fourAt S'.1 mp (k0 + (4 : Int32)))), (0, .ref (ad q)), (1, .int k0), (2, .int k1)]) hx hb d_Mo_note_115 hl (by decide) rfl (fun ls hl => ?_)
        refine lv_iload_n hx hb d_Mo_note_117 rfl (lv_at hl 2 rfl) ?_
        refine lv_if_lt (tgt := 132) hx hb d_Mo_note_118 (by decide) (fun hc30 => ?_) (fun hc30 => ?_)
        · refine lv_iload_n hx hb d_Mo_note_132 rfl (lv_at hl 4 rfl) ?_
          refine lv_iconst (v := (4 : Int32)) hx hb d_Mo_note_133 (by decide) ?_
          refine lv_iadd hx hb d_Mo_note_134 ?_
          refine lv_istore (lv' := [(6, .int (k0 + (4 : Int32))), (4, .long ((20 : Int64) + ((((f_Mo_fourAt S'.1 mp (k0 + (4 : Int32))).toInt64 + (3 : Int64)) / (4 : Int64)) * (4 : Int64)))), (3, .int (f_Mo_fourAt S'.1 mp (k0 + (4 : Int32)))), (0, .ref (ad q)), (1, .int k0), (2, .int k1)]) hx hb d_Mo_note_135 hl (by decide) rfl (fun ls hl => ?_)
          refine lv_goto (tgt := 204) hx hb d_Mo_note_137 (by decide) ?_
          refine lv_iload hx hb d_Mo_note_204 (lv_at hl 0 rfl) ?_
          refine lv_iconst (v := (-1 : Int32)) hx hb d_Mo_note_206 (by decide) ?_
          refine lv_icmp_eq (tgt := 224) hx hb d_Mo_note_207 (by decide) (fun hc31 => ?_) (fun hc31 => ?_)
          · refine lv_aload_n hx hb d_Mo_note_224 rfl (lv_at hl 3 rfl) ?_
            refine lv_iload_n hx hb d_Mo_note_225 rfl (lv_at hl 4 rfl) ?_
            refine lv_bipush (v := (8 : Int32)) hx hb d_Mo_note_226 (by decide) ?_
            refine lv_iadd hx hb d_Mo_note_228 ?_
            refine va_calli (va_runV (As := [.int (k0 + (8 : Int32))]) (rest := []) ⟨hx, hb, hml, hown, hA⟩ (c_Mo_fourAt l D tt ad N A zs w q S'.1 mp (k0 + (8 : Int32)) (⟨hn24, fa25⟩) hL4 (ho.2.1 hc26 hc30 hc31)) (cwV 1 hA (cd_gV aw_699 aw_700 aw_800 aw_8 aw_701) rfl rfl rfl ⟨rfl, by decide, by decide, by decide +kernel⟩ ⟨Nat.le_of_ble_eq_true rfl, Nat.le_of_ble_eq_true rfl⟩) ⟨cd_blind, cd_recv hK hP (k := q) (by omega) fa25 rfl, fun U hU hW => ⟨rfl, cd_pre hK hP hZ hS U hU hW⟩⟩ rfl rfl hl.1 rfl (lv_room (Nat.le_of_ble_eq_true rfl)) d_Mo_note_229 ⟨Nat.zero_le _, Nat.zero_le _⟩) hS (fun _ _ h => h) (fun _ h => h) (fun r32 w5 tE H locs ht hvm hr33 hP hz1 hk1 hS => ?_)
            have hP := cd_Pf ht hP
            obtain ⟨rfl, rfl⟩ := hr33
            refine lv_iconst (v := (1 : Int32)) hx hb d_Mo_note_232 (by decide) ?_
            refine lv_icmp_ne (tgt := 317) hx hb d_Mo_note_233 (by decide) (fun hc35 => ?_) (fun hc35 => ?_)
            · refine lv_lload hx hb d_Mo_note_317 (lv_at hl 1 rfl) ?_
              refine lv_l2i hx hb d_Mo_note_319 rfl ?_
              have hf36 : (f_Mo_note S mp k0 k1) = (((20 : Int64) + ((((f_Mo_fourAt S'.1 mp (k0 + (4 : Int32))).toInt64 + (3 : Int64)) / (4 : Int64)) * (4 : Int64))).toInt32, S'.1, S'.2.1, S'.2.2.1, S'.2.2.2) := by rw [he, f_Mo_note_L23, if_pos hc26, if_pos hc30, if_pos hc31, if_neg hc35]
              exact W.iret (v := ((20 : Int64) + ((((f_Mo_fourAt S'.1 mp (k0 + (4 : Int32))).toInt64 + (3 : Int64)) / (4 : Int64)) * (4 : Int64))).toInt32) hx hb hr (fun tE ht _ => ⟨⟨_, w, rfl, ⟨(by rw [hf36]), (by rw [hf36]; exact ⟨hn24, fa25⟩), (by rw [hf36]; exact hL1), (by rw [hf36]; exact hL2), (by rw [hf36]; exact hL3), (fun k hk => (efr k (by omega)))⟩, cd_Pt ht hP⟩, hS.F ht⟩) hS.2.2 d_Mo_note_320
            · refine lv_aload_n hx hb d_Mo_note_236 rfl (lv_at hl 3 rfl) ?_
              refine g_get (ci := 7) (C := R_Mo) (T := F_Mo) (Nf := 16) (v := .ref (ad (q + 7))) hx hb hA in_Mo hown hK hP (k := q) (by omega) fa25 rfl 7 (by decide) (hA _ aw_567) (fun _ h9 => h9) rfl d_Mo_note_237 ?_
              refine lv_bipush (v := (6 : Int32)) hx hb d_Mo_note_240 (by decide) ?_
              refine lv_aload_n hx hb d_Mo_note_242 rfl (lv_at hl 3 rfl) ?_
              refine g_get (ci := 7) (C := R_Mo) (T := F_Mo) (Nf := 16) (v := .ref (ad (q + 6))) hx hb hA in_Mo hown hK hP (k := q) (by omega) fa25 rfl 6 (by decide) (hA _ aw_566) (fun _ h9 => h9) rfl d_Mo_note_243 ?_
              refine lv_iconst (v := (2 : Int32)) hx hb d_Mo_note_246 (by decide) ?_
              obtain ⟨hn37, fa38⟩ := hL1
              refine g_iald hx hb hK hP (k := (q + 6)) (by omega) fa38 rfl (ho.2.2.1 hc26 hc30 hc31 hc35) d_Mo_note_247 ?_
              refine lv_iadd hx hb d_Mo_note_248 ?_
              refine lv_aload_n hx hb d_Mo_note_249 rfl (lv_at hl 3 rfl) ?_
              refine lv_iload_n hx hb d_Mo_note_250 rfl (lv_at hl 4 rfl) ?_
              refine lv_bipush (v := (20 : Int32)) hx hb d_Mo_note_251 (by decide) ?_
              refine lv_iadd hx hb d_Mo_note_253 ?_
              refine va_calli (va_runV (As := [.int (k0 + (20 : Int32))]) (rest := [.int ((6 : Int32) + (S'.2.1 (2 : Int32).toNatClampNeg)), .ref (ad (q + 7))]) ⟨hx, hb, hml, hown, hA⟩ (c_Mo_fourAt l D tt ad N A zs w q S'.1 mp (k0 + (20 : Int32)) (⟨hn24, fa25⟩) hL4 (ho.2.2.2.1 hc26 hc30 hc31 hc35)) (cwV 1 hA (cd_gV aw_699 aw_700 aw_800 aw_8 aw_701) rfl rfl rfl ⟨rfl, by decide, by decide, by decide +kernel⟩ ⟨Nat.le_of_ble_eq_true rfl, Nat.le_of_ble_eq_true rfl⟩) ⟨cd_blind, cd_recv hK hP (k := q) (by omega) fa25 rfl, fun U hU hW => ⟨rfl, cd_pre hK hP hZ hS U hU hW⟩⟩ rfl rfl hl.1 rfl (lv_room (Nat.le_of_ble_eq_true rfl)) d_Mo_note_254 ⟨Nat.zero_le _, Nat.zero_le _⟩) hS (fun _ _ h => h) (fun _ h => h) (fun r39 w6 tE H locs ht hvm hr40 hP hz1 hk1 hS => ?_)
              have hP := cd_Pf ht hP
              obtain ⟨rfl, rfl⟩ := hr40
              obtain ⟨hn42, fa43⟩ := hL2
              refine g_iast hx hb hK hP hS (k := (q + 7)) (by omega) fa43 rfl (ho.2.2.2.2.1 hc26 hc30 hc31 hc35) d_Mo_note_257 (fun H locs w7 fa44 e7 hP hS => ?_)
              have fa45 := (e7 q (by omega)).trans fa25
              have fa46 := (e7 (q + 6) (by omega)).trans fa38
              have at47 := cd_IaAt_keep hL3 (fun k h1 h2 => e7 k (by omega))
              have at48 := cd_ByAt_keep hL4 (fun k h1 h2 => e7 k (by omega))
              refine lv_iconst (v := (0 : Int32)) hx hb d_Mo_note_258 (by decide) ?_
              refine lv_istore (lv' := [(7, .int (0 : Int32)), (6, .int (k0 + (4 : Int32))), (4, .long ((20 : Int64) + ((((f_Mo_fourAt S'.1 mp (k0 + (4 : Int32))).toInt64 + (3 : Int64)) / (4 : Int64)) * (4 : Int64)))), (3, .int (f_Mo_fourAt S'.1 mp (k0 + (4 : Int32)))), (0, .ref (ad q)), (1, .int k0), (2, .int k1)]) hx hb d_Mo_note_259 hl (by decide) rfl (fun ls hl => ?_)
              exact L261 9 ((20 : Int64) + ((((f_Mo_fourAt S'.1 mp (k0 + (4 : Int32))).toInt64 + (3 : Int64)) / (4 : Int64)) * (4 : Int64))) (0 : Int32) (S'.1, S'.2.1, (upd S'.2.2.1 ((6 : Int32) + (S'.2.1 (2 : Int32).toNatClampNeg)).toNatClampNeg (f_Mo_fourAt S'.1 mp (k0 + (20 : Int32)))), S'.2.2.2) w7 (fun k hk => ((e7 k (by omega)).trans (efr k (by omega)))) H locs ls (lv_sub hl [4, 5, 2, 0] rfl) (show (f_Mo_note S mp k0 k1) = f_Mo_note_L261 S mp k0 k1 9 ((20 : Int64) + ((((f_Mo_fourAt S'.1 mp (k0 + (4 : Int32))).toInt64 + (3 : Int64)) / (4 : Int64)) * (4 : Int64))) (0 : Int32) (S'.1, S'.2.1, (upd S'.2.2.1 ((6 : Int32) + (S'.2.1 (2 : Int32).toNatClampNeg)).toNatClampNeg (f_Mo_fourAt S'.1 mp (k0 + (20 : Int32)))), S'.2.2.2) by rw [he, f_Mo_note_L23, if_pos hc26, if_pos hc30, if_pos hc31, if_pos hc35]) (⟨hn24, fa45⟩) (⟨hn37, fa46⟩) (⟨hn42, fa44⟩) at47 at48 hP hS (ho.2.2.2.2.2.1 hc26 hc30 hc31 hc35)
          · refine lv_aload_n hx hb d_Mo_note_210 rfl (lv_at hl 3 rfl) ?_
            refine lv_bipush (v := (6 : Int32)) hx hb d_Mo_note_211 (by decide) ?_
            refine g_put (ci := 7) (C := R_Mo) (T := F_Mo) (Nf := 16) (v := .int (6 : Int32)) (ty := .int) hx hb hA in_Mo t_Mo t_Mo_ok n_Mo hown hK hP hS (k := q) (by omega) fa25 rfl 14 (by decide) (hA _ aw_574) (fun _ h9 => h9) rfl (by decide +kernel) rfl rfl (Nat.le_of_ble_eq_true rfl) d_Mo_note_213 (fun H locs w8 fa49 e8 hP hS => ?_)
            have fa49 : w8 q = .inr (7, [.int S'.1.1, .ref (ad (q + 1)), .ref (ad (q + 2)), .ref (ad (q + 3)), .ref (ad (q + 4)), .ref (ad (q + 5)), .ref (ad (q + 6)), .ref (ad (q + 7)), .ref (ad (q + 8)), .ref (ad (q + 9)), .int S'.1.2.1, .ref (ad (q + 10)), .int S'.1.2.2.1, .int S'.1.2.2.2.1, .int (6 : Int32), .int S'.1.2.2.2.2.2]) := fa49
            have at50 := cd_IaAt_keep hL1 (fun k h1 h2 => e8 k (by omega))
            have at51 := cd_IaAt_keep hL2 (fun k h1 h2 => e8 k (by omega))
            have at52 := cd_IaAt_keep hL3 (fun k h1 h2 => e8 k (by omega))
            have at53 := cd_ByAt_keep hL4 (fun k h1 h2 => e8 k (by omega))
            refine lv_aload_n hx hb d_Mo_note_216 rfl (lv_at hl 3 rfl) ?_
            refine lv_iload hx hb d_Mo_note_217 (lv_at hl 0 rfl) ?_
            refine g_put (ci := 7) (C := R_Mo) (T := F_Mo) (Nf := 16) (v := .int (k0 + (4 : Int32))) (ty := .int) hx hb hA in_Mo t_Mo t_Mo_ok n_Mo hown hK hP hS (k := q) (by omega) fa49 rfl 15 (by decide) (hA _ aw_575) (fun _ h9 => h9) rfl (by decide +kernel) rfl rfl (Nat.le_of_ble_eq_true rfl) d_Mo_note_219 (fun H locs w9 fa54 e9 hP hS => ?_)
            have fa54 : w9 q = .inr (7, [.int S'.1.1, .ref (ad (q + 1)), .ref (ad (q + 2)), .ref (ad (q + 3)), .ref (ad (q + 4)), .ref (ad (q + 5)), .ref (ad (q + 6)), .ref (ad (q + 7)), .ref (ad (q + 8)), .ref (ad (q + 9)), .int S'.1.2.1, .ref (ad (q + 10)), .int S'.1.2.2.1, .int S'.1.2.2.2.1, .int (6 : Int32), .int (k0 + (4 : Int32))]) := fa54
            have at55 := cd_IaAt_keep at50 (fun k h1 h2 => e9 k (by omega))
            have at56 := cd_IaAt_keep at51 (fun k h1 h2 => e9 k (by omega))
            have at57 := cd_IaAt_keep at52 (fun k h1 h2 => e9 k (by omega))
            have at58 := cd_ByAt_keep at53 (fun k h1 h2 => e9 k (by omega))
            refine lv_iconst (v := (-1 : Int32)) hx hb d_Mo_note_222 (by decide) ?_
            have hf59 : (f_Mo_note S mp k0 k1) = ((-1 : Int32), (S'.1.1, S'.1.2.1, S'.1.2.2.1, S'.1.2.2.2.1, (6 : Int32), (k0 + (4 : Int32))), S'.2.1, S'.2.2.1, S'.2.2.2) := by rw [he, f_Mo_note_L23, if_pos hc26, if_pos hc30, if_neg hc31]
            exact W.iret (v := (-1 : Int32)) hx hb hr (fun tE ht _ => ⟨⟨_, w9, rfl, ⟨(by rw [hf59]), (by rw [hf59]; exact ⟨hn24, fa54⟩), (by rw [hf59]; exact at55), (by rw [hf59]; exact at56), (by rw [hf59]; exact at57), (fun k hk => ((e9 k (by omega)).trans ((e8 k (by omega)).trans (efr k (by omega)))))⟩, cd_Pt ht hP⟩, hS.F ht⟩) hS.2.2 d_Mo_note_223
        · refine lv_iload_n hx hb d_Mo_note_121 rfl (lv_at hl 4 rfl) ?_
          refine lv_i2l hx hb d_Mo_note_122 rfl ?_
          refine lv_lload hx hb d_Mo_note_123 (lv_at hl 1 rfl) ?_
          refine lv_ladd hx hb d_Mo_note_125 ?_
          refine lv_iload_n hx hb d_Mo_note_126 rfl (lv_at hl 5 rfl) ?_
          refine lv_i2l hx hb d_Mo_note_127 rfl ?_
          refine g_lif_le (tgt := 140) hx hb d_Mo_note_128 d_Mo_note_129 (by decide) (fun hc60 => ?_) (fun hc60 => ?_)
          · refine lv_aload_n hx hb d_Mo_note_140 rfl (lv_at hl 3 rfl) ?_
            refine lv_iload_n hx hb d_Mo_note_141 rfl (lv_at hl 4 rfl) ?_
            refine lv_bipush (v := (8 : Int32)) hx hb d_Mo_note_142 (by decide) ?_
            refine lv_iadd hx hb d_Mo_note_144 ?_
            refine va_calli (va_runV (As := [.int (k0 + (8 : Int32))]) (rest := []) ⟨hx, hb, hml, hown, hA⟩ (c_Mo_fourAt l D tt ad N A zs w q S'.1 mp (k0 + (8 : Int32)) (⟨hn24, fa25⟩) hL4 (ho.2.2.2.2.2.2.1 hc26 hc30 hc60)) (cwV 1 hA (cd_gV aw_699 aw_700 aw_800 aw_8 aw_701) rfl rfl rfl ⟨rfl, by decide, by decide, by decide +kernel⟩ ⟨Nat.le_of_ble_eq_true rfl, Nat.le_of_ble_eq_true rfl⟩) ⟨cd_blind, cd_recv hK hP (k := q) (by omega) fa25 rfl, fun U hU hW => ⟨rfl, cd_pre hK hP hZ hS U hU hW⟩⟩ rfl rfl hl.1 rfl (lv_room (Nat.le_of_ble_eq_true rfl)) d_Mo_note_145 ⟨Nat.zero_le _, Nat.zero_le _⟩) hS (fun _ _ h => h) (fun _ h => h) (fun r61 w10 tE H locs ht hvm hr62 hP hz1 hk1 hS => ?_)
            have hP := cd_Pf ht hP
            obtain ⟨rfl, rfl⟩ := hr62
            refine lv_iconst (v := (1 : Int32)) hx hb d_Mo_note_148 (by decide) ?_
            refine lv_icmp_ne (tgt := 204) hx hb d_Mo_note_149 (by decide) (fun hc64 => ?_) (fun hc64 => ?_)
            · refine lv_iload hx hb d_Mo_note_204 (lv_at hl 0 rfl) ?_
              refine lv_iconst (v := (-1 : Int32)) hx hb d_Mo_note_206 (by decide) ?_
              refine lv_icmp_eq (tgt := 224) hx hb d_Mo_note_207 (by decide) (fun _ => ?_) (fun h9 => absurd (by decide) h9)
              refine lv_aload_n hx hb d_Mo_note_224 rfl (lv_at hl 3 rfl) ?_
              refine lv_iload_n hx hb d_Mo_note_225 rfl (lv_at hl 4 rfl) ?_
              refine lv_bipush (v := (8 : Int32)) hx hb d_Mo_note_226 (by decide) ?_
              refine lv_iadd hx hb d_Mo_note_228 ?_
              refine va_calli (va_runV (As := [.int (k0 + (8 : Int32))]) (rest := []) ⟨hx, hb, hml, hown, hA⟩ (c_Mo_fourAt l D tt ad N A zs w q S'.1 mp (k0 + (8 : Int32)) (⟨hn24, fa25⟩) hL4 (ho.2.2.2.2.2.2.2.1 hc26 hc30 hc60 hc64)) (cwV 1 hA (cd_gV aw_699 aw_700 aw_800 aw_8 aw_701) rfl rfl rfl ⟨rfl, by decide, by decide, by decide +kernel⟩ ⟨Nat.le_of_ble_eq_true rfl, Nat.le_of_ble_eq_true rfl⟩) ⟨cd_blind, cd_recv hK hP (k := q) (by omega) fa25 rfl, fun U hU hW => ⟨rfl, cd_pre hK hP hZ hS U hU hW⟩⟩ rfl rfl hl.1 rfl (lv_room (Nat.le_of_ble_eq_true rfl)) d_Mo_note_229 ⟨Nat.zero_le _, Nat.zero_le _⟩) hS (fun _ _ h => h) (fun _ h => h) (fun r66 w11 tE H locs ht hvm hr67 hP hz1 hk1 hS => ?_)
              have hP := cd_Pf ht hP
              obtain ⟨rfl, rfl⟩ := hr67
              refine lv_iconst (v := (1 : Int32)) hx hb d_Mo_note_232 (by decide) ?_
              refine lv_icmp_ne (tgt := 317) hx hb d_Mo_note_233 (by decide) (fun _ => ?_) (fun h9 => absurd h9 hc64)
              refine lv_lload hx hb d_Mo_note_317 (lv_at hl 1 rfl) ?_
              refine lv_l2i hx hb d_Mo_note_319 rfl ?_
              have hf70 : (f_Mo_note S mp k0 k1) = (((20 : Int64) + ((((f_Mo_fourAt S'.1 mp (k0 + (4 : Int32))).toInt64 + (3 : Int64)) / (4 : Int64)) * (4 : Int64))).toInt32, S'.1, S'.2.1, S'.2.2.1, S'.2.2.2) := by rw [he, f_Mo_note_L23, if_pos hc26, if_neg hc30, if_pos hc60, if_neg hc64]
              exact W.iret (v := ((20 : Int64) + ((((f_Mo_fourAt S'.1 mp (k0 + (4 : Int32))).toInt64 + (3 : Int64)) / (4 : Int64)) * (4 : Int64))).toInt32) hx hb hr (fun tE ht _ => ⟨⟨_, w, rfl, ⟨(by rw [hf70]), (by rw [hf70]; exact ⟨hn24, fa25⟩), (by rw [hf70]; exact hL1), (by rw [hf70]; exact hL2), (by rw [hf70]; exact hL3), (fun k hk => (efr k (by omega)))⟩, cd_Pt ht hP⟩, hS.F ht⟩) hS.2.2 d_Mo_note_320
            · refine lv_iload_n hx hb d_Mo_note_152 rfl (lv_at hl 2 rfl) ?_
              refine lv_bipush (v := (36 : Int32)) hx hb d_Mo_note_153 (by decide) ?_
              refine lv_icmp_eq (tgt := 164) hx hb d_Mo_note_155 (by decide) (fun hc71 => ?_) (fun hc71 => ?_)
              · refine lv_aload_n hx hb d_Mo_note_164 rfl (lv_at hl 3 rfl) ?_
                refine lv_iconst (v := (2 : Int32)) hx hb d_Mo_note_165 (by decide) ?_
                refine lv_aload_n hx hb d_Mo_note_166 rfl (lv_at hl 3 rfl) ?_
                refine lv_iload_n hx hb d_Mo_note_167 rfl (lv_at hl 4 rfl) ?_
                refine lv_bipush (v := (20 : Int32)) hx hb d_Mo_note_168 (by decide) ?_
                refine lv_iadd hx hb d_Mo_note_170 ?_
                refine va_calli (va_runV (As := [.int (k0 + (20 : Int32))]) (rest := [.int (2 : Int32), .ref (ad q)]) ⟨hx, hb, hml, hown, hA⟩ (c_Mo_fourAt l D tt ad N A zs w q S'.1 mp (k0 + (20 : Int32)) (⟨hn24, fa25⟩) hL4 (ho.2.2.2.2.2.2.2.2.1 hc26 hc30 hc60 hc64 hc71)) (cwV 1 hA (cd_gV aw_699 aw_700 aw_800 aw_8 aw_701) rfl rfl rfl ⟨rfl, by decide, by decide, by decide +kernel⟩ ⟨Nat.le_of_ble_eq_true rfl, Nat.le_of_ble_eq_true rfl⟩) ⟨cd_blind, cd_recv hK hP (k := q) (by omega) fa25 rfl, fun U hU hW => ⟨rfl, cd_pre hK hP hZ hS U hU hW⟩⟩ rfl rfl hl.1 rfl (lv_room (Nat.le_of_ble_eq_true rfl)) d_Mo_note_171 ⟨Nat.zero_le _, Nat.zero_le _⟩) hS (fun _ _ h => h) (fun _ h => h) (fun r72 w12 tE H locs ht hvm hr73 hP hz1 hk1 hS => ?_)
                have hP := cd_Pf ht hP
                obtain ⟨rfl, rfl⟩ := hr73
                refine va_calli (va_runV (As := [.int (2 : Int32), .int (f_Mo_fourAt S'.1 mp (k0 + (20 : Int32)))]) (rest := []) ⟨hx, hb, hml, hown, hA⟩ (c_Mo_hasId l D tt ad N A zs w q S'.1 S'.2.1 S'.2.2.1 (2 : Int32) (f_Mo_fourAt S'.1 mp (k0 + (20 : Int32))) (⟨hn24, fa25⟩) hL1 hL2 (ho.2.2.2.2.2.2.2.2.2.1 hc26 hc30 hc60 hc64 hc71)) (cwV 2 hA (cd_gV aw_623 aw_624 aw_786 aw_8 aw_625) rfl rfl rfl ⟨rfl, by decide, by decide, by decide +kernel⟩ ⟨Nat.le_of_ble_eq_true rfl, Nat.le_of_ble_eq_true rfl⟩) ⟨cd_blind, cd_recv hK hP (k := q) (by omega) fa25 rfl, fun U hU hW => ⟨rfl, cd_pre hK hP hZ hS U hU hW⟩⟩ rfl rfl hl.1 rfl (lv_room (Nat.le_of_ble_eq_true rfl)) d_Mo_note_174 ⟨Nat.zero_le _, Nat.zero_le _⟩) hS (fun _ _ h => h) (fun _ h => h) (fun r75 w13 tE H locs ht hvm hr76 hP hz1 hk1 hS => ?_)
                have hP := cd_Pf ht hP
                obtain ⟨rfl, hbo78, rfl⟩ := hr76
                refine lv_if_eq (tgt := 187) hx hb d_Mo_note_177 (by decide) (fun hc79 => ?_) (fun hc79 => ?_)
                · refine lv_aload_n hx hb d_Mo_note_187 rfl (lv_at hl 3 rfl) ?_
                  refine g_get (ci := 7) (C := R_Mo) (T := F_Mo) (Nf := 16) (v := .ref (ad (q + 6))) hx hb hA in_Mo hown hK hP (k := q) (by omega) fa25 rfl 6 (by decide) (hA _ aw_566) (fun _ h9 => h9) rfl d_Mo_note_188 ?_
                  refine lv_iconst (v := (2 : Int32)) hx hb d_Mo_note_191 (by decide) ?_
                  obtain ⟨hn80, fa81⟩ := hL1
                  refine g_iald hx hb hK hP (k := (q + 6)) (by omega) fa81 rfl (ho.2.2.2.2.2.2.2.2.2.2.1 hc26 hc30 hc60 hc64 hc71 hc79) d_Mo_note_192 ?_
                  refine lv_iconst (v := (3 : Int32)) hx hb d_Mo_note_193 (by decide) ?_
                  refine lv_icmp_ne (tgt := 201) hx hb d_Mo_note_194 (by decide) (fun hc82 => ?_) (fun hc82 => ?_)
                  · refine lv_iconst (v := (-1 : Int32)) hx hb d_Mo_note_201 (by decide) ?_
                    refine lv_istore (lv' := [(6, .int (-1 : Int32)), (4, .long ((20 : Int64) + ((((f_Mo_fourAt S'.1 mp (k0 + (4 : Int32))).toInt64 + (3 : Int64)) / (4 : Int64)) * (4 : Int64)))), (3, .int (f_Mo_fourAt S'.1 mp (k0 + (4 : Int32)))), (0, .ref (ad q)), (1, .int k0), (2, .int k1)]) hx hb d_Mo_note_202 hl (by decide) rfl (fun ls hl => ?_)
                    refine lv_iload hx hb d_Mo_note_204 (lv_at hl 0 rfl) ?_
                    refine lv_iconst (v := (-1 : Int32)) hx hb d_Mo_note_206 (by decide) ?_
                    refine lv_icmp_eq (tgt := 224) hx hb d_Mo_note_207 (by decide) (fun _ => ?_) (fun h9 => absurd (by decide) h9)
                    refine lv_aload_n hx hb d_Mo_note_224 rfl (lv_at hl 3 rfl) ?_
                    refine lv_iload_n hx hb d_Mo_note_225 rfl (lv_at hl 4 rfl) ?_
                    refine lv_bipush (v := (8 : Int32)) hx hb d_Mo_note_226 (by decide) ?_
                    refine lv_iadd hx hb d_Mo_note_228 ?_
                    refine va_calli (va_runV (As := [.int (k0 + (8 : Int32))]) (rest := []) ⟨hx, hb, hml, hown, hA⟩ (c_Mo_fourAt l D tt ad N A zs w q S'.1 mp (k0 + (8 : Int32)) (⟨hn24, fa25⟩) hL4 (ho.2.2.2.2.2.2.2.2.2.2.2.1 hc26 hc30 hc60 hc64 hc71 hc79 hc82)) (cwV 1 hA (cd_gV aw_699 aw_700 aw_800 aw_8 aw_701) rfl rfl rfl ⟨rfl, by decide, by decide, by decide +kernel⟩ ⟨Nat.le_of_ble_eq_true rfl, Nat.le_of_ble_eq_true rfl⟩) ⟨cd_blind, cd_recv hK hP (k := q) (by omega) fa25 rfl, fun U hU hW => ⟨rfl, cd_pre hK hP hZ hS U hU hW⟩⟩ rfl rfl hl.1 rfl (lv_room (Nat.le_of_ble_eq_true rfl)) d_Mo_note_229 ⟨Nat.zero_le _, Nat.zero_le _⟩) hS (fun _ _ h => h) (fun _ h => h) (fun r84 w14 tE H locs ht hvm hr85 hP hz1 hk1 hS => ?_)
                    have hP := cd_Pf ht hP
                    obtain ⟨rfl, rfl⟩ := hr85
                    refine lv_iconst (v := (1 : Int32)) hx hb d_Mo_note_232 (by decide) ?_
                    refine lv_icmp_ne (tgt := 317) hx hb d_Mo_note_233 (by decide) (fun h9 => absurd hc64 h9) (fun _ => ?_)
                    refine lv_aload_n hx hb d_Mo_note_236 rfl (lv_at hl 3 rfl) ?_
                    refine g_get (ci := 7) (C := R_Mo) (T := F_Mo) (Nf := 16) (v := .ref (ad (q + 7))) hx hb hA in_Mo hown hK hP (k := q) (by omega) fa25 rfl 7 (by decide) (hA _ aw_567) (fun _ h9 => h9) rfl d_Mo_note_237 ?_
                    refine lv_bipush (v := (6 : Int32)) hx hb d_Mo_note_240 (by decide) ?_
                    refine lv_aload_n hx hb d_Mo_note_242 rfl (lv_at hl 3 rfl) ?_
                    refine g_get (ci := 7) (C := R_Mo) (T := F_Mo) (Nf := 16) (v := .ref (ad (q + 6))) hx hb hA in_Mo hown hK hP (k := q) (by omega) fa25 rfl 6 (by decide) (hA _ aw_566) (fun _ h9 => h9) rfl d_Mo_note_243 ?_
                    refine lv_iconst (v := (2 : Int32)) hx hb d_Mo_note_246 (by decide) ?_
                    refine g_iald hx hb hK hP (k := (q + 6)) (by omega) fa81 rfl (ho.2.2.2.2.2.2.2.2.2.2.2.2.1 hc26 hc30 hc60 hc64 hc71 hc79 hc82) d_Mo_note_247 ?_
                    refine lv_iadd hx hb d_Mo_note_248 ?_
                    refine lv_aload_n hx hb d_Mo_note_249 rfl (lv_at hl 3 rfl) ?_
                    refine lv_iload_n hx hb d_Mo_note_250 rfl (lv_at hl 4 rfl) ?_
                    refine lv_bipush (v := (20 : Int32)) hx hb d_Mo_note_251 (by decide) ?_
                    refine lv_iadd hx hb d_Mo_note_253 ?_
                    refine va_calli (va_runV (As := [.int (k0 + (20 : Int32))]) (rest := [.int ((6 : Int32) + (S'.2.1 (2 : Int32).toNatClampNeg)), .ref (ad (q + 7))]) ⟨hx, hb, hml, hown, hA⟩ (c_Mo_fourAt l D tt ad N A zs w q S'.1 mp (k0 + (20 : Int32)) (⟨hn24, fa25⟩) hL4 (ho.2.2.2.2.2.2.2.2.2.2.2.2.2.1 hc26 hc30 hc60 hc64 hc71 hc79 hc82)) (cwV 1 hA (cd_gV aw_699 aw_700 aw_800 aw_8 aw_701) rfl rfl rfl ⟨rfl, by decide, by decide, by decide +kernel⟩ ⟨Nat.le_of_ble_eq_true rfl, Nat.le_of_ble_eq_true rfl⟩) ⟨cd_blind, cd_recv hK hP (k := q) (by omega) fa25 rfl, fun U hU hW => ⟨rfl, cd_pre hK hP hZ hS U hU hW⟩⟩ rfl rfl hl.1 rfl (lv_room (Nat.le_of_ble_eq_true rfl)) d_Mo_note_254 ⟨Nat.zero_le _, Nat.zero_le _⟩) hS (fun _ _ h => h) (fun _ h => h) (fun r88 w15 tE H locs ht hvm hr89 hP hz1 hk1 hS => ?_)
                    have hP := cd_Pf ht hP
                    obtain ⟨rfl, rfl⟩ := hr89
                    obtain ⟨hn91, fa92⟩ := hL2
                    refine g_iast hx hb hK hP hS (k := (q + 7)) (by omega) fa92 rfl (ho.2.2.2.2.2.2.2.2.2.2.2.2.2.2.1 hc26 hc30 hc60 hc64 hc71 hc79 hc82) d_Mo_note_257 (fun H locs w16 fa93 e16 hP hS => ?_)
                    have fa94 := (e16 q (by omega)).trans fa25
                    have fa95 := (e16 (q + 6) (by omega)).trans fa81
                    have at96 := cd_IaAt_keep hL3 (fun k h1 h2 => e16 k (by omega))
                    have at97 := cd_ByAt_keep hL4 (fun k h1 h2 => e16 k (by omega))
                    refine lv_iconst (v := (0 : Int32)) hx hb d_Mo_note_258 (by decide) ?_
                    refine lv_istore (lv' := [(7, .int (0 : Int32)), (6, .int (-1 : Int32)), (4, .long ((20 : Int64) + ((((f_Mo_fourAt S'.1 mp (k0 + (4 : Int32))).toInt64 + (3 : Int64)) / (4 : Int64)) * (4 : Int64)))), (3, .int (f_Mo_fourAt S'.1 mp (k0 + (4 : Int32)))), (0, .ref (ad q)), (1, .int k0), (2, .int k1)]) hx hb d_Mo_note_259 hl (by decide) rfl (fun ls hl => ?_)
                    exact L261 9 ((20 : Int64) + ((((f_Mo_fourAt S'.1 mp (k0 + (4 : Int32))).toInt64 + (3 : Int64)) / (4 : Int64)) * (4 : Int64))) (0 : Int32) (S'.1, S'.2.1, (upd S'.2.2.1 ((6 : Int32) + (S'.2.1 (2 : Int32).toNatClampNeg)).toNatClampNeg (f_Mo_fourAt S'.1 mp (k0 + (20 : Int32)))), S'.2.2.2) w16 (fun k hk => ((e16 k (by omega)).trans (efr k (by omega)))) H locs ls (lv_sub hl [4, 5, 2, 0] rfl) (show (f_Mo_note S mp k0 k1) = f_Mo_note_L261 S mp k0 k1 9 ((20 : Int64) + ((((f_Mo_fourAt S'.1 mp (k0 + (4 : Int32))).toInt64 + (3 : Int64)) / (4 : Int64)) * (4 : Int64))) (0 : Int32) (S'.1, S'.2.1, (upd S'.2.2.1 ((6 : Int32) + (S'.2.1 (2 : Int32).toNatClampNeg)).toNatClampNeg (f_Mo_fourAt S'.1 mp (k0 + (20 : Int32)))), S'.2.2.2) by rw [he, f_Mo_note_L23, if_pos hc26, if_neg hc30, if_pos hc60, if_pos hc64, if_pos hc71, if_pos hc79, if_neg hc82]) (⟨hn24, fa94⟩) (⟨hn80, fa95⟩) (⟨hn91, fa93⟩) at96 at97 hP hS (ho.2.2.2.2.2.2.2.2.2.2.2.2.2.2.2.1 hc26 hc30 hc60 hc64 hc71 hc79 hc82)
                  · refine lv_iload_n hx hb d_Mo_note_197 rfl (lv_at hl 4 rfl) ?_
                    refine lv_goto (tgt := 202) hx hb d_Mo_note_198 (by decide) ?_
                    refine lv_istore (lv' := [(6, .int k0), (4, .long ((20 : Int64) + ((((f_Mo_fourAt S'.1 mp (k0 + (4 : Int32))).toInt64 + (3 : Int64)) / (4 : Int64)) * (4 : Int64)))), (3, .int (f_Mo_fourAt S'.1 mp (k0 + (4 : Int32)))), (0, .ref (ad q)), (1, .int k0), (2, .int k1)]) hx hb d_Mo_note_202 hl (by decide) rfl (fun ls hl => ?_)
                    refine lv_iload hx hb d_Mo_note_204 (lv_at hl 0 rfl) ?_
                    refine lv_iconst (v := (-1 : Int32)) hx hb d_Mo_note_206 (by decide) ?_
                    refine lv_icmp_eq (tgt := 224) hx hb d_Mo_note_207 (by decide) (fun hc98 => ?_) (fun hc98 => ?_)
                    · refine lv_aload_n hx hb d_Mo_note_224 rfl (lv_at hl 3 rfl) ?_
                      refine lv_iload_n hx hb d_Mo_note_225 rfl (lv_at hl 4 rfl) ?_
                      refine lv_bipush (v := (8 : Int32)) hx hb d_Mo_note_226 (by decide) ?_
                      refine lv_iadd hx hb d_Mo_note_228 ?_
                      refine va_calli (va_runV (As := [.int (k0 + (8 : Int32))]) (rest := []) ⟨hx, hb, hml, hown, hA⟩ (c_Mo_fourAt l D tt ad N A zs w q S'.1 mp (k0 + (8 : Int32)) (⟨hn24, fa25⟩) hL4 (ho.2.2.2.2.2.2.2.2.2.2.2.2.2.2.2.2.1 hc26 hc30 hc60 hc64 hc71 hc79 hc82 hc98)) (cwV 1 hA (cd_gV aw_699 aw_700 aw_800 aw_8 aw_701) rfl rfl rfl ⟨rfl, by decide, by decide, by decide +kernel⟩ ⟨Nat.le_of_ble_eq_true rfl, Nat.le_of_ble_eq_true rfl⟩) ⟨cd_blind, cd_recv hK hP (k := q) (by omega) fa25 rfl, fun U hU hW => ⟨rfl, cd_pre hK hP hZ hS U hU hW⟩⟩ rfl rfl hl.1 rfl (lv_room (Nat.le_of_ble_eq_true rfl)) d_Mo_note_229 ⟨Nat.zero_le _, Nat.zero_le _⟩) hS (fun _ _ h => h) (fun _ h => h) (fun r99 w17 tE H locs ht hvm hr100 hP hz1 hk1 hS => ?_)
                      have hP := cd_Pf ht hP
                      obtain ⟨rfl, rfl⟩ := hr100
                      refine lv_iconst (v := (1 : Int32)) hx hb d_Mo_note_232 (by decide) ?_
                      refine lv_icmp_ne (tgt := 317) hx hb d_Mo_note_233 (by decide) (fun h9 => absurd hc64 h9) (fun _ => ?_)
                      refine lv_aload_n hx hb d_Mo_note_236 rfl (lv_at hl 3 rfl) ?_
                      refine g_get (ci := 7) (C := R_Mo) (T := F_Mo) (Nf := 16) (v := .ref (ad (q + 7))) hx hb hA in_Mo hown hK hP (k := q) (by omega) fa25 rfl 7 (by decide) (hA _ aw_567) (fun _ h9 => h9) rfl d_Mo_note_237 ?_
                      refine lv_bipush (v := (6 : Int32)) hx hb d_Mo_note_240 (by decide) ?_
                      refine lv_aload_n hx hb d_Mo_note_242 rfl (lv_at hl 3 rfl) ?_
                      refine g_get (ci := 7) (C := R_Mo) (T := F_Mo) (Nf := 16) (v := .ref (ad (q + 6))) hx hb hA in_Mo hown hK hP (k := q) (by omega) fa25 rfl 6 (by decide) (hA _ aw_566) (fun _ h9 => h9) rfl d_Mo_note_243 ?_
                      refine lv_iconst (v := (2 : Int32)) hx hb d_Mo_note_246 (by decide) ?_
                      refine g_iald hx hb hK hP (k := (q + 6)) (by omega) fa81 rfl (ho.2.2.2.2.2.2.2.2.2.2.2.2.2.2.2.2.2.1 hc26 hc30 hc60 hc64 hc71 hc79 hc82 hc98) d_Mo_note_247 ?_
                      refine lv_iadd hx hb d_Mo_note_248 ?_
                      refine lv_aload_n hx hb d_Mo_note_249 rfl (lv_at hl 3 rfl) ?_
                      refine lv_iload_n hx hb d_Mo_note_250 rfl (lv_at hl 4 rfl) ?_
                      refine lv_bipush (v := (20 : Int32)) hx hb d_Mo_note_251 (by decide) ?_
                      refine lv_iadd hx hb d_Mo_note_253 ?_
                      refine va_calli (va_runV (As := [.int (k0 + (20 : Int32))]) (rest := [.int ((6 : Int32) + (S'.2.1 (2 : Int32).toNatClampNeg)), .ref (ad (q + 7))]) ⟨hx, hb, hml, hown, hA⟩ (c_Mo_fourAt l D tt ad N A zs w q S'.1 mp (k0 + (20 : Int32)) (⟨hn24, fa25⟩) hL4 (ho.2.2.2.2.2.2.2.2.2.2.2.2.2.2.2.2.2.2.1 hc26 hc30 hc60 hc64 hc71 hc79 hc82 hc98)) (cwV 1 hA (cd_gV aw_699 aw_700 aw_800 aw_8 aw_701) rfl rfl rfl ⟨rfl, by decide, by decide, by decide +kernel⟩ ⟨Nat.le_of_ble_eq_true rfl, Nat.le_of_ble_eq_true rfl⟩) ⟨cd_blind, cd_recv hK hP (k := q) (by omega) fa25 rfl, fun U hU hW => ⟨rfl, cd_pre hK hP hZ hS U hU hW⟩⟩ rfl rfl hl.1 rfl (lv_room (Nat.le_of_ble_eq_true rfl)) d_Mo_note_254 ⟨Nat.zero_le _, Nat.zero_le _⟩) hS (fun _ _ h => h) (fun _ h => h) (fun r103 w18 tE H locs ht hvm hr104 hP hz1 hk1 hS => ?_)
                      have hP := cd_Pf ht hP
                      obtain ⟨rfl, rfl⟩ := hr104
                      obtain ⟨hn106, fa107⟩ := hL2
                      refine g_iast hx hb hK hP hS (k := (q + 7)) (by omega) fa107 rfl (ho.2.2.2.2.2.2.2.2.2.2.2.2.2.2.2.2.2.2.2.1 hc26 hc30 hc60 hc64 hc71 hc79 hc82 hc98) d_Mo_note_257 (fun H locs w19 fa108 e19 hP hS => ?_)
                      have fa109 := (e19 q (by omega)).trans fa25
                      have fa110 := (e19 (q + 6) (by omega)).trans fa81
                      have at111 := cd_IaAt_keep hL3 (fun k h1 h2 => e19 k (by omega))
                      have at112 := cd_ByAt_keep hL4 (fun k h1 h2 => e19 k (by omega))
                      refine lv_iconst (v := (0 : Int32)) hx hb d_Mo_note_258 (by decide) ?_
                      refine lv_istore (lv' := [(7, .int (0 : Int32)), (6, .int k0), (4, .long ((20 : Int64) + ((((f_Mo_fourAt S'.1 mp (k0 + (4 : Int32))).toInt64 + (3 : Int64)) / (4 : Int64)) * (4 : Int64)))), (3, .int (f_Mo_fourAt S'.1 mp (k0 + (4 : Int32)))), (0, .ref (ad q)), (1, .int k0), (2, .int k1)]) hx hb d_Mo_note_259 hl (by decide) rfl (fun ls hl => ?_)
                      exact L261 9 ((20 : Int64) + ((((f_Mo_fourAt S'.1 mp (k0 + (4 : Int32))).toInt64 + (3 : Int64)) / (4 : Int64)) * (4 : Int64))) (0 : Int32) (S'.1, S'.2.1, (upd S'.2.2.1 ((6 : Int32) + (S'.2.1 (2 : Int32).toNatClampNeg)).toNatClampNeg (f_Mo_fourAt S'.1 mp (k0 + (20 : Int32)))), S'.2.2.2) w19 (fun k hk => ((e19 k (by omega)).trans (efr k (by omega)))) H locs ls (lv_sub hl [4, 5, 2, 0] rfl) (show (f_Mo_note S mp k0 k1) = f_Mo_note_L261 S mp k0 k1 9 ((20 : Int64) + ((((f_Mo_fourAt S'.1 mp (k0 + (4 : Int32))).toInt64 + (3 : Int64)) / (4 : Int64)) * (4 : Int64))) (0 : Int32) (S'.1, S'.2.1, (upd S'.2.2.1 ((6 : Int32) + (S'.2.1 (2 : Int32).toNatClampNeg)).toNatClampNeg (f_Mo_fourAt S'.1 mp (k0 + (20 : Int32)))), S'.2.2.2) by rw [he, f_Mo_note_L23, if_pos hc26, if_neg hc30, if_pos hc60, if_pos hc64, if_pos hc71, if_pos hc79, if_pos hc82, if_pos hc98]) (⟨hn24, fa109⟩) (⟨hn80, fa110⟩) (⟨hn106, fa108⟩) at111 at112 hP hS (ho.2.2.2.2.2.2.2.2.2.2.2.2.2.2.2.2.2.2.2.2.1 hc26 hc30 hc60 hc64 hc71 hc79 hc82 hc98)
                    · refine lv_aload_n hx hb d_Mo_note_210 rfl (lv_at hl 3 rfl) ?_
                      refine lv_bipush (v := (6 : Int32)) hx hb d_Mo_note_211 (by decide) ?_
                      refine g_put (ci := 7) (C := R_Mo) (T := F_Mo) (Nf := 16) (v := .int (6 : Int32)) (ty := .int) hx hb hA in_Mo t_Mo t_Mo_ok n_Mo hown hK hP hS (k := q) (by omega) fa25 rfl 14 (by decide) (hA _ aw_574) (fun _ h9 => h9) rfl (by decide +kernel) rfl rfl (Nat.le_of_ble_eq_true rfl) d_Mo_note_213 (fun H locs w20 fa113 e20 hP hS => ?_)
                      have fa113 : w20 q = .inr (7, [.int S'.1.1, .ref (ad (q + 1)), .ref (ad (q + 2)), .ref (ad (q + 3)), .ref (ad (q + 4)), .ref (ad (q + 5)), .ref (ad (q + 6)), .ref (ad (q + 7)), .ref (ad (q + 8)), .ref (ad (q + 9)), .int S'.1.2.1, .ref (ad (q + 10)), .int S'.1.2.2.1, .int S'.1.2.2.2.1, .int (6 : Int32), .int S'.1.2.2.2.2.2]) := fa113
                      have fa114 := (e20 (q + 6) (by omega)).trans fa81
                      have at115 := cd_IaAt_keep hL2 (fun k h1 h2 => e20 k (by omega))
                      have at116 := cd_IaAt_keep hL3 (fun k h1 h2 => e20 k (by omega))
                      have at117 := cd_ByAt_keep hL4 (fun k h1 h2 => e20 k (by omega))
                      refine lv_aload_n hx hb d_Mo_note_216 rfl (lv_at hl 3 rfl) ?_
                      refine lv_iload hx hb d_Mo_note_217 (lv_at hl 0 rfl) ?_
                      refine g_put (ci := 7) (C := R_Mo) (T := F_Mo) (Nf := 16) (v := .int k0) (ty := .int) hx hb hA in_Mo t_Mo t_Mo_ok n_Mo hown hK hP hS (k := q) (by omega) fa113 rfl 15 (by decide) (hA _ aw_575) (fun _ h9 => h9) rfl (by decide +kernel) rfl rfl (Nat.le_of_ble_eq_true rfl) d_Mo_note_219 (fun H locs w21 fa118 e21 hP hS => ?_)
                      have fa118 : w21 q = .inr (7, [.int S'.1.1, .ref (ad (q + 1)), .ref (ad (q + 2)), .ref (ad (q + 3)), .ref (ad (q + 4)), .ref (ad (q + 5)), .ref (ad (q + 6)), .ref (ad (q + 7)), .ref (ad (q + 8)), .ref (ad (q + 9)), .int S'.1.2.1, .ref (ad (q + 10)), .int S'.1.2.2.1, .int S'.1.2.2.2.1, .int (6 : Int32), .int k0]) := fa118
                      have fa119 := (e21 (q + 6) (by omega)).trans fa114
                      have at120 := cd_IaAt_keep at115 (fun k h1 h2 => e21 k (by omega))
                      have at121 := cd_IaAt_keep at116 (fun k h1 h2 => e21 k (by omega))
                      have at122 := cd_ByAt_keep at117 (fun k h1 h2 => e21 k (by omega))
                      refine lv_iconst (v := (-1 : Int32)) hx hb d_Mo_note_222 (by decide) ?_
                      have hf123 : (f_Mo_note S mp k0 k1) = ((-1 : Int32), (S'.1.1, S'.1.2.1, S'.1.2.2.1, S'.1.2.2.2.1, (6 : Int32), k0), S'.2.1, S'.2.2.1, S'.2.2.2) := by rw [he, f_Mo_note_L23, if_pos hc26, if_neg hc30, if_pos hc60, if_pos hc64, if_pos hc71, if_pos hc79, if_pos hc82, if_neg hc98]
                      exact W.iret (v := (-1 : Int32)) hx hb hr (fun tE ht _ => ⟨⟨_, w21, rfl, ⟨(by rw [hf123]), (by rw [hf123]; exact ⟨hn24, fa118⟩), (by rw [hf123]; exact ⟨hn80, fa119⟩), (by rw [hf123]; exact at120), (by rw [hf123]; exact at121), (fun k hk => ((e21 k (by omega)).trans ((e20 k (by omega)).trans (efr k (by omega)))))⟩, cd_Pt ht hP⟩, hS.F ht⟩) hS.2.2 d_Mo_note_223
                · refine lv_iload_n hx hb d_Mo_note_180 rfl (lv_at hl 4 rfl) ?_
                  refine lv_bipush (v := (20 : Int32)) hx hb d_Mo_note_181 (by decide) ?_
                  refine lv_iadd hx hb d_Mo_note_183 ?_
                  refine lv_goto (tgt := 202) hx hb d_Mo_note_184 (by decide) ?_
                  refine lv_istore (lv' := [(6, .int (k0 + (20 : Int32))), (4, .long ((20 : Int64) + ((((f_Mo_fourAt S'.1 mp (k0 + (4 : Int32))).toInt64 + (3 : Int64)) / (4 : Int64)) * (4 : Int64)))), (3, .int (f_Mo_fourAt S'.1 mp (k0 + (4 : Int32)))), (0, .ref (ad q)), (1, .int k0), (2, .int k1)]) hx hb d_Mo_note_202 hl (by decide) rfl (fun ls hl => ?_)
                  refine lv_iload hx hb d_Mo_note_204 (lv_at hl 0 rfl) ?_
                  refine lv_iconst (v := (-1 : Int32)) hx hb d_Mo_note_206 (by decide) ?_
                  refine lv_icmp_eq (tgt := 224) hx hb d_Mo_note_207 (by decide) (fun hc124 => ?_) (fun hc124 => ?_)
                  · refine lv_aload_n hx hb d_Mo_note_224 rfl (lv_at hl 3 rfl) ?_
                    refine lv_iload_n hx hb d_Mo_note_225 rfl (lv_at hl 4 rfl) ?_
                    refine lv_bipush (v := (8 : Int32)) hx hb d_Mo_note_226 (by decide) ?_
                    refine lv_iadd hx hb d_Mo_note_228 ?_
                    refine va_calli (va_runV (As := [.int (k0 + (8 : Int32))]) (rest := []) ⟨hx, hb, hml, hown, hA⟩ (c_Mo_fourAt l D tt ad N A zs w q S'.1 mp (k0 + (8 : Int32)) (⟨hn24, fa25⟩) hL4 (ho.2.2.2.2.2.2.2.2.2.2.2.2.2.2.2.2.2.2.2.2.2.1 hc26 hc30 hc60 hc64 hc71 hc79 hc124)) (cwV 1 hA (cd_gV aw_699 aw_700 aw_800 aw_8 aw_701) rfl rfl rfl ⟨rfl, by decide, by decide, by decide +kernel⟩ ⟨Nat.le_of_ble_eq_true rfl, Nat.le_of_ble_eq_true rfl⟩) ⟨cd_blind, cd_recv hK hP (k := q) (by omega) fa25 rfl, fun U hU hW => ⟨rfl, cd_pre hK hP hZ hS U hU hW⟩⟩ rfl rfl hl.1 rfl (lv_room (Nat.le_of_ble_eq_true rfl)) d_Mo_note_229 ⟨Nat.zero_le _, Nat.zero_le _⟩) hS (fun _ _ h => h) (fun _ h => h) (fun r125 w22 tE H locs ht hvm hr126 hP hz1 hk1 hS => ?_)
                    have hP := cd_Pf ht hP
                    obtain ⟨rfl, rfl⟩ := hr126
                    refine lv_iconst (v := (1 : Int32)) hx hb d_Mo_note_232 (by decide) ?_
                    refine lv_icmp_ne (tgt := 317) hx hb d_Mo_note_233 (by decide) (fun h9 => absurd hc64 h9) (fun _ => ?_)
                    refine lv_aload_n hx hb d_Mo_note_236 rfl (lv_at hl 3 rfl) ?_
                    refine g_get (ci := 7) (C := R_Mo) (T := F_Mo) (Nf := 16) (v := .ref (ad (q + 7))) hx hb hA in_Mo hown hK hP (k := q) (by omega) fa25 rfl 7 (by decide) (hA _ aw_567) (fun _ h9 => h9) rfl d_Mo_note_237 ?_
                    refine lv_bipush (v := (6 : Int32)) hx hb d_Mo_note_240 (by decide) ?_
                    refine lv_aload_n hx hb d_Mo_note_242 rfl (lv_at hl 3 rfl) ?_
                    refine g_get (ci := 7) (C := R_Mo) (T := F_Mo) (Nf := 16) (v := .ref (ad (q + 6))) hx hb hA in_Mo hown hK hP (k := q) (by omega) fa25 rfl 6 (by decide) (hA _ aw_566) (fun _ h9 => h9) rfl d_Mo_note_243 ?_
                    refine lv_iconst (v := (2 : Int32)) hx hb d_Mo_note_246 (by decide) ?_
                    obtain ⟨hn129, fa130⟩ := hL1
                    refine g_iald hx hb hK hP (k := (q + 6)) (by omega) fa130 rfl (ho.2.2.2.2.2.2.2.2.2.2.2.2.2.2.2.2.2.2.2.2.2.2.1 hc26 hc30 hc60 hc64 hc71 hc79 hc124) d_Mo_note_247 ?_
                    refine lv_iadd hx hb d_Mo_note_248 ?_
                    refine lv_aload_n hx hb d_Mo_note_249 rfl (lv_at hl 3 rfl) ?_
                    refine lv_iload_n hx hb d_Mo_note_250 rfl (lv_at hl 4 rfl) ?_
                    refine lv_bipush (v := (20 : Int32)) hx hb d_Mo_note_251 (by decide) ?_
                    refine lv_iadd hx hb d_Mo_note_253 ?_
                    refine va_calli (va_runV (As := [.int (k0 + (20 : Int32))]) (rest := [.int ((6 : Int32) + (S'.2.1 (2 : Int32).toNatClampNeg)), .ref (ad (q + 7))]) ⟨hx, hb, hml, hown, hA⟩ (c_Mo_fourAt l D tt ad N A zs w q S'.1 mp (k0 + (20 : Int32)) (⟨hn24, fa25⟩) hL4 (ho.2.2.2.2.2.2.2.2.2.2.2.2.2.2.2.2.2.2.2.2.2.2.2.1 hc26 hc30 hc60 hc64 hc71 hc79 hc124)) (cwV 1 hA (cd_gV aw_699 aw_700 aw_800 aw_8 aw_701) rfl rfl rfl ⟨rfl, by decide, by decide, by decide +kernel⟩ ⟨Nat.le_of_ble_eq_true rfl, Nat.le_of_ble_eq_true rfl⟩) ⟨cd_blind, cd_recv hK hP (k := q) (by omega) fa25 rfl, fun U hU hW => ⟨rfl, cd_pre hK hP hZ hS U hU hW⟩⟩ rfl rfl hl.1 rfl (lv_room (Nat.le_of_ble_eq_true rfl)) d_Mo_note_254 ⟨Nat.zero_le _, Nat.zero_le _⟩) hS (fun _ _ h => h) (fun _ h => h) (fun r131 w23 tE H locs ht hvm hr132 hP hz1 hk1 hS => ?_)
                    have hP := cd_Pf ht hP
                    obtain ⟨rfl, rfl⟩ := hr132
                    obtain ⟨hn134, fa135⟩ := hL2
                    refine g_iast hx hb hK hP hS (k := (q + 7)) (by omega) fa135 rfl (ho.2.2.2.2.2.2.2.2.2.2.2.2.2.2.2.2.2.2.2.2.2.2.2.2.1 hc26 hc30 hc60 hc64 hc71 hc79 hc124) d_Mo_note_257 (fun H locs w24 fa136 e24 hP hS => ?_)
                    have fa137 := (e24 q (by omega)).trans fa25
                    have fa138 := (e24 (q + 6) (by omega)).trans fa130
                    have at139 := cd_IaAt_keep hL3 (fun k h1 h2 => e24 k (by omega))
                    have at140 := cd_ByAt_keep hL4 (fun k h1 h2 => e24 k (by omega))
                    refine lv_iconst (v := (0 : Int32)) hx hb d_Mo_note_258 (by decide) ?_
                    refine lv_istore (lv' := [(7, .int (0 : Int32)), (6, .int (k0 + (20 : Int32))), (4, .long ((20 : Int64) + ((((f_Mo_fourAt S'.1 mp (k0 + (4 : Int32))).toInt64 + (3 : Int64)) / (4 : Int64)) * (4 : Int64)))), (3, .int (f_Mo_fourAt S'.1 mp (k0 + (4 : Int32)))), (0, .ref (ad q)), (1, .int k0), (2, .int k1)]) hx hb d_Mo_note_259 hl (by decide) rfl (fun ls hl => ?_)
                    exact L261 9 ((20 : Int64) + ((((f_Mo_fourAt S'.1 mp (k0 + (4 : Int32))).toInt64 + (3 : Int64)) / (4 : Int64)) * (4 : Int64))) (0 : Int32) (S'.1, S'.2.1, (upd S'.2.2.1 ((6 : Int32) + (S'.2.1 (2 : Int32).toNatClampNeg)).toNatClampNeg (f_Mo_fourAt S'.1 mp (k0 + (20 : Int32)))), S'.2.2.2) w24 (fun k hk => ((e24 k (by omega)).trans (efr k (by omega)))) H locs ls (lv_sub hl [4, 5, 2, 0] rfl) (show (f_Mo_note S mp k0 k1) = f_Mo_note_L261 S mp k0 k1 9 ((20 : Int64) + ((((f_Mo_fourAt S'.1 mp (k0 + (4 : Int32))).toInt64 + (3 : Int64)) / (4 : Int64)) * (4 : Int64))) (0 : Int32) (S'.1, S'.2.1, (upd S'.2.2.1 ((6 : Int32) + (S'.2.1 (2 : Int32).toNatClampNeg)).toNatClampNeg (f_Mo_fourAt S'.1 mp (k0 + (20 : Int32)))), S'.2.2.2) by rw [he, f_Mo_note_L23, if_pos hc26, if_neg hc30, if_pos hc60, if_pos hc64, if_pos hc71, if_neg hc79, if_pos hc124]) (⟨hn24, fa137⟩) (⟨hn129, fa138⟩) (⟨hn134, fa136⟩) at139 at140 hP hS (ho.2.2.2.2.2.2.2.2.2.2.2.2.2.2.2.2.2.2.2.2.2.2.2.2.2.1 hc26 hc30 hc60 hc64 hc71 hc79 hc124)
                  · refine lv_aload_n hx hb d_Mo_note_210 rfl (lv_at hl 3 rfl) ?_
                    refine lv_bipush (v := (6 : Int32)) hx hb d_Mo_note_211 (by decide) ?_
                    refine g_put (ci := 7) (C := R_Mo) (T := F_Mo) (Nf := 16) (v := .int (6 : Int32)) (ty := .int) hx hb hA in_Mo t_Mo t_Mo_ok n_Mo hown hK hP hS (k := q) (by omega) fa25 rfl 14 (by decide) (hA _ aw_574) (fun _ h9 => h9) rfl (by decide +kernel) rfl rfl (Nat.le_of_ble_eq_true rfl) d_Mo_note_213 (fun H locs w25 fa141 e25 hP hS => ?_)
                    have fa141 : w25 q = .inr (7, [.int S'.1.1, .ref (ad (q + 1)), .ref (ad (q + 2)), .ref (ad (q + 3)), .ref (ad (q + 4)), .ref (ad (q + 5)), .ref (ad (q + 6)), .ref (ad (q + 7)), .ref (ad (q + 8)), .ref (ad (q + 9)), .int S'.1.2.1, .ref (ad (q + 10)), .int S'.1.2.2.1, .int S'.1.2.2.2.1, .int (6 : Int32), .int S'.1.2.2.2.2.2]) := fa141
                    have at142 := cd_IaAt_keep hL1 (fun k h1 h2 => e25 k (by omega))
                    have at143 := cd_IaAt_keep hL2 (fun k h1 h2 => e25 k (by omega))
                    have at144 := cd_IaAt_keep hL3 (fun k h1 h2 => e25 k (by omega))
                    have at145 := cd_ByAt_keep hL4 (fun k h1 h2 => e25 k (by omega))
                    refine lv_aload_n hx hb d_Mo_note_216 rfl (lv_at hl 3 rfl) ?_
                    refine lv_iload hx hb d_Mo_note_217 (lv_at hl 0 rfl) ?_
                    refine g_put (ci := 7) (C := R_Mo) (T := F_Mo) (Nf := 16) (v := .int (k0 + (20 : Int32))) (ty := .int) hx hb hA in_Mo t_Mo t_Mo_ok n_Mo hown hK hP hS (k := q) (by omega) fa141 rfl 15 (by decide) (hA _ aw_575) (fun _ h9 => h9) rfl (by decide +kernel) rfl rfl (Nat.le_of_ble_eq_true rfl) d_Mo_note_219 (fun H locs w26 fa146 e26 hP hS => ?_)
                    have fa146 : w26 q = .inr (7, [.int S'.1.1, .ref (ad (q + 1)), .ref (ad (q + 2)), .ref (ad (q + 3)), .ref (ad (q + 4)), .ref (ad (q + 5)), .ref (ad (q + 6)), .ref (ad (q + 7)), .ref (ad (q + 8)), .ref (ad (q + 9)), .int S'.1.2.1, .ref (ad (q + 10)), .int S'.1.2.2.1, .int S'.1.2.2.2.1, .int (6 : Int32), .int (k0 + (20 : Int32))]) := fa146
                    have at147 := cd_IaAt_keep at142 (fun k h1 h2 => e26 k (by omega))
                    have at148 := cd_IaAt_keep at143 (fun k h1 h2 => e26 k (by omega))
                    have at149 := cd_IaAt_keep at144 (fun k h1 h2 => e26 k (by omega))
                    have at150 := cd_ByAt_keep at145 (fun k h1 h2 => e26 k (by omega))
                    refine lv_iconst (v := (-1 : Int32)) hx hb d_Mo_note_222 (by decide) ?_
                    have hf151 : (f_Mo_note S mp k0 k1) = ((-1 : Int32), (S'.1.1, S'.1.2.1, S'.1.2.2.1, S'.1.2.2.2.1, (6 : Int32), (k0 + (20 : Int32))), S'.2.1, S'.2.2.1, S'.2.2.2) := by rw [he, f_Mo_note_L23, if_pos hc26, if_neg hc30, if_pos hc60, if_pos hc64, if_pos hc71, if_neg hc79, if_neg hc124]
                    exact W.iret (v := (-1 : Int32)) hx hb hr (fun tE ht _ => ⟨⟨_, w26, rfl, ⟨(by rw [hf151]), (by rw [hf151]; exact ⟨hn24, fa146⟩), (by rw [hf151]; exact at147), (by rw [hf151]; exact at148), (by rw [hf151]; exact at149), (fun k hk => ((e26 k (by omega)).trans ((e25 k (by omega)).trans (efr k (by omega)))))⟩, cd_Pt ht hP⟩, hS.F ht⟩) hS.2.2 d_Mo_note_223
              · refine lv_iload_n hx hb d_Mo_note_158 rfl (lv_at hl 4 rfl) ?_
                refine lv_iconst (v := (4 : Int32)) hx hb d_Mo_note_159 (by decide) ?_
                refine lv_iadd hx hb d_Mo_note_160 ?_
                refine lv_goto (tgt := 202) hx hb d_Mo_note_161 (by decide) ?_
                refine lv_istore (lv' := [(6, .int (k0 + (4 : Int32))), (4, .long ((20 : Int64) + ((((f_Mo_fourAt S'.1 mp (k0 + (4 : Int32))).toInt64 + (3 : Int64)) / (4 : Int64)) * (4 : Int64)))), (3, .int (f_Mo_fourAt S'.1 mp (k0 + (4 : Int32)))), (0, .ref (ad q)), (1, .int k0), (2, .int k1)]) hx hb d_Mo_note_202 hl (by decide) rfl (fun ls hl => ?_)
                refine lv_iload hx hb d_Mo_note_204 (lv_at hl 0 rfl) ?_
                refine lv_iconst (v := (-1 : Int32)) hx hb d_Mo_note_206 (by decide) ?_
                refine lv_icmp_eq (tgt := 224) hx hb d_Mo_note_207 (by decide) (fun hc152 => ?_) (fun hc152 => ?_)
                · refine lv_aload_n hx hb d_Mo_note_224 rfl (lv_at hl 3 rfl) ?_
                  refine lv_iload_n hx hb d_Mo_note_225 rfl (lv_at hl 4 rfl) ?_
                  refine lv_bipush (v := (8 : Int32)) hx hb d_Mo_note_226 (by decide) ?_
                  refine lv_iadd hx hb d_Mo_note_228 ?_
                  refine va_calli (va_runV (As := [.int (k0 + (8 : Int32))]) (rest := []) ⟨hx, hb, hml, hown, hA⟩ (c_Mo_fourAt l D tt ad N A zs w q S'.1 mp (k0 + (8 : Int32)) (⟨hn24, fa25⟩) hL4 (ho.2.2.2.2.2.2.2.2.2.2.2.2.2.2.2.2.2.2.2.2.2.2.2.2.2.2.1 hc26 hc30 hc60 hc64 hc71 hc152)) (cwV 1 hA (cd_gV aw_699 aw_700 aw_800 aw_8 aw_701) rfl rfl rfl ⟨rfl, by decide, by decide, by decide +kernel⟩ ⟨Nat.le_of_ble_eq_true rfl, Nat.le_of_ble_eq_true rfl⟩) ⟨cd_blind, cd_recv hK hP (k := q) (by omega) fa25 rfl, fun U hU hW => ⟨rfl, cd_pre hK hP hZ hS U hU hW⟩⟩ rfl rfl hl.1 rfl (lv_room (Nat.le_of_ble_eq_true rfl)) d_Mo_note_229 ⟨Nat.zero_le _, Nat.zero_le _⟩) hS (fun _ _ h => h) (fun _ h => h) (fun r153 w27 tE H locs ht hvm hr154 hP hz1 hk1 hS => ?_)
                  have hP := cd_Pf ht hP
                  obtain ⟨rfl, rfl⟩ := hr154
                  refine lv_iconst (v := (1 : Int32)) hx hb d_Mo_note_232 (by decide) ?_
                  refine lv_icmp_ne (tgt := 317) hx hb d_Mo_note_233 (by decide) (fun h9 => absurd hc64 h9) (fun _ => ?_)
                  refine lv_aload_n hx hb d_Mo_note_236 rfl (lv_at hl 3 rfl) ?_
                  refine g_get (ci := 7) (C := R_Mo) (T := F_Mo) (Nf := 16) (v := .ref (ad (q + 7))) hx hb hA in_Mo hown hK hP (k := q) (by omega) fa25 rfl 7 (by decide) (hA _ aw_567) (fun _ h9 => h9) rfl d_Mo_note_237 ?_
                  refine lv_bipush (v := (6 : Int32)) hx hb d_Mo_note_240 (by decide) ?_
                  refine lv_aload_n hx hb d_Mo_note_242 rfl (lv_at hl 3 rfl) ?_
                  refine g_get (ci := 7) (C := R_Mo) (T := F_Mo) (Nf := 16) (v := .ref (ad (q + 6))) hx hb hA in_Mo hown hK hP (k := q) (by omega) fa25 rfl 6 (by decide) (hA _ aw_566) (fun _ h9 => h9) rfl d_Mo_note_243 ?_
                  refine lv_iconst (v := (2 : Int32)) hx hb d_Mo_note_246 (by decide) ?_
                  obtain ⟨hn157, fa158⟩ := hL1
                  refine g_iald hx hb hK hP (k := (q + 6)) (by omega) fa158 rfl (ho.2.2.2.2.2.2.2.2.2.2.2.2.2.2.2.2.2.2.2.2.2.2.2.2.2.2.2.1 hc26 hc30 hc60 hc64 hc71 hc152) d_Mo_note_247 ?_
                  refine lv_iadd hx hb d_Mo_note_248 ?_
                  refine lv_aload_n hx hb d_Mo_note_249 rfl (lv_at hl 3 rfl) ?_
                  refine lv_iload_n hx hb d_Mo_note_250 rfl (lv_at hl 4 rfl) ?_
                  refine lv_bipush (v := (20 : Int32)) hx hb d_Mo_note_251 (by decide) ?_
                  refine lv_iadd hx hb d_Mo_note_253 ?_
                  refine va_calli (va_runV (As := [.int (k0 + (20 : Int32))]) (rest := [.int ((6 : Int32) + (S'.2.1 (2 : Int32).toNatClampNeg)), .ref (ad (q + 7))]) ⟨hx, hb, hml, hown, hA⟩ (c_Mo_fourAt l D tt ad N A zs w q S'.1 mp (k0 + (20 : Int32)) (⟨hn24, fa25⟩) hL4 (ho.2.2.2.2.2.2.2.2.2.2.2.2.2.2.2.2.2.2.2.2.2.2.2.2.2.2.2.2.1 hc26 hc30 hc60 hc64 hc71 hc152)) (cwV 1 hA (cd_gV aw_699 aw_700 aw_800 aw_8 aw_701) rfl rfl rfl ⟨rfl, by decide, by decide, by decide +kernel⟩ ⟨Nat.le_of_ble_eq_true rfl, Nat.le_of_ble_eq_true rfl⟩) ⟨cd_blind, cd_recv hK hP (k := q) (by omega) fa25 rfl, fun U hU hW => ⟨rfl, cd_pre hK hP hZ hS U hU hW⟩⟩ rfl rfl hl.1 rfl (lv_room (Nat.le_of_ble_eq_true rfl)) d_Mo_note_254 ⟨Nat.zero_le _, Nat.zero_le _⟩) hS (fun _ _ h => h) (fun _ h => h) (fun r159 w28 tE H locs ht hvm hr160 hP hz1 hk1 hS => ?_)
                  have hP := cd_Pf ht hP
                  obtain ⟨rfl, rfl⟩ := hr160
                  obtain ⟨hn162, fa163⟩ := hL2
                  refine g_iast hx hb hK hP hS (k := (q + 7)) (by omega) fa163 rfl (ho.2.2.2.2.2.2.2.2.2.2.2.2.2.2.2.2.2.2.2.2.2.2.2.2.2.2.2.2.2.1 hc26 hc30 hc60 hc64 hc71 hc152) d_Mo_note_257 (fun H locs w29 fa164 e29 hP hS => ?_)
                  have fa165 := (e29 q (by omega)).trans fa25
                  have fa166 := (e29 (q + 6) (by omega)).trans fa158
                  have at167 := cd_IaAt_keep hL3 (fun k h1 h2 => e29 k (by omega))
                  have at168 := cd_ByAt_keep hL4 (fun k h1 h2 => e29 k (by omega))
                  refine lv_iconst (v := (0 : Int32)) hx hb d_Mo_note_258 (by decide) ?_
                  refine lv_istore (lv' := [(7, .int (0 : Int32)), (6, .int (k0 + (4 : Int32))), (4, .long ((20 : Int64) + ((((f_Mo_fourAt S'.1 mp (k0 + (4 : Int32))).toInt64 + (3 : Int64)) / (4 : Int64)) * (4 : Int64)))), (3, .int (f_Mo_fourAt S'.1 mp (k0 + (4 : Int32)))), (0, .ref (ad q)), (1, .int k0), (2, .int k1)]) hx hb d_Mo_note_259 hl (by decide) rfl (fun ls hl => ?_)
                  exact L261 9 ((20 : Int64) + ((((f_Mo_fourAt S'.1 mp (k0 + (4 : Int32))).toInt64 + (3 : Int64)) / (4 : Int64)) * (4 : Int64))) (0 : Int32) (S'.1, S'.2.1, (upd S'.2.2.1 ((6 : Int32) + (S'.2.1 (2 : Int32).toNatClampNeg)).toNatClampNeg (f_Mo_fourAt S'.1 mp (k0 + (20 : Int32)))), S'.2.2.2) w29 (fun k hk => ((e29 k (by omega)).trans (efr k (by omega)))) H locs ls (lv_sub hl [4, 5, 2, 0] rfl) (show (f_Mo_note S mp k0 k1) = f_Mo_note_L261 S mp k0 k1 9 ((20 : Int64) + ((((f_Mo_fourAt S'.1 mp (k0 + (4 : Int32))).toInt64 + (3 : Int64)) / (4 : Int64)) * (4 : Int64))) (0 : Int32) (S'.1, S'.2.1, (upd S'.2.2.1 ((6 : Int32) + (S'.2.1 (2 : Int32).toNatClampNeg)).toNatClampNeg (f_Mo_fourAt S'.1 mp (k0 + (20 : Int32)))), S'.2.2.2) by rw [he, f_Mo_note_L23, if_pos hc26, if_neg hc30, if_pos hc60, if_pos hc64, if_neg hc71, if_pos hc152]) (⟨hn24, fa165⟩) (⟨hn157, fa166⟩) (⟨hn162, fa164⟩) at167 at168 hP hS (ho.2.2.2.2.2.2.2.2.2.2.2.2.2.2.2.2.2.2.2.2.2.2.2.2.2.2.2.2.2.2.1 hc26 hc30 hc60 hc64 hc71 hc152)
                · refine lv_aload_n hx hb d_Mo_note_210 rfl (lv_at hl 3 rfl) ?_
                  refine lv_bipush (v := (6 : Int32)) hx hb d_Mo_note_211 (by decide) ?_
                  refine g_put (ci := 7) (C := R_Mo) (T := F_Mo) (Nf := 16) (v := .int (6 : Int32)) (ty := .int) hx hb hA in_Mo t_Mo t_Mo_ok n_Mo hown hK hP hS (k := q) (by omega) fa25 rfl 14 (by decide) (hA _ aw_574) (fun _ h9 => h9) rfl (by decide +kernel) rfl rfl (Nat.le_of_ble_eq_true rfl) d_Mo_note_213 (fun H locs w30 fa169 e30 hP hS => ?_)
                  have fa169 : w30 q = .inr (7, [.int S'.1.1, .ref (ad (q + 1)), .ref (ad (q + 2)), .ref (ad (q + 3)), .ref (ad (q + 4)), .ref (ad (q + 5)), .ref (ad (q + 6)), .ref (ad (q + 7)), .ref (ad (q + 8)), .ref (ad (q + 9)), .int S'.1.2.1, .ref (ad (q + 10)), .int S'.1.2.2.1, .int S'.1.2.2.2.1, .int (6 : Int32), .int S'.1.2.2.2.2.2]) := fa169
                  have at170 := cd_IaAt_keep hL1 (fun k h1 h2 => e30 k (by omega))
                  have at171 := cd_IaAt_keep hL2 (fun k h1 h2 => e30 k (by omega))
                  have at172 := cd_IaAt_keep hL3 (fun k h1 h2 => e30 k (by omega))
                  have at173 := cd_ByAt_keep hL4 (fun k h1 h2 => e30 k (by omega))
                  refine lv_aload_n hx hb d_Mo_note_216 rfl (lv_at hl 3 rfl) ?_
                  refine lv_iload hx hb d_Mo_note_217 (lv_at hl 0 rfl) ?_
                  refine g_put (ci := 7) (C := R_Mo) (T := F_Mo) (Nf := 16) (v := .int (k0 + (4 : Int32))) (ty := .int) hx hb hA in_Mo t_Mo t_Mo_ok n_Mo hown hK hP hS (k := q) (by omega) fa169 rfl 15 (by decide) (hA _ aw_575) (fun _ h9 => h9) rfl (by decide +kernel) rfl rfl (Nat.le_of_ble_eq_true rfl) d_Mo_note_219 (fun H locs w31 fa174 e31 hP hS => ?_)
                  have fa174 : w31 q = .inr (7, [.int S'.1.1, .ref (ad (q + 1)), .ref (ad (q + 2)), .ref (ad (q + 3)), .ref (ad (q + 4)), .ref (ad (q + 5)), .ref (ad (q + 6)), .ref (ad (q + 7)), .ref (ad (q + 8)), .ref (ad (q + 9)), .int S'.1.2.1, .ref (ad (q + 10)), .int S'.1.2.2.1, .int S'.1.2.2.2.1, .int (6 : Int32), .int (k0 + (4 : Int32))]) := fa174
                  have at175 := cd_IaAt_keep at170 (fun k h1 h2 => e31 k (by omega))
                  have at176 := cd_IaAt_keep at171 (fun k h1 h2 => e31 k (by omega))
                  have at177 := cd_IaAt_keep at172 (fun k h1 h2 => e31 k (by omega))
                  have at178 := cd_ByAt_keep at173 (fun k h1 h2 => e31 k (by omega))
                  refine lv_iconst (v := (-1 : Int32)) hx hb d_Mo_note_222 (by decide) ?_
                  have hf179 : (f_Mo_note S mp k0 k1) = ((-1 : Int32), (S'.1.1, S'.1.2.1, S'.1.2.2.1, S'.1.2.2.2.1, (6 : Int32), (k0 + (4 : Int32))), S'.2.1, S'.2.2.1, S'.2.2.2) := by rw [he, f_Mo_note_L23, if_pos hc26, if_neg hc30, if_pos hc60, if_pos hc64, if_neg hc71, if_neg hc152]
                  exact W.iret (v := (-1 : Int32)) hx hb hr (fun tE ht _ => ⟨⟨_, w31, rfl, ⟨(by rw [hf179]), (by rw [hf179]; exact ⟨hn24, fa174⟩), (by rw [hf179]; exact at175), (by rw [hf179]; exact at176), (by rw [hf179]; exact at177), (fun k hk => ((e31 k (by omega)).trans ((e30 k (by omega)).trans (efr k (by omega)))))⟩, cd_Pt ht hP⟩, hS.F ht⟩) hS.2.2 d_Mo_note_223
          · refine lv_iload_n hx hb d_Mo_note_132 rfl (lv_at hl 4 rfl) ?_
            refine lv_iconst (v := (4 : Int32)) hx hb d_Mo_note_133 (by decide) ?_
            refine lv_iadd hx hb d_Mo_note_134 ?_
            refine lv_istore (lv' := [(6, .int (k0 + (4 : Int32))), (4, .long ((20 : Int64) + ((((f_Mo_fourAt S'.1 mp (k0 + (4 : Int32))).toInt64 + (3 : Int64)) / (4 : Int64)) * (4 : Int64)))), (3, .int (f_Mo_fourAt S'.1 mp (k0 + (4 : Int32)))), (0, .ref (ad q)), (1, .int k0), (2, .int k1)]) hx hb d_Mo_note_135 hl (by decide) rfl (fun ls hl => ?_)
            refine lv_goto (tgt := 204) hx hb d_Mo_note_137 (by decide) ?_
            refine lv_iload hx hb d_Mo_note_204 (lv_at hl 0 rfl) ?_
            refine lv_iconst (v := (-1 : Int32)) hx hb d_Mo_note_206 (by decide) ?_
            refine lv_icmp_eq (tgt := 224) hx hb d_Mo_note_207 (by decide) (fun hc180 => ?_) (fun hc180 => ?_)
            · refine lv_aload_n hx hb d_Mo_note_224 rfl (lv_at hl 3 rfl) ?_
              refine lv_iload_n hx hb d_Mo_note_225 rfl (lv_at hl 4 rfl) ?_
              refine lv_bipush (v := (8 : Int32)) hx hb d_Mo_note_226 (by decide) ?_
              refine lv_iadd hx hb d_Mo_note_228 ?_
              refine va_calli (va_runV (As := [.int (k0 + (8 : Int32))]) (rest := []) ⟨hx, hb, hml, hown, hA⟩ (c_Mo_fourAt l D tt ad N A zs w q S'.1 mp (k0 + (8 : Int32)) (⟨hn24, fa25⟩) hL4 (ho.2.2.2.2.2.2.2.2.2.2.2.2.2.2.2.2.2.2.2.2.2.2.2.2.2.2.2.2.2.2.2.1 hc26 hc30 hc60 hc180)) (cwV 1 hA (cd_gV aw_699 aw_700 aw_800 aw_8 aw_701) rfl rfl rfl ⟨rfl, by decide, by decide, by decide +kernel⟩ ⟨Nat.le_of_ble_eq_true rfl, Nat.le_of_ble_eq_true rfl⟩) ⟨cd_blind, cd_recv hK hP (k := q) (by omega) fa25 rfl, fun U hU hW => ⟨rfl, cd_pre hK hP hZ hS U hU hW⟩⟩ rfl rfl hl.1 rfl (lv_room (Nat.le_of_ble_eq_true rfl)) d_Mo_note_229 ⟨Nat.zero_le _, Nat.zero_le _⟩) hS (fun _ _ h => h) (fun _ h => h) (fun r181 w32 tE H locs ht hvm hr182 hP hz1 hk1 hS => ?_)
              have hP := cd_Pf ht hP
              obtain ⟨rfl, rfl⟩ := hr182
              refine lv_iconst (v := (1 : Int32)) hx hb d_Mo_note_232 (by decide) ?_
              refine lv_icmp_ne (tgt := 317) hx hb d_Mo_note_233 (by decide) (fun hc184 => ?_) (fun hc184 => ?_)
              · refine lv_lload hx hb d_Mo_note_317 (lv_at hl 1 rfl) ?_
                refine lv_l2i hx hb d_Mo_note_319 rfl ?_
                have hf185 : (f_Mo_note S mp k0 k1) = (((20 : Int64) + ((((f_Mo_fourAt S'.1 mp (k0 + (4 : Int32))).toInt64 + (3 : Int64)) / (4 : Int64)) * (4 : Int64))).toInt32, S'.1, S'.2.1, S'.2.2.1, S'.2.2.2) := by rw [he, f_Mo_note_L23, if_pos hc26, if_neg hc30, if_neg hc60, if_pos hc180, if_neg hc184]
                exact W.iret (v := ((20 : Int64) + ((((f_Mo_fourAt S'.1 mp (k0 + (4 : Int32))).toInt64 + (3 : Int64)) / (4 : Int64)) * (4 : Int64))).toInt32) hx hb hr (fun tE ht _ => ⟨⟨_, w, rfl, ⟨(by rw [hf185]), (by rw [hf185]; exact ⟨hn24, fa25⟩), (by rw [hf185]; exact hL1), (by rw [hf185]; exact hL2), (by rw [hf185]; exact hL3), (fun k hk => (efr k (by omega)))⟩, cd_Pt ht hP⟩, hS.F ht⟩) hS.2.2 d_Mo_note_320
              · refine lv_aload_n hx hb d_Mo_note_236 rfl (lv_at hl 3 rfl) ?_
                refine g_get (ci := 7) (C := R_Mo) (T := F_Mo) (Nf := 16) (v := .ref (ad (q + 7))) hx hb hA in_Mo hown hK hP (k := q) (by omega) fa25 rfl 7 (by decide) (hA _ aw_567) (fun _ h9 => h9) rfl d_Mo_note_237 ?_
                refine lv_bipush (v := (6 : Int32)) hx hb d_Mo_note_240 (by decide) ?_
                refine lv_aload_n hx hb d_Mo_note_242 rfl (lv_at hl 3 rfl) ?_
                refine g_get (ci := 7) (C := R_Mo) (T := F_Mo) (Nf := 16) (v := .ref (ad (q + 6))) hx hb hA in_Mo hown hK hP (k := q) (by omega) fa25 rfl 6 (by decide) (hA _ aw_566) (fun _ h9 => h9) rfl d_Mo_note_243 ?_
                refine lv_iconst (v := (2 : Int32)) hx hb d_Mo_note_246 (by decide) ?_
                obtain ⟨hn186, fa187⟩ := hL1
                refine g_iald hx hb hK hP (k := (q + 6)) (by omega) fa187 rfl (ho.2.2.2.2.2.2.2.2.2.2.2.2.2.2.2.2.2.2.2.2.2.2.2.2.2.2.2.2.2.2.2.2.1 hc26 hc30 hc60 hc180 hc184) d_Mo_note_247 ?_
                refine lv_iadd hx hb d_Mo_note_248 ?_
                refine lv_aload_n hx hb d_Mo_note_249 rfl (lv_at hl 3 rfl) ?_
                refine lv_iload_n hx hb d_Mo_note_250 rfl (lv_at hl 4 rfl) ?_
                refine lv_bipush (v := (20 : Int32)) hx hb d_Mo_note_251 (by decide) ?_
                refine lv_iadd hx hb d_Mo_note_253 ?_
                refine va_calli (va_runV (As := [.int (k0 + (20 : Int32))]) (rest := [.int ((6 : Int32) + (S'.2.1 (2 : Int32).toNatClampNeg)), .ref (ad (q + 7))]) ⟨hx, hb, hml, hown, hA⟩ (c_Mo_fourAt l D tt ad N A zs w q S'.1 mp (k0 + (20 : Int32)) (⟨hn24, fa25⟩) hL4 (ho.2.2.2.2.2.2.2.2.2.2.2.2.2.2.2.2.2.2.2.2.2.2.2.2.2.2.2.2.2.2.2.2.2.1 hc26 hc30 hc60 hc180 hc184)) (cwV 1 hA (cd_gV aw_699 aw_700 aw_800 aw_8 aw_701) rfl rfl rfl ⟨rfl, by decide, by decide, by decide +kernel⟩ ⟨Nat.le_of_ble_eq_true rfl, Nat.le_of_ble_eq_true rfl⟩) ⟨cd_blind, cd_recv hK hP (k := q) (by omega) fa25 rfl, fun U hU hW => ⟨rfl, cd_pre hK hP hZ hS U hU hW⟩⟩ rfl rfl hl.1 rfl (lv_room (Nat.le_of_ble_eq_true rfl)) d_Mo_note_254 ⟨Nat.zero_le _, Nat.zero_le _⟩) hS (fun _ _ h => h) (fun _ h => h) (fun r188 w33 tE H locs ht hvm hr189 hP hz1 hk1 hS => ?_)
                have hP := cd_Pf ht hP
                obtain ⟨rfl, rfl⟩ := hr189
                obtain ⟨hn191, fa192⟩ := hL2
                refine g_iast hx hb hK hP hS (k := (q + 7)) (by omega) fa192 rfl (ho.2.2.2.2.2.2.2.2.2.2.2.2.2.2.2.2.2.2.2.2.2.2.2.2.2.2.2.2.2.2.2.2.2.2.1 hc26 hc30 hc60 hc180 hc184) d_Mo_note_257 (fun H locs w34 fa193 e34 hP hS => ?_)
                have fa194 := (e34 q (by omega)).trans fa25
                have fa195 := (e34 (q + 6) (by omega)).trans fa187
                have at196 := cd_IaAt_keep hL3 (fun k h1 h2 => e34 k (by omega))
                have at197 := cd_ByAt_keep hL4 (fun k h1 h2 => e34 k (by omega))
                refine lv_iconst (v := (0 : Int32)) hx hb d_Mo_note_258 (by decide) ?_
                refine lv_istore (lv' := [(7, .int (0 : Int32)), (6, .int (k0 + (4 : Int32))), (4, .long ((20 : Int64) + ((((f_Mo_fourAt S'.1 mp (k0 + (4 : Int32))).toInt64 + (3 : Int64)) / (4 : Int64)) * (4 : Int64)))), (3, .int (f_Mo_fourAt S'.1 mp (k0 + (4 : Int32)))), (0, .ref (ad q)), (1, .int k0), (2, .int k1)]) hx hb d_Mo_note_259 hl (by decide) rfl (fun ls hl => ?_)
                exact L261 9 ((20 : Int64) + ((((f_Mo_fourAt S'.1 mp (k0 + (4 : Int32))).toInt64 + (3 : Int64)) / (4 : Int64)) * (4 : Int64))) (0 : Int32) (S'.1, S'.2.1, (upd S'.2.2.1 ((6 : Int32) + (S'.2.1 (2 : Int32).toNatClampNeg)).toNatClampNeg (f_Mo_fourAt S'.1 mp (k0 + (20 : Int32)))), S'.2.2.2) w34 (fun k hk => ((e34 k (by omega)).trans (efr k (by omega)))) H locs ls (lv_sub hl [4, 5, 2, 0] rfl) (show (f_Mo_note S mp k0 k1) = f_Mo_note_L261 S mp k0 k1 9 ((20 : Int64) + ((((f_Mo_fourAt S'.1 mp (k0 + (4 : Int32))).toInt64 + (3 : Int64)) / (4 : Int64)) * (4 : Int64))) (0 : Int32) (S'.1, S'.2.1, (upd S'.2.2.1 ((6 : Int32) + (S'.2.1 (2 : Int32).toNatClampNeg)).toNatClampNeg (f_Mo_fourAt S'.1 mp (k0 + (20 : Int32)))), S'.2.2.2) by rw [he, f_Mo_note_L23, if_pos hc26, if_neg hc30, if_neg hc60, if_pos hc180, if_pos hc184]) (⟨hn24, fa194⟩) (⟨hn186, fa195⟩) (⟨hn191, fa193⟩) at196 at197 hP hS (ho.2.2.2.2.2.2.2.2.2.2.2.2.2.2.2.2.2.2.2.2.2.2.2.2.2.2.2.2.2.2.2.2.2.2.2.1 hc26 hc30 hc60 hc180 hc184)
            · refine lv_aload_n hx hb d_Mo_note_210 rfl (lv_at hl 3 rfl) ?_
              refine lv_bipush (v := (6 : Int32)) hx hb d_Mo_note_211 (by decide) ?_
              refine g_put (ci := 7) (C := R_Mo) (T := F_Mo) (Nf := 16) (v := .int (6 : Int32)) (ty := .int) hx hb hA in_Mo t_Mo t_Mo_ok n_Mo hown hK hP hS (k := q) (by omega) fa25 rfl 14 (by decide) (hA _ aw_574) (fun _ h9 => h9) rfl (by decide +kernel) rfl rfl (Nat.le_of_ble_eq_true rfl) d_Mo_note_213 (fun H locs w35 fa198 e35 hP hS => ?_)
              have fa198 : w35 q = .inr (7, [.int S'.1.1, .ref (ad (q + 1)), .ref (ad (q + 2)), .ref (ad (q + 3)), .ref (ad (q + 4)), .ref (ad (q + 5)), .ref (ad (q + 6)), .ref (ad (q + 7)), .ref (ad (q + 8)), .ref (ad (q + 9)), .int S'.1.2.1, .ref (ad (q + 10)), .int S'.1.2.2.1, .int S'.1.2.2.2.1, .int (6 : Int32), .int S'.1.2.2.2.2.2]) := fa198
              have at199 := cd_IaAt_keep hL1 (fun k h1 h2 => e35 k (by omega))
              have at200 := cd_IaAt_keep hL2 (fun k h1 h2 => e35 k (by omega))
              have at201 := cd_IaAt_keep hL3 (fun k h1 h2 => e35 k (by omega))
              have at202 := cd_ByAt_keep hL4 (fun k h1 h2 => e35 k (by omega))
              refine lv_aload_n hx hb d_Mo_note_216 rfl (lv_at hl 3 rfl) ?_
              refine lv_iload hx hb d_Mo_note_217 (lv_at hl 0 rfl) ?_
              refine g_put (ci := 7) (C := R_Mo) (T := F_Mo) (Nf := 16) (v := .int (k0 + (4 : Int32))) (ty := .int) hx hb hA in_Mo t_Mo t_Mo_ok n_Mo hown hK hP hS (k := q) (by omega) fa198 rfl 15 (by decide) (hA _ aw_575) (fun _ h9 => h9) rfl (by decide +kernel) rfl rfl (Nat.le_of_ble_eq_true rfl) d_Mo_note_219 (fun H locs w36 fa203 e36 hP hS => ?_)
              have fa203 : w36 q = .inr (7, [.int S'.1.1, .ref (ad (q + 1)), .ref (ad (q + 2)), .ref (ad (q + 3)), .ref (ad (q + 4)), .ref (ad (q + 5)), .ref (ad (q + 6)), .ref (ad (q + 7)), .ref (ad (q + 8)), .ref (ad (q + 9)), .int S'.1.2.1, .ref (ad (q + 10)), .int S'.1.2.2.1, .int S'.1.2.2.2.1, .int (6 : Int32), .int (k0 + (4 : Int32))]) := fa203
              have at204 := cd_IaAt_keep at199 (fun k h1 h2 => e36 k (by omega))
              have at205 := cd_IaAt_keep at200 (fun k h1 h2 => e36 k (by omega))
              have at206 := cd_IaAt_keep at201 (fun k h1 h2 => e36 k (by omega))
              have at207 := cd_ByAt_keep at202 (fun k h1 h2 => e36 k (by omega))
              refine lv_iconst (v := (-1 : Int32)) hx hb d_Mo_note_222 (by decide) ?_
              have hf208 : (f_Mo_note S mp k0 k1) = ((-1 : Int32), (S'.1.1, S'.1.2.1, S'.1.2.2.1, S'.1.2.2.2.1, (6 : Int32), (k0 + (4 : Int32))), S'.2.1, S'.2.2.1, S'.2.2.2) := by rw [he, f_Mo_note_L23, if_pos hc26, if_neg hc30, if_neg hc60, if_neg hc180]
              exact W.iret (v := (-1 : Int32)) hx hb hr (fun tE ht _ => ⟨⟨_, w36, rfl, ⟨(by rw [hf208]), (by rw [hf208]; exact ⟨hn24, fa203⟩), (by rw [hf208]; exact at204), (by rw [hf208]; exact at205), (by rw [hf208]; exact at206), (fun k hk => ((e36 k (by omega)).trans ((e35 k (by omega)).trans (efr k (by omega)))))⟩, cd_Pt ht hP⟩, hS.F ht⟩) hS.2.2 d_Mo_note_223
      · refine lv_iload_n hx hb d_Mo_note_29 rfl (lv_at hl 3 rfl) ?_
        refine va_calli (va_runS (As := [.int x3]) (rest := []) ⟨hx, hb, hml, hown, hA⟩ (c_Mo_noteByte l D tt ad N A zs w x3) (cwS 1 hA (cd_gS aw_711 aw_712 aw_8 aw_713) rfl rfl rfl ⟨rfl, by decide, by decide, by decide +kernel⟩ ⟨Nat.le_of_ble_eq_true rfl, Nat.le_of_ble_eq_true rfl⟩) ⟨cd_blind, fun U hU hW => ⟨rfl, cd_pre hK hP hZ hS U hU hW⟩⟩ rfl rfl hl.1 rfl (lv_room (Nat.le_of_ble_eq_true rfl)) d_Mo_note_30 ⟨Nat.zero_le _, Nat.zero_le _⟩) hS (fun _ _ h => h) (fun _ h => h) (fun r209 w37 tE H locs ht hvm hr210 hP hz1 hk1 hS => ?_)
        have hP := cd_Pf ht hP
        obtain ⟨rfl, rfl⟩ := hr210
        refine lv_iconst (v := (-1 : Int32)) hx hb d_Mo_note_33 (by decide) ?_
        refine lv_icmp_eq (tgt := 80) hx hb d_Mo_note_34 (by decide) (fun hc212 => ?_) (fun hc212 => ?_)
        · refine lv_iinc (k := 3) (v := (x3 + (1 : Int32))) (lv' := [(3, .int (x3 + (1 : Int32))), (0, .ref (ad q)), (1, .int k0), (2, .int k1)]) hx hb d_Mo_note_80 hl rfl (cd_inc _ _ _ (by decide)) (by decide) rfl (fun ls hl => ?_)
          refine lv_goto (tgt := 23) hx hb d_Mo_note_83 (by decide) ?_
          exact ih (x3 + (1 : Int32)) S' w (fun k hk => (efr k (by omega))) H locs ls (lv_sub hl [1, 2, 3, 0] rfl) (show (f_Mo_note S mp k0 k1) = f_Mo_note_L23 S mp k0 k1 gn (x3 + (1 : Int32)) S' by rw [he, f_Mo_note_L23, if_neg hc26, if_pos hc212]) (⟨hn24, fa25⟩) hL1 hL2 hL3 hL4 hP hS (ho.2.2.2.2.2.2.2.2.2.2.2.2.2.2.2.2.2.2.2.2.2.2.2.2.2.2.2.2.2.2.2.2.2.2.2.2.1 hc26 hc212)
        · refine lv_iload_n hx hb d_Mo_note_37 rfl (lv_at hl 3 rfl) ?_
          refine va_calli (va_runS (As := [.int x3]) (rest := []) ⟨hx, hb, hml, hown, hA⟩ (c_Mo_noteByte l D tt ad N A zs w x3) (cwS 1 hA (cd_gS aw_711 aw_712 aw_8 aw_713) rfl rfl rfl ⟨rfl, by decide, by decide, by decide +kernel⟩ ⟨Nat.le_of_ble_eq_true rfl, Nat.le_of_ble_eq_true rfl⟩) ⟨cd_blind, fun U hU hW => ⟨rfl, cd_pre hK hP hZ hS U hU hW⟩⟩ rfl rfl hl.1 rfl (lv_room (Nat.le_of_ble_eq_true rfl)) d_Mo_note_38 ⟨Nat.zero_le _, Nat.zero_le _⟩) hS (fun _ _ h => h) (fun _ h => h) (fun r213 w38 tE H locs ht hvm hr214 hP hz1 hk1 hS => ?_)
          have hP := cd_Pf ht hP
          obtain ⟨rfl, rfl⟩ := hr214
          refine lv_aload_n hx hb d_Mo_note_41 rfl (lv_at hl 0 rfl) ?_
          refine g_get (ci := 7) (C := R_Mo) (T := F_Mo) (Nf := 16) (v := .ref (ad (q + 10))) hx hb hA in_Mo hown hK hP (k := q) (by omega) fa25 rfl 11 (by decide) (hA _ aw_571) (fun _ h9 => h9) rfl d_Mo_note_42 ?_
          refine lv_iload_n hx hb d_Mo_note_45 rfl (lv_at hl 1 rfl) ?_
          refine lv_iload_n hx hb d_Mo_note_46 rfl (lv_at hl 3 rfl) ?_
          refine lv_iadd hx hb d_Mo_note_47 ?_
          obtain ⟨hn216, fa217⟩ := hL4
          refine g_bald hx hb hK hP (k := (q + 10)) (by omega) fa217 rfl (ho.2.2.2.2.2.2.2.2.2.2.2.2.2.2.2.2.2.2.2.2.2.2.2.2.2.2.2.2.2.2.2.2.2.2.2.2.2.1 hc26 hc212) d_Mo_note_48 ?_
          refine lv_sipush (v := (255 : Int32)) hx hb d_Mo_note_49 (by decide) ?_
          refine lv_iand hx hb d_Mo_note_52 ?_
          refine lv_icmp_eq (tgt := 80) hx hb d_Mo_note_53 (by decide) (fun hc218 => ?_) (fun hc218 => ?_)
          · refine lv_iinc (k := 3) (v := (x3 + (1 : Int32))) (lv' := [(3, .int (x3 + (1 : Int32))), (0, .ref (ad q)), (1, .int k0), (2, .int k1)]) hx hb d_Mo_note_80 hl rfl (cd_inc _ _ _ (by decide)) (by decide) rfl (fun ls hl => ?_)
            refine lv_goto (tgt := 23) hx hb d_Mo_note_83 (by decide) ?_
            exact ih (x3 + (1 : Int32)) S' w (fun k hk => (efr k (by omega))) H locs ls (lv_sub hl [1, 2, 3, 0] rfl) (show (f_Mo_note S mp k0 k1) = f_Mo_note_L23 S mp k0 k1 gn (x3 + (1 : Int32)) S' by rw [he, f_Mo_note_L23, if_neg hc26, if_neg hc212, if_pos hc218]) (⟨hn24, fa25⟩) hL1 hL2 hL3 (⟨hn216, fa217⟩) hP hS (ho.2.2.2.2.2.2.2.2.2.2.2.2.2.2.2.2.2.2.2.2.2.2.2.2.2.2.2.2.2.2.2.2.2.2.2.2.2.2 hc26 hc212 hc218)
          · refine lv_aload_n hx hb d_Mo_note_56 rfl (lv_at hl 0 rfl) ?_
            refine lv_bipush (v := (6 : Int32)) hx hb d_Mo_note_57 (by decide) ?_
            refine g_put (ci := 7) (C := R_Mo) (T := F_Mo) (Nf := 16) (v := .int (6 : Int32)) (ty := .int) hx hb hA in_Mo t_Mo t_Mo_ok n_Mo hown hK hP hS (k := q) (by omega) fa25 rfl 14 (by decide) (hA _ aw_574) (fun _ h9 => h9) rfl (by decide +kernel) rfl rfl (Nat.le_of_ble_eq_true rfl) d_Mo_note_59 (fun H locs w39 fa219 e39 hP hS => ?_)
            have fa219 : w39 q = .inr (7, [.int S'.1.1, .ref (ad (q + 1)), .ref (ad (q + 2)), .ref (ad (q + 3)), .ref (ad (q + 4)), .ref (ad (q + 5)), .ref (ad (q + 6)), .ref (ad (q + 7)), .ref (ad (q + 8)), .ref (ad (q + 9)), .int S'.1.2.1, .ref (ad (q + 10)), .int S'.1.2.2.1, .int S'.1.2.2.2.1, .int (6 : Int32), .int S'.1.2.2.2.2.2]) := fa219
            have at220 := cd_IaAt_keep hL1 (fun k h1 h2 => e39 k (by omega))
            have at221 := cd_IaAt_keep hL2 (fun k h1 h2 => e39 k (by omega))
            have at222 := cd_IaAt_keep hL3 (fun k h1 h2 => e39 k (by omega))
            have fa223 := (e39 (q + 10) (by omega)).trans fa217
            refine lv_aload_n hx hb d_Mo_note_62 rfl (lv_at hl 0 rfl) ?_
            refine lv_iload_n hx hb d_Mo_note_63 rfl (lv_at hl 3 rfl) ?_
            refine lv_iconst (v := (4 : Int32)) hx hb d_Mo_note_64 (by decide) ?_
            refine lv_icmp_ge (tgt := 72) hx hb d_Mo_note_65 (by decide) (fun hc224 => ?_) (fun hc224 => ?_)
            · refine lv_iload_n hx hb d_Mo_note_72 rfl (lv_at hl 1 rfl) ?_
              refine lv_iload_n hx hb d_Mo_note_73 rfl (lv_at hl 3 rfl) ?_
              refine lv_iadd hx hb d_Mo_note_74 ?_
              refine g_put (ci := 7) (C := R_Mo) (T := F_Mo) (Nf := 16) (v := .int (k0 + x3)) (ty := .int) hx hb hA in_Mo t_Mo t_Mo_ok n_Mo hown hK hP hS (k := q) (by omega) fa219 rfl 15 (by decide) (hA _ aw_575) (fun _ h9 => h9) rfl (by decide +kernel) rfl rfl (Nat.le_of_ble_eq_true rfl) d_Mo_note_75 (fun H locs w40 fa225 e40 hP hS => ?_)
              have fa225 : w40 q = .inr (7, [.int S'.1.1, .ref (ad (q + 1)), .ref (ad (q + 2)), .ref (ad (q + 3)), .ref (ad (q + 4)), .ref (ad (q + 5)), .ref (ad (q + 6)), .ref (ad (q + 7)), .ref (ad (q + 8)), .ref (ad (q + 9)), .int S'.1.2.1, .ref (ad (q + 10)), .int S'.1.2.2.1, .int S'.1.2.2.2.1, .int (6 : Int32), .int (k0 + x3)]) := fa225
              have at226 := cd_IaAt_keep at220 (fun k h1 h2 => e40 k (by omega))
              have at227 := cd_IaAt_keep at221 (fun k h1 h2 => e40 k (by omega))
              have at228 := cd_IaAt_keep at222 (fun k h1 h2 => e40 k (by omega))
              have fa229 := (e40 (q + 10) (by omega)).trans fa223
              refine lv_iconst (v := (-1 : Int32)) hx hb d_Mo_note_78 (by decide) ?_
              have hf230 : (f_Mo_note S mp k0 k1) = ((-1 : Int32), (S'.1.1, S'.1.2.1, S'.1.2.2.1, S'.1.2.2.2.1, (6 : Int32), (k0 + x3)), S'.2.1, S'.2.2.1, S'.2.2.2) := by rw [he, f_Mo_note_L23, if_neg hc26, if_neg hc212, if_neg hc218, if_pos hc224]
              exact W.iret (v := (-1 : Int32)) hx hb hr (fun tE ht _ => ⟨⟨_, w40, rfl, ⟨(by rw [hf230]), (by rw [hf230]; exact ⟨hn24, fa225⟩), (by rw [hf230]; exact at226), (by rw [hf230]; exact at227), (by rw [hf230]; exact at228), (fun k hk => ((e40 k (by omega)).trans ((e39 k (by omega)).trans (efr k (by omega)))))⟩, cd_Pt ht hP⟩, hS.F ht⟩) hS.2.2 d_Mo_note_79
            · refine lv_iload_n hx hb d_Mo_note_68 rfl (lv_at hl 1 rfl) ?_
              refine lv_goto (tgt := 75) hx hb d_Mo_note_69 (by decide) ?_
              refine g_put (ci := 7) (C := R_Mo) (T := F_Mo) (Nf := 16) (v := .int k0) (ty := .int) hx hb hA in_Mo t_Mo t_Mo_ok n_Mo hown hK hP hS (k := q) (by omega) fa219 rfl 15 (by decide) (hA _ aw_575) (fun _ h9 => h9) rfl (by decide +kernel) rfl rfl (Nat.le_of_ble_eq_true rfl) d_Mo_note_75 (fun H locs w41 fa231 e41 hP hS => ?_)
              have fa231 : w41 q = .inr (7, [.int S'.1.1, .ref (ad (q + 1)), .ref (ad (q + 2)), .ref (ad (q + 3)), .ref (ad (q + 4)), .ref (ad (q + 5)), .ref (ad (q + 6)), .ref (ad (q + 7)), .ref (ad (q + 8)), .ref (ad (q + 9)), .int S'.1.2.1, .ref (ad (q + 10)), .int S'.1.2.2.1, .int S'.1.2.2.2.1, .int (6 : Int32), .int k0]) := fa231
              have at232 := cd_IaAt_keep at220 (fun k h1 h2 => e41 k (by omega))
              have at233 := cd_IaAt_keep at221 (fun k h1 h2 => e41 k (by omega))
              have at234 := cd_IaAt_keep at222 (fun k h1 h2 => e41 k (by omega))
              have fa235 := (e41 (q + 10) (by omega)).trans fa223
              refine lv_iconst (v := (-1 : Int32)) hx hb d_Mo_note_78 (by decide) ?_
              have hf236 : (f_Mo_note S mp k0 k1) = ((-1 : Int32), (S'.1.1, S'.1.2.1, S'.1.2.2.1, S'.1.2.2.2.1, (6 : Int32), k0), S'.2.1, S'.2.2.1, S'.2.2.2) := by rw [he, f_Mo_note_L23, if_neg hc26, if_neg hc212, if_neg hc218, if_neg hc224]
              exact W.iret (v := (-1 : Int32)) hx hb hr (fun tE ht _ => ⟨⟨_, w41, rfl, ⟨(by rw [hf236]), (by rw [hf236]; exact ⟨hn24, fa231⟩), (by rw [hf236]; exact at232), (by rw [hf236]; exact at233), (by rw [hf236]; exact at234), (fun k hk => ((e41 k (by omega)).trans ((e39 k (by omega)).trans (efr k (by omega)))))⟩, cd_Pt ht hP⟩, hS.F ht⟩) hS.2.2 d_Mo_note_79
  have hS : va_S A s.heap s.heap [] := va_S.rf
  have hl := lv_entry ([.ref (ad q), .int k0, .int k1]) (n := 8) (Nat.le_of_ble_eq_true rfl)
  rw [lg_entry_eq]
  generalize (lg_sl ([.ref (ad q), .int k0, .int k1]) ++ List.replicate (8 - (lg_sl ([.ref (ad q), .int k0, .int k1])).length) Slot.unset).toArray = ls at hl ⊢
  have hl : lv_has ls 8 [(0, .ref (ad q)), (1, .int k0), (2, .int k1)] := hl
  have ho : ((k0 + (20 : Int32)) ≤ k1 → o_Mo_note_L23 S mp k0 k1 21 (0 : Int32) S) := ho
  obtain ⟨hn237, fa238⟩ := hR0
  refine lv_iload_n hx hb d_Mo_note_0 rfl (lv_at hl 1 rfl) ?_
  refine lv_bipush (v := (20 : Int32)) hx hb d_Mo_note_1 (by decide) ?_
  refine lv_iadd hx hb d_Mo_note_3 ?_
  refine lv_iload_n hx hb d_Mo_note_4 rfl (lv_at hl 2 rfl) ?_
  refine lv_icmp_le (tgt := 21) hx hb d_Mo_note_5 (by decide) (fun hc239 => ?_) (fun hc239 => ?_)
  · refine lv_iconst (v := (0 : Int32)) hx hb d_Mo_note_21 (by decide) ?_
    refine lv_istore_n (lv' := [(3, .int (0 : Int32)), (0, .ref (ad q)), (1, .int k0), (2, .int k1)]) hx hb d_Mo_note_22 rfl hl (by decide) rfl (fun ls hl => ?_)
    exact L23 21 (0 : Int32) S w0 (fun _ _ => rfl) s.heap [] ls (lv_sub hl [1, 2, 3, 0] rfl) (show (f_Mo_note S mp k0 k1) = f_Mo_note_L23 S mp k0 k1 21 (0 : Int32) S by rw [f_Mo_note, if_pos hc239]) (⟨hn237, fa238⟩) hR1 hR2 hR3 hR4 hP hS (ho hc239)
  · refine lv_aload_n hx hb d_Mo_note_8 rfl (lv_at hl 0 rfl) ?_
    refine lv_bipush (v := (6 : Int32)) hx hb d_Mo_note_9 (by decide) ?_
    refine g_put (ci := 7) (C := R_Mo) (T := F_Mo) (Nf := 16) (v := .int (6 : Int32)) (ty := .int) hx hb hA in_Mo t_Mo t_Mo_ok n_Mo hown hK hP hS (k := q) (by omega) fa238 rfl 14 (by decide) (hA _ aw_574) (fun _ h9 => h9) rfl (by decide +kernel) rfl rfl (Nat.le_of_ble_eq_true rfl) d_Mo_note_11 (fun H locs w42 fa240 e42 hP hS => ?_)
    have fa240 : w42 q = .inr (7, [.int S.1.1, .ref (ad (q + 1)), .ref (ad (q + 2)), .ref (ad (q + 3)), .ref (ad (q + 4)), .ref (ad (q + 5)), .ref (ad (q + 6)), .ref (ad (q + 7)), .ref (ad (q + 8)), .ref (ad (q + 9)), .int S.1.2.1, .ref (ad (q + 10)), .int S.1.2.2.1, .int S.1.2.2.2.1, .int (6 : Int32), .int S.1.2.2.2.2.2]) := fa240
    have at241 := cd_IaAt_keep hR1 (fun k h1 h2 => e42 k (by omega))
    have at242 := cd_IaAt_keep hR2 (fun k h1 h2 => e42 k (by omega))
    have at243 := cd_IaAt_keep hR3 (fun k h1 h2 => e42 k (by omega))
    have at244 := cd_ByAt_keep hR4 (fun k h1 h2 => e42 k (by omega))
    refine lv_aload_n hx hb d_Mo_note_14 rfl (lv_at hl 0 rfl) ?_
    refine lv_iload_n hx hb d_Mo_note_15 rfl (lv_at hl 1 rfl) ?_
    refine g_put (ci := 7) (C := R_Mo) (T := F_Mo) (Nf := 16) (v := .int k0) (ty := .int) hx hb hA in_Mo t_Mo t_Mo_ok n_Mo hown hK hP hS (k := q) (by omega) fa240 rfl 15 (by decide) (hA _ aw_575) (fun _ h9 => h9) rfl (by decide +kernel) rfl rfl (Nat.le_of_ble_eq_true rfl) d_Mo_note_16 (fun H locs w43 fa245 e43 hP hS => ?_)
    have fa245 : w43 q = .inr (7, [.int S.1.1, .ref (ad (q + 1)), .ref (ad (q + 2)), .ref (ad (q + 3)), .ref (ad (q + 4)), .ref (ad (q + 5)), .ref (ad (q + 6)), .ref (ad (q + 7)), .ref (ad (q + 8)), .ref (ad (q + 9)), .int S.1.2.1, .ref (ad (q + 10)), .int S.1.2.2.1, .int S.1.2.2.2.1, .int (6 : Int32), .int k0]) := fa245
    have at246 := cd_IaAt_keep at241 (fun k h1 h2 => e43 k (by omega))
    have at247 := cd_IaAt_keep at242 (fun k h1 h2 => e43 k (by omega))
    have at248 := cd_IaAt_keep at243 (fun k h1 h2 => e43 k (by omega))
    have at249 := cd_ByAt_keep at244 (fun k h1 h2 => e43 k (by omega))
    refine lv_iconst (v := (-1 : Int32)) hx hb d_Mo_note_19 (by decide) ?_
    have hf250 : (f_Mo_note S mp k0 k1) = ((-1 : Int32), (S.1.1, S.1.2.1, S.1.2.2.1, S.1.2.2.2.1, (6 : Int32), k0), S.2.1, S.2.2.1, S.2.2.2) := by rw [f_Mo_note, if_neg hc239]
    exact W.iret (v := (-1 : Int32)) hx hb hr (fun tE ht _ => ⟨⟨_, w43, rfl, ⟨(by rw [hf250]), (by rw [hf250]; exact ⟨hn237, fa245⟩), (by rw [hf250]; exact at246), (by rw [hf250]; exact at247), (by rw [hf250]; exact at248), (fun k hk => ((e43 k (by omega)).trans (e42 k (by omega))))⟩, cd_Pt ht hP⟩, hS.F ht⟩) hS.2.2 d_Mo_note_20
def f_Mo_notesFit_L16 (S : cd_Mo × cd_Ia × cd_Ia × cd_Ia) (mp : cd_By) : Nat → Int32 → Int32 → (cd_Mo × cd_Ia × cd_Ia × cd_Ia) → Int32 × cd_Mo × cd_Ia × cd_Ia × cd_Ia
  | 0, _, _, _ => default
  | gn + 1, x1, x2, S' => (if x2 ≤ x1 then ((1 : Int32), S'.1, S'.2.1, S'.2.2.1, S'.2.2.2) else (if (f_Mo_note S' mp x1 x2).1 = (-1 : Int32) then ((0 : Int32), (f_Mo_note S' mp x1 x2).2.1, (f_Mo_note S' mp x1 x2).2.2.1, (f_Mo_note S' mp x1 x2).2.2.2.1, (f_Mo_note S' mp x1 x2).2.2.2.2) else (f_Mo_notesFit_L16 S mp gn (x1 + (f_Mo_note S' mp x1 x2).1) x2 ((f_Mo_note S' mp x1 x2).2))))
def f_Mo_notesFit (S : cd_Mo × cd_Ia × cd_Ia × cd_Ia) (mp : cd_By) : Int32 × cd_Mo × cd_Ia × cd_Ia × cd_Ia := (f_Mo_notesFit_L16 S mp 500 (f_Mo_fourAt S.1 mp (56 : Int32)) ((f_Mo_fourAt S.1 mp (56 : Int32)) + (f_Mo_fourAt S.1 mp (68 : Int32))) S)
def o_Mo_notesFit_L16 (S : cd_Mo × cd_Ia × cd_Ia × cd_Ia) (mp : cd_By) : Nat → Int32 → Int32 → (cd_Mo × cd_Ia × cd_Ia × cd_Ia) → Prop
  | 0, _, _, _ => False
  | gn + 1, x1, x2, S' => (¬ x2 ≤ x1 → o_Mo_note S' mp x1 x2) ∧ (¬ x2 ≤ x1 → ¬ (f_Mo_note S' mp x1 x2).1 = (-1 : Int32) → o_Mo_notesFit_L16 S mp gn (x1 + (f_Mo_note S' mp x1 x2).1) x2 ((f_Mo_note S' mp x1 x2).2))
def o_Mo_notesFit (S : cd_Mo × cd_Ia × cd_Ia × cd_Ia) (mp : cd_By) : Prop := (o_Mo_fourAt S.1 mp (56 : Int32)) ∧ (o_Mo_fourAt S.1 mp (68 : Int32)) ∧ (o_Mo_notesFit_L16 S mp 500 (f_Mo_fourAt S.1 mp (56 : Int32)) ((f_Mo_fourAt S.1 mp (56 : Int32)) + (f_Mo_fourAt S.1 mp (68 : Int32))) S)
set_option maxHeartbeats 4000000 in
set_option maxRecDepth 100000 in
theorem c_Mo_notesFit (l : Launch) (D : va_G) (tt : Nat → ClassId) (ad : Nat → Nat) (N : Nat) (A : Nat → Prop) (zs : Nat → Nat) (w0 : Nat → va_E) (q : Nat) (S : cd_Mo × cd_Ia × cd_Ia × cd_Ia) (mp : cd_By) (hR0 : cd_MoAt N tt ad w0 q S.1) (hR1 : cd_IaAt N tt ad w0 (q + 6) 3 S.2.1) (hR2 : cd_IaAt N tt ad w0 (q + 7) 9 S.2.2.1) (hR3 : cd_IaAt N tt ad w0 (q + 8) 72 S.2.2.2) (hR4 : cd_ByAt N tt ad w0 (q + 10) 8192 mp) (ho : o_Mo_notesFit S mp) : Met l y_Mo_notesFit w_Mo_notesFit ({ frames := 3, cells := 0, slots := 0, locals := 69 }) (va_Pc [.ref (ad q)] (cd_U D tt ad N A zs w0)) (va_Qi (fun r w' => (f_Mo_notesFit S mp).1 = r ∧ (r = 0 ∨ r = 1) ∧ cd_MoAt N tt ad w' q ((f_Mo_notesFit S mp).2.1) ∧ cd_IaAt N tt ad w' (q + 6) 3 ((f_Mo_notesFit S mp).2.2.1) ∧ cd_IaAt N tt ad w' (q + 7) 9 ((f_Mo_notesFit S mp).2.2.2.1) ∧ cd_IaAt N tt ad w' (q + 8) 72 ((f_Mo_notesFit S mp).2.2.2.2) ∧ (∀ k : Nat, (k < q ∨ q + 1 ≤ k) ∧ (k < (q + 6) ∨ (q + 6) + 1 ≤ k) ∧ (k < (q + 7) ∨ (q + 7) + 1 ≤ k) ∧ (k < (q + 8) ∨ (q + 8) + 1 ≤ k) → w' k = w0 k)) (fun w' t => cd_P D ad N A w' t.heap) A) 0 0 A := by
  refine Met.ofW (cc := b_Mo_notesFit) (maxL := 4) (ret := (some .boolean)) (by decide) rfl ?_
  intro p e s m args below meth c s₁ B hml hv
  obtain ⟨rfl, hP, hK, hZ⟩ := hv
  have hx := B.exec
  have hb := B.bytes
  have hr := B.returns
  have hA : ∀ w ∈ cd_AW, w.before _ s = true := fun w h => atoms_spec (ws := w_Mo_notesFit) B.pre w (List.mem_cons_of_mem _ h)
  have hown : s.vm.findClass R_Mo = some m.cls := findClass_of_methodNamed B.named
  have hlocks := B.notSynchronized
  have L16 : ∀ (gn : Nat) (x1 : Int32) (x2 : Int32) (S' : cd_Mo × cd_Ia × cd_Ia × cd_Ia) (w : Nat → va_E) (efr : ∀ k : Nat, (k < q ∨ q + 1 ≤ k) ∧ (k < (q + 6) ∨ (q + 6) + 1 ≤ k) ∧ (k < (q + 7) ∨ (q + 7) + 1 ≤ k) ∧ (k < (q + 8) ∨ (q + 8) + 1 ≤ k) → w k = w0 k) (H : Heap) (locs : List Loc) (ls : Array Slot), lv_has ls 4 [(0, .ref (ad q)), (1, .int x1), (2, .int x2)] → (f_Mo_notesFit S mp) = f_Mo_notesFit_L16 S mp gn x1 x2 S' → cd_MoAt N tt ad w q S'.1 → cd_IaAt N tt ad w (q + 6) 3 S'.2.1 → cd_IaAt N tt ad w (q + 7) 9 S'.2.2.1 → cd_IaAt N tt ad w (q + 8) 72 S'.2.2.2 → cd_ByAt N tt ad w (q + 10) 8192 mp → cd_P D ad N A w H → va_S A s.heap H locs → o_Mo_notesFit_L16 S mp gn x1 x2 S' → W p l e (headSpec w_Mo_notesFit ({ frames := 3, cells := 0, slots := 0, locals := 69 })).room s m [.ref (ad q)].toArray below meth c H locs 0 0 (MQ below (va_Qi (fun r w' => (f_Mo_notesFit S mp).1 = r ∧ (r = 0 ∨ r = 1) ∧ cd_MoAt N tt ad w' q ((f_Mo_notesFit S mp).2.1) ∧ cd_IaAt N tt ad w' (q + 6) 3 ((f_Mo_notesFit S mp).2.2.1) ∧ cd_IaAt N tt ad w' (q + 7) 9 ((f_Mo_notesFit S mp).2.2.2.1) ∧ cd_IaAt N tt ad w' (q + 8) 72 ((f_Mo_notesFit S mp).2.2.2.2) ∧ (∀ k : Nat, (k < q ∨ q + 1 ≤ k) ∧ (k < (q + 6) ∨ (q + 6) + 1 ≤ k) ∧ (k < (q + 7) ∨ (q + 7) + 1 ≤ k) ∧ (k < (q + 8) ∨ (q + 8) + 1 ≤ k) → w' k = w0 k)) (fun w' t => cd_P D ad N A w' t.heap) A) [.ref (ad q)].toArray s 0 0 A) (F0 m 16 ls []) := by
    intro gn
    induction gn with
    | zero => intro x1 x2 S' w efr H locs ls hl he hL0 hL1 hL2 hL3 hL4 hP hS ho; exact ho.elim
    | succ gn ih =>
      intro x1 x2 S' w efr H locs ls hl he hL0 hL1 hL2 hL3 hL4 hP hS ho
      have ho : (¬ x2 ≤ x1 → o_Mo_note S' mp x1 x2) ∧ (¬ x2 ≤ x1 → ¬ (f_Mo_note S' mp x1 x2).1 = (-1 : Int32) → o_Mo_notesFit_L16 S mp gn (x1 + (f_Mo_note S' mp x1 x2).1) x2 ((f_Mo_note S' mp x1 x2).2)) := ho
      obtain ⟨hn1, fa2⟩ := hL0
      refine lv_iload_n hx hb d_Mo_notesFit_16 rfl (lv_at hl 1 rfl) ?_
      refine lv_iload_n hx hb d_Mo_notesFit_17 rfl (lv_at hl 2 rfl) ?_
      refine lv_icmp_ge (tgt := 42) hx hb d_Mo_notesFit_18 (by decide) (fun hc3 => ?_) (fun hc3 => ?_)
      · refine lv_iconst (v := (1 : Int32)) hx hb d_Mo_notesFit_42 (by decide) ?_
        have hf4 : (f_Mo_notesFit S mp) = ((1 : Int32), S'.1, S'.2.1, S'.2.2.1, S'.2.2.2) := by rw [he, f_Mo_notesFit_L16, if_pos hc3]
        exact W.zret (ty := .boolean) (v := (1 : Int32)) hx hb hr rfl (fun tE ht _ => ⟨⟨_, w, rfl, ⟨(by rw [hf4]), (Or.inr rfl), (by rw [hf4]; exact ⟨hn1, fa2⟩), (by rw [hf4]; exact hL1), (by rw [hf4]; exact hL2), (by rw [hf4]; exact hL3), (fun k hk => (efr k (by omega)))⟩, cd_Pt ht hP⟩, hS.F ht⟩) hS.2.2 d_Mo_notesFit_43
      · refine lv_aload_n hx hb d_Mo_notesFit_21 rfl (lv_at hl 0 rfl) ?_
        refine lv_iload_n hx hb d_Mo_notesFit_22 rfl (lv_at hl 1 rfl) ?_
        refine lv_iload_n hx hb d_Mo_notesFit_23 rfl (lv_at hl 2 rfl) ?_
        refine va_calli (va_runV (As := [.int x1, .int x2]) (rest := []) ⟨hx, hb, hml, hown, hA⟩ (c_Mo_note l D tt ad N A zs w q S' mp x1 x2 (⟨hn1, fa2⟩) hL1 hL2 hL3 hL4 (ho.1 hc3)) (cwV 2 hA (cd_gV aw_708 aw_709 aw_802 aw_8 aw_710) rfl rfl rfl ⟨rfl, by decide, by decide, by decide +kernel⟩ ⟨Nat.le_of_ble_eq_true rfl, Nat.le_of_ble_eq_true rfl⟩) ⟨cd_blind, cd_recv hK hP (k := q) (by omega) fa2 rfl, fun U hU hW => ⟨rfl, cd_pre hK hP hZ hS U hU hW⟩⟩ rfl rfl hl.1 rfl (lv_room (Nat.le_of_ble_eq_true rfl)) d_Mo_notesFit_24 ⟨Nat.zero_le _, Nat.zero_le _⟩) hS (fun _ _ h => h) (fun _ h => h) (fun r5 w1 tE H locs ht hvm hr6 hP hz1 hk1 hS => ?_)
        have hP := cd_Pf ht hP
        obtain ⟨rfl, at8, at9, at10, at11, e1⟩ := hr6
        have at12 := cd_ByAt_keep hL4 (fun k h1 h2 => e1 k (by omega))
        obtain ⟨hn13, fa14⟩ := at8
        refine lv_istore_n (lv' := [(3, .int ((f_Mo_note S' mp x1 x2).1)), (0, .ref (ad q)), (1, .int x1), (2, .int x2)]) hx hb d_Mo_notesFit_27 rfl hl (by decide) rfl (fun ls hl => ?_)
        refine lv_iload_n hx hb d_Mo_notesFit_28 rfl (lv_at hl 0 rfl) ?_
        refine lv_iconst (v := (-1 : Int32)) hx hb d_Mo_notesFit_29 (by decide) ?_
        refine lv_icmp_ne (tgt := 35) hx hb d_Mo_notesFit_30 (by decide) (fun hc15 => ?_) (fun hc15 => ?_)
        · refine lv_iload_n hx hb d_Mo_notesFit_35 rfl (lv_at hl 2 rfl) ?_
          refine lv_iload_n hx hb d_Mo_notesFit_36 rfl (lv_at hl 0 rfl) ?_
          refine lv_iadd hx hb d_Mo_notesFit_37 ?_
          refine lv_istore_n (lv' := [(1, .int (x1 + (f_Mo_note S' mp x1 x2).1)), (3, .int ((f_Mo_note S' mp x1 x2).1)), (0, .ref (ad q)), (2, .int x2)]) hx hb d_Mo_notesFit_38 rfl hl (by decide) rfl (fun ls hl => ?_)
          refine lv_goto (tgt := 16) hx hb d_Mo_notesFit_39 (by decide) ?_
          exact ih (x1 + (f_Mo_note S' mp x1 x2).1) x2 ((f_Mo_note S' mp x1 x2).2) w1 (fun k hk => ((e1 k (by omega)).trans (efr k (by omega)))) H locs ls (lv_sub hl [2, 0, 3] rfl) (show (f_Mo_notesFit S mp) = f_Mo_notesFit_L16 S mp gn (x1 + (f_Mo_note S' mp x1 x2).1) x2 ((f_Mo_note S' mp x1 x2).2) by rw [he, f_Mo_notesFit_L16, if_neg hc3, if_neg hc15]) (⟨hn13, fa14⟩) at9 at10 at11 at12 hP hS (ho.2 hc3 hc15)
        · refine lv_iconst (v := (0 : Int32)) hx hb d_Mo_notesFit_33 (by decide) ?_
          have hf16 : (f_Mo_notesFit S mp) = ((0 : Int32), (f_Mo_note S' mp x1 x2).2.1, (f_Mo_note S' mp x1 x2).2.2.1, (f_Mo_note S' mp x1 x2).2.2.2.1, (f_Mo_note S' mp x1 x2).2.2.2.2) := by rw [he, f_Mo_notesFit_L16, if_neg hc3, if_pos hc15]
          exact W.zret (ty := .boolean) (v := (0 : Int32)) hx hb hr rfl (fun tE ht _ => ⟨⟨_, w1, rfl, ⟨(by rw [hf16]), (Or.inl rfl), (by rw [hf16]; exact ⟨hn13, fa14⟩), (by rw [hf16]; exact at9), (by rw [hf16]; exact at10), (by rw [hf16]; exact at11), (fun k hk => ((e1 k (by omega)).trans (efr k (by omega))))⟩, cd_Pt ht hP⟩, hS.F ht⟩) hS.2.2 d_Mo_notesFit_34
  have hS : va_S A s.heap s.heap [] := va_S.rf
  have hl := lv_entry ([.ref (ad q)]) (n := 4) (Nat.le_of_ble_eq_true rfl)
  rw [lg_entry_eq]
  generalize (lg_sl ([.ref (ad q)]) ++ List.replicate (4 - (lg_sl ([.ref (ad q)])).length) Slot.unset).toArray = ls at hl ⊢
  have hl : lv_has ls 4 [(0, .ref (ad q))] := hl
  have ho : (o_Mo_fourAt S.1 mp (56 : Int32)) ∧ (o_Mo_fourAt S.1 mp (68 : Int32)) ∧ (o_Mo_notesFit_L16 S mp 500 (f_Mo_fourAt S.1 mp (56 : Int32)) ((f_Mo_fourAt S.1 mp (56 : Int32)) + (f_Mo_fourAt S.1 mp (68 : Int32))) S) := ho
  obtain ⟨hn17, fa18⟩ := hR0
  refine lv_aload_n hx hb d_Mo_notesFit_0 rfl (lv_at hl 0 rfl) ?_
  refine lv_bipush (v := (56 : Int32)) hx hb d_Mo_notesFit_1 (by decide) ?_
  refine va_calli (va_runV (As := [.int (56 : Int32)]) (rest := []) ⟨hx, hb, hml, hown, hA⟩ (c_Mo_fourAt l D tt ad N A zs w0 q S.1 mp (56 : Int32) (⟨hn17, fa18⟩) hR4 (ho.1)) (cwV 1 hA (cd_gV aw_699 aw_700 aw_800 aw_8 aw_701) rfl rfl rfl ⟨rfl, by decide, by decide, by decide +kernel⟩ ⟨Nat.le_of_ble_eq_true rfl, Nat.le_of_ble_eq_true rfl⟩) ⟨cd_blind, cd_recv hK hP (k := q) (by omega) fa18 rfl, fun U hU hW => ⟨rfl, cd_pre hK hP hZ hS U hU hW⟩⟩ rfl rfl hl.1 rfl (lv_room (Nat.le_of_ble_eq_true rfl)) d_Mo_notesFit_3 ⟨Nat.zero_le _, Nat.zero_le _⟩) hS (fun _ _ h => h) (fun _ h => h) (fun r19 w2 tE H locs ht hvm hr20 hP hz1 hk1 hS => ?_)
  have hP := cd_Pf ht hP
  obtain ⟨rfl, rfl⟩ := hr20
  refine lv_istore_n (lv' := [(1, .int (f_Mo_fourAt S.1 mp (56 : Int32))), (0, .ref (ad q))]) hx hb d_Mo_notesFit_6 rfl hl (by decide) rfl (fun ls hl => ?_)
  refine lv_iload_n hx hb d_Mo_notesFit_7 rfl (lv_at hl 0 rfl) ?_
  refine lv_aload_n hx hb d_Mo_notesFit_8 rfl (lv_at hl 1 rfl) ?_
  refine lv_bipush (v := (68 : Int32)) hx hb d_Mo_notesFit_9 (by decide) ?_
  refine va_calli (va_runV (As := [.int (68 : Int32)]) (rest := [.int (f_Mo_fourAt S.1 mp (56 : Int32))]) ⟨hx, hb, hml, hown, hA⟩ (c_Mo_fourAt l D tt ad N A zs w0 q S.1 mp (68 : Int32) (⟨hn17, fa18⟩) hR4 (ho.2.1)) (cwV 1 hA (cd_gV aw_699 aw_700 aw_800 aw_8 aw_701) rfl rfl rfl ⟨rfl, by decide, by decide, by decide +kernel⟩ ⟨Nat.le_of_ble_eq_true rfl, Nat.le_of_ble_eq_true rfl⟩) ⟨cd_blind, cd_recv hK hP (k := q) (by omega) fa18 rfl, fun U hU hW => ⟨rfl, cd_pre hK hP hZ hS U hU hW⟩⟩ rfl rfl hl.1 rfl (lv_room (Nat.le_of_ble_eq_true rfl)) d_Mo_notesFit_11 ⟨Nat.zero_le _, Nat.zero_le _⟩) hS (fun _ _ h => h) (fun _ h => h) (fun r22 w3 tE H locs ht hvm hr23 hP hz1 hk1 hS => ?_)
  have hP := cd_Pf ht hP
  obtain ⟨rfl, rfl⟩ := hr23
  refine lv_iadd hx hb d_Mo_notesFit_14 ?_
  refine lv_istore_n (lv' := [(2, .int ((f_Mo_fourAt S.1 mp (56 : Int32)) + (f_Mo_fourAt S.1 mp (68 : Int32)))), (1, .int (f_Mo_fourAt S.1 mp (56 : Int32))), (0, .ref (ad q))]) hx hb d_Mo_notesFit_15 rfl hl (by decide) rfl (fun ls hl => ?_)
  exact L16 500 (f_Mo_fourAt S.1 mp (56 : Int32)) ((f_Mo_fourAt S.1 mp (56 : Int32)) + (f_Mo_fourAt S.1 mp (68 : Int32))) S w0 (fun _ _ => rfl) H locs ls (lv_sub hl [2, 1, 0] rfl) (show (f_Mo_notesFit S mp) = f_Mo_notesFit_L16 S mp 500 (f_Mo_fourAt S.1 mp (56 : Int32)) ((f_Mo_fourAt S.1 mp (56 : Int32)) + (f_Mo_fourAt S.1 mp (68 : Int32))) S by rw [f_Mo_notesFit]) (⟨hn17, fa18⟩) hR1 hR2 hR3 hR4 hP hS (ho.2.2)
