def f_Mo_error (u : cd_Mo) (k0 : Int32) : Int32 × cd_Mo := (if k0 = 0 then (u.2.2.2.2.1, ((0 : Int32), u.2.1, u.2.2.1, u.2.2.2.1, u.2.2.2.2.1, u.2.2.2.2.2)) else (if k0 = (1 : Int32) then (u.2.2.2.2.2, ((0 : Int32), u.2.1, u.2.2.1, u.2.2.2.1, u.2.2.2.2.1, u.2.2.2.2.2)) else ((0 : Int32), ((0 : Int32), u.2.1, u.2.2.1, u.2.2.2.1, u.2.2.2.2.1, u.2.2.2.2.2))))
set_option maxHeartbeats 4000000 in
set_option maxRecDepth 100000 in
theorem c_Mo_error (l : Launch) (D : va_G) (tt : Nat → ClassId) (ad : Nat → Nat) (N : Nat) (A : Nat → Prop) (zs : Nat → Nat) (w0 : Nat → va_E) (q : Nat) (u : cd_Mo) (k0 : Int32) (hR0 : cd_MoAt N tt ad w0 q u) : Met l y_Mo_error w_Mo_error ({ frames := 0, cells := 0, slots := 0, locals := 0 }) (va_Pc [.ref (ad q), .int k0] (cd_U D tt ad N A zs w0)) (va_Qi (fun r w' => (f_Mo_error u k0).1 = r ∧ cd_MoAt N tt ad w' q ((f_Mo_error u k0).2) ∧ (∀ k : Nat, (k < q ∨ q + 1 ≤ k) → w' k = w0 k)) (fun w' t => cd_P D ad N A w' t.heap) A) 0 0 A := by
  refine Met.ofW (cc := b_Mo_error) (maxL := 2) (ret := (some .int)) (by decide) rfl ?_
  intro p e s m args below meth c s₁ B hml hv
  obtain ⟨rfl, hP, hK, hZ⟩ := hv
  have hx := B.exec
  have hb := B.bytes
  have hr := B.returns
  have hA : ∀ w ∈ cd_AW, w.before _ s = true := fun w h => atoms_spec (ws := w_Mo_error) B.pre w (List.mem_cons_of_mem _ h)
  have hown : s.vm.findClass R_Mo = some m.cls := findClass_of_methodNamed B.named
  have hlocks := B.notSynchronized
  have hS : va_S A s.heap s.heap [] := va_S.rf
  have hl := lv_entry ([.ref (ad q), .int k0]) (n := 2) (Nat.le_of_ble_eq_true rfl)
  rw [lg_entry_eq]
  generalize (lg_sl ([.ref (ad q), .int k0]) ++ List.replicate (2 - (lg_sl ([.ref (ad q), .int k0])).length) Slot.unset).toArray = ls at hl ⊢
  have hl : lv_has ls 2 [(0, .ref (ad q)), (1, .int k0)] := hl
  obtain ⟨hn1, fa2⟩ := hR0
  refine lv_aload_n hx hb d_Mo_error_0 rfl (lv_at hl 0 rfl) ?_
  refine lv_iconst (v := (0 : Int32)) hx hb d_Mo_error_1 (by decide) ?_
  refine g_put (ci := 7) (C := R_Mo) (T := F_Mo) (Nf := 16) (v := .int (0 : Int32)) (ty := .int) hx hb hA in_Mo t_Mo t_Mo_ok n_Mo hown hK hP hS (k := q) (by omega) fa2 rfl 0 (by decide) (hA _ aw_560) (fun _ h9 => h9) rfl (by decide +kernel) rfl rfl (Nat.le_of_ble_eq_true rfl) d_Mo_error_2 (fun H locs w1 fa3 e1 hP hS => ?_)
  have fa3 : w1 q = .inr (7, [.int (0 : Int32), .ref (ad (q + 1)), .ref (ad (q + 2)), .ref (ad (q + 3)), .ref (ad (q + 4)), .ref (ad (q + 5)), .ref (ad (q + 6)), .ref (ad (q + 7)), .ref (ad (q + 8)), .ref (ad (q + 9)), .int u.2.1, .ref (ad (q + 10)), .int u.2.2.1, .int u.2.2.2.1, .int u.2.2.2.2.1, .int u.2.2.2.2.2]) := fa3
  refine lv_iload_n hx hb d_Mo_error_5 rfl (lv_at hl 1 rfl) ?_
  refine lv_if_ne (tgt := 16) hx hb d_Mo_error_6 (by decide) (fun hc4 => ?_) (fun hc4 => ?_)
  · refine lv_iload_n hx hb d_Mo_error_16 rfl (lv_at hl 1 rfl) ?_
    refine lv_iconst (v := (1 : Int32)) hx hb d_Mo_error_17 (by decide) ?_
    refine lv_icmp_ne (tgt := 28) hx hb d_Mo_error_18 (by decide) (fun hc5 => ?_) (fun hc5 => ?_)
    · refine lv_iconst (v := (0 : Int32)) hx hb d_Mo_error_28 (by decide) ?_
      have hf6 : (f_Mo_error u k0) = ((0 : Int32), ((0 : Int32), u.2.1, u.2.2.1, u.2.2.2.1, u.2.2.2.2.1, u.2.2.2.2.2)) := by rw [f_Mo_error, if_neg hc4, if_neg hc5]
      exact W.iret (v := (0 : Int32)) hx hb hr (fun tE ht _ => ⟨⟨_, w1, rfl, ⟨(by rw [hf6]), (by rw [hf6]; exact ⟨hn1, fa3⟩), (fun k hk => (e1 k (by omega)))⟩, cd_Pt ht hP⟩, hS.F ht⟩) hS.2.2 d_Mo_error_29
    · refine lv_aload_n hx hb d_Mo_error_21 rfl (lv_at hl 0 rfl) ?_
      refine g_get (ci := 7) (C := R_Mo) (T := F_Mo) (Nf := 16) (v := .int u.2.2.2.2.2) hx hb hA in_Mo hown hK hP (k := q) (by omega) fa3 rfl 15 (by decide) (hA _ aw_575) (fun _ h9 => h9) rfl d_Mo_error_22 ?_
      refine lv_goto (tgt := 29) hx hb d_Mo_error_25 (by decide) ?_
      have hf7 : (f_Mo_error u k0) = (u.2.2.2.2.2, ((0 : Int32), u.2.1, u.2.2.1, u.2.2.2.1, u.2.2.2.2.1, u.2.2.2.2.2)) := by rw [f_Mo_error, if_neg hc4, if_pos hc5]
      exact W.iret (v := u.2.2.2.2.2) hx hb hr (fun tE ht _ => ⟨⟨_, w1, rfl, ⟨(by rw [hf7]), (by rw [hf7]; exact ⟨hn1, fa3⟩), (fun k hk => (e1 k (by omega)))⟩, cd_Pt ht hP⟩, hS.F ht⟩) hS.2.2 d_Mo_error_29
  · refine lv_aload_n hx hb d_Mo_error_9 rfl (lv_at hl 0 rfl) ?_
    refine g_get (ci := 7) (C := R_Mo) (T := F_Mo) (Nf := 16) (v := .int u.2.2.2.2.1) hx hb hA in_Mo hown hK hP (k := q) (by omega) fa3 rfl 14 (by decide) (hA _ aw_574) (fun _ h9 => h9) rfl d_Mo_error_10 ?_
    refine lv_goto (tgt := 29) hx hb d_Mo_error_13 (by decide) ?_
    have hf8 : (f_Mo_error u k0) = (u.2.2.2.2.1, ((0 : Int32), u.2.1, u.2.2.1, u.2.2.2.1, u.2.2.2.2.1, u.2.2.2.2.2)) := by rw [f_Mo_error, if_pos hc4]
    exact W.iret (v := u.2.2.2.2.1) hx hb hr (fun tE ht _ => ⟨⟨_, w1, rfl, ⟨(by rw [hf8]), (by rw [hf8]; exact ⟨hn1, fa3⟩), (fun k hk => (e1 k (by omega)))⟩, cd_Pt ht hP⟩, hS.F ht⟩) hS.2.2 d_Mo_error_29
def f_Mo_core (u : cd_Mo) (mr : cd_Ia) (mt : cd_Ia) (k0 : Int32) : Int32 × cd_Mo := (if u.2.2.2.1 = 0 then ((-1 : Int32), ((0 : Int32), u.2.1, u.2.2.1, u.2.2.2.1, u.2.2.2.2.1, u.2.2.2.2.2)) else (if k0 = 0 then ((mr (1 : Int32).toNatClampNeg), ((0 : Int32), u.2.1, u.2.2.1, u.2.2.2.1, u.2.2.2.2.1, u.2.2.2.2.2)) else (if k0 = (1 : Int32) then ((mt (1 : Int32).toNatClampNeg), ((0 : Int32), u.2.1, u.2.2.1, u.2.2.2.1, u.2.2.2.2.1, u.2.2.2.2.2)) else ((-1 : Int32), ((0 : Int32), u.2.1, u.2.2.1, u.2.2.2.1, u.2.2.2.2.1, u.2.2.2.2.2)))))
def o_Mo_core (u : cd_Mo) (mr : cd_Ia) (mt : cd_Ia) (k0 : Int32) : Prop := (¬ u.2.2.2.1 = 0 → ¬ k0 = 0 → k0 = (1 : Int32) → vp_in (1 : Int32) 3) ∧ (¬ u.2.2.2.1 = 0 → k0 = 0 → vp_in (1 : Int32) 3)
set_option maxHeartbeats 4000000 in
set_option maxRecDepth 100000 in
theorem c_Mo_core (l : Launch) (D : va_G) (tt : Nat → ClassId) (ad : Nat → Nat) (N : Nat) (A : Nat → Prop) (zs : Nat → Nat) (w0 : Nat → va_E) (q : Nat) (u : cd_Mo) (mr : cd_Ia) (mt : cd_Ia) (k0 : Int32) (hR0 : cd_MoAt N tt ad w0 q u) (hR1 : cd_IaAt N tt ad w0 (q + 5) 3 mr) (hR2 : cd_IaAt N tt ad w0 (q + 6) 3 mt) (ho : o_Mo_core u mr mt k0) : Met l y_Mo_core w_Mo_core ({ frames := 0, cells := 0, slots := 0, locals := 0 }) (va_Pc [.ref (ad q), .int k0] (cd_U D tt ad N A zs w0)) (va_Qi (fun r w' => (f_Mo_core u mr mt k0).1 = r ∧ cd_MoAt N tt ad w' q ((f_Mo_core u mr mt k0).2) ∧ (∀ k : Nat, (k < q ∨ q + 1 ≤ k) → w' k = w0 k)) (fun w' t => cd_P D ad N A w' t.heap) A) 0 0 A := by
  refine Met.ofW (cc := b_Mo_core) (maxL := 2) (ret := (some .int)) (by decide) rfl ?_
  intro p e s m args below meth c s₁ B hml hv
  obtain ⟨rfl, hP, hK, hZ⟩ := hv
  have hx := B.exec
  have hb := B.bytes
  have hr := B.returns
  have hA : ∀ w ∈ cd_AW, w.before _ s = true := fun w h => atoms_spec (ws := w_Mo_core) B.pre w (List.mem_cons_of_mem _ h)
  have hown : s.vm.findClass R_Mo = some m.cls := findClass_of_methodNamed B.named
  have hlocks := B.notSynchronized
  have hS : va_S A s.heap s.heap [] := va_S.rf
  have hl := lv_entry ([.ref (ad q), .int k0]) (n := 2) (Nat.le_of_ble_eq_true rfl)
  rw [lg_entry_eq]
  generalize (lg_sl ([.ref (ad q), .int k0]) ++ List.replicate (2 - (lg_sl ([.ref (ad q), .int k0])).length) Slot.unset).toArray = ls at hl ⊢
  have hl : lv_has ls 2 [(0, .ref (ad q)), (1, .int k0)] := hl
  have ho : (¬ u.2.2.2.1 = 0 → ¬ k0 = 0 → k0 = (1 : Int32) → vp_in (1 : Int32) 3) ∧ (¬ u.2.2.2.1 = 0 → k0 = 0 → vp_in (1 : Int32) 3) := ho
  obtain ⟨hn1, fa2⟩ := hR0
  refine lv_aload_n hx hb d_Mo_core_0 rfl (lv_at hl 0 rfl) ?_
  refine lv_iconst (v := (0 : Int32)) hx hb d_Mo_core_1 (by decide) ?_
  refine g_put (ci := 7) (C := R_Mo) (T := F_Mo) (Nf := 16) (v := .int (0 : Int32)) (ty := .int) hx hb hA in_Mo t_Mo t_Mo_ok n_Mo hown hK hP hS (k := q) (by omega) fa2 rfl 0 (by decide) (hA _ aw_560) (fun _ h9 => h9) rfl (by decide +kernel) rfl rfl (Nat.le_of_ble_eq_true rfl) d_Mo_core_2 (fun H locs w1 fa3 e1 hP hS => ?_)
  have fa3 : w1 q = .inr (7, [.int (0 : Int32), .ref (ad (q + 1)), .ref (ad (q + 2)), .ref (ad (q + 3)), .ref (ad (q + 4)), .ref (ad (q + 5)), .ref (ad (q + 6)), .ref (ad (q + 7)), .ref (ad (q + 8)), .ref (ad (q + 9)), .int u.2.1, .ref (ad (q + 10)), .int u.2.2.1, .int u.2.2.2.1, .int u.2.2.2.2.1, .int u.2.2.2.2.2]) := fa3
  have at4 := cd_IaAt_keep hR1 (fun k h1 h2 => e1 k (by omega))
  have at5 := cd_IaAt_keep hR2 (fun k h1 h2 => e1 k (by omega))
  refine lv_aload_n hx hb d_Mo_core_5 rfl (lv_at hl 0 rfl) ?_
  refine g_get (ci := 7) (C := R_Mo) (T := F_Mo) (Nf := 16) (v := .int u.2.2.2.1) hx hb hA in_Mo hown hK hP (k := q) (by omega) fa3 rfl 13 (by decide) (hA _ aw_573) (fun _ h9 => h9) rfl d_Mo_core_6 ?_
  refine lv_if_ne (tgt := 16) hx hb d_Mo_core_9 (by decide) (fun hc6 => ?_) (fun hc6 => ?_)
  · refine lv_iload_n hx hb d_Mo_core_16 rfl (lv_at hl 1 rfl) ?_
    refine lv_if_ne (tgt := 29) hx hb d_Mo_core_17 (by decide) (fun hc7 => ?_) (fun hc7 => ?_)
    · refine lv_iload_n hx hb d_Mo_core_29 rfl (lv_at hl 1 rfl) ?_
      refine lv_iconst (v := (1 : Int32)) hx hb d_Mo_core_30 (by decide) ?_
      refine lv_icmp_ne (tgt := 43) hx hb d_Mo_core_31 (by decide) (fun hc8 => ?_) (fun hc8 => ?_)
      · refine lv_iconst (v := (-1 : Int32)) hx hb d_Mo_core_43 (by decide) ?_
        have hf9 : (f_Mo_core u mr mt k0) = ((-1 : Int32), ((0 : Int32), u.2.1, u.2.2.1, u.2.2.2.1, u.2.2.2.2.1, u.2.2.2.2.2)) := by rw [f_Mo_core, if_neg hc6, if_neg hc7, if_neg hc8]
        exact W.iret (v := (-1 : Int32)) hx hb hr (fun tE ht _ => ⟨⟨_, w1, rfl, ⟨(by rw [hf9]), (by rw [hf9]; exact ⟨hn1, fa3⟩), (fun k hk => (e1 k (by omega)))⟩, cd_Pt ht hP⟩, hS.F ht⟩) hS.2.2 d_Mo_core_44
      · refine lv_aload_n hx hb d_Mo_core_34 rfl (lv_at hl 0 rfl) ?_
        refine g_get (ci := 7) (C := R_Mo) (T := F_Mo) (Nf := 16) (v := .ref (ad (q + 6))) hx hb hA in_Mo hown hK hP (k := q) (by omega) fa3 rfl 6 (by decide) (hA _ aw_566) (fun _ h9 => h9) rfl d_Mo_core_35 ?_
        refine lv_iconst (v := (1 : Int32)) hx hb d_Mo_core_38 (by decide) ?_
        obtain ⟨hn10, fa11⟩ := at5
        refine g_iald hx hb hK hP (k := (q + 6)) (by omega) fa11 rfl (ho.1 hc6 hc7 hc8) d_Mo_core_39 ?_
        refine lv_goto (tgt := 44) hx hb d_Mo_core_40 (by decide) ?_
        have hf12 : (f_Mo_core u mr mt k0) = ((mt (1 : Int32).toNatClampNeg), ((0 : Int32), u.2.1, u.2.2.1, u.2.2.2.1, u.2.2.2.2.1, u.2.2.2.2.2)) := by rw [f_Mo_core, if_neg hc6, if_neg hc7, if_pos hc8]
        exact W.iret (v := (mt (1 : Int32).toNatClampNeg)) hx hb hr (fun tE ht _ => ⟨⟨_, w1, rfl, ⟨(by rw [hf12]), (by rw [hf12]; exact ⟨hn1, fa3⟩), (fun k hk => (e1 k (by omega)))⟩, cd_Pt ht hP⟩, hS.F ht⟩) hS.2.2 d_Mo_core_44
    · refine lv_aload_n hx hb d_Mo_core_20 rfl (lv_at hl 0 rfl) ?_
      refine g_get (ci := 7) (C := R_Mo) (T := F_Mo) (Nf := 16) (v := .ref (ad (q + 5))) hx hb hA in_Mo hown hK hP (k := q) (by omega) fa3 rfl 5 (by decide) (hA _ aw_565) (fun _ h9 => h9) rfl d_Mo_core_21 ?_
      refine lv_iconst (v := (1 : Int32)) hx hb d_Mo_core_24 (by decide) ?_
      obtain ⟨hn13, fa14⟩ := at4
      refine g_iald hx hb hK hP (k := (q + 5)) (by omega) fa14 rfl (ho.2 hc6 hc7) d_Mo_core_25 ?_
      refine lv_goto (tgt := 44) hx hb d_Mo_core_26 (by decide) ?_
      have hf15 : (f_Mo_core u mr mt k0) = ((mr (1 : Int32).toNatClampNeg), ((0 : Int32), u.2.1, u.2.2.1, u.2.2.2.1, u.2.2.2.2.1, u.2.2.2.2.2)) := by rw [f_Mo_core, if_neg hc6, if_pos hc7]
      exact W.iret (v := (mr (1 : Int32).toNatClampNeg)) hx hb hr (fun tE ht _ => ⟨⟨_, w1, rfl, ⟨(by rw [hf15]), (by rw [hf15]; exact ⟨hn1, fa3⟩), (fun k hk => (e1 k (by omega)))⟩, cd_Pt ht hP⟩, hS.F ht⟩) hS.2.2 d_Mo_core_44
  · refine lv_iconst (v := (-1 : Int32)) hx hb d_Mo_core_12 (by decide) ?_
    refine lv_goto (tgt := 44) hx hb d_Mo_core_13 (by decide) ?_
    have hf16 : (f_Mo_core u mr mt k0) = ((-1 : Int32), ((0 : Int32), u.2.1, u.2.2.1, u.2.2.2.1, u.2.2.2.2.1, u.2.2.2.2.2)) := by rw [f_Mo_core, if_pos hc6]
    exact W.iret (v := (-1 : Int32)) hx hb hr (fun tE ht _ => ⟨⟨_, w1, rfl, ⟨(by rw [hf16]), (by rw [hf16]; exact ⟨hn1, fa3⟩), (fun k hk => (e1 k (by omega)))⟩, cd_Pt ht hP⟩, hS.F ht⟩) hS.2.2 d_Mo_core_44
def f_Mo_peek (u : cd_Mo) (ma : cd_Ia) (ms : cd_Ia) (mb : cd_By) (mr : cd_Ia) (k0 : Int32) : Int32 × cd_Mo := ((f_Mo_byteOf ((0 : Int32), u.2.1, u.2.2.1, u.2.2.2.1, u.2.2.2.2.1, u.2.2.2.2.2) ma ms mb mr (1 : Int32) k0.toInt64), ((0 : Int32), u.2.1, u.2.2.1, u.2.2.2.1, u.2.2.2.2.1, u.2.2.2.2.2))
def o_Mo_peek (u : cd_Mo) (ma : cd_Ia) (ms : cd_Ia) (mb : cd_By) (mr : cd_Ia) (k0 : Int32) : Prop := (o_Mo_byteOf ((0 : Int32), u.2.1, u.2.2.1, u.2.2.2.1, u.2.2.2.2.1, u.2.2.2.2.2) ma ms mb mr (1 : Int32) k0.toInt64)
set_option maxHeartbeats 4000000 in
set_option maxRecDepth 100000 in
theorem c_Mo_peek (l : Launch) (D : va_G) (tt : Nat → ClassId) (ad : Nat → Nat) (N : Nat) (A : Nat → Prop) (zs : Nat → Nat) (w0 : Nat → va_E) (q : Nat) (u : cd_Mo) (ma : cd_Ia) (ms : cd_Ia) (mb : cd_By) (mr : cd_Ia) (k0 : Int32) (hR0 : cd_MoAt N tt ad w0 q u) (hR1 : cd_IaAt N tt ad w0 (q + 1) 18 ma) (hR2 : cd_IaAt N tt ad w0 (q + 2) 18 ms) (hR3 : cd_ByAt N tt ad w0 (q + 4) 18432 mb) (hR4 : cd_IaAt N tt ad w0 (q + 5) 3 mr) (ho : o_Mo_peek u ma ms mb mr k0) : Met l y_Mo_peek w_Mo_peek ({ frames := 2, cells := 0, slots := 0, locals := 48 }) (va_Pc [.ref (ad q), .int k0] (cd_U D tt ad N A zs w0)) (va_Qi (fun r w' => (f_Mo_peek u ma ms mb mr k0).1 = r ∧ cd_MoAt N tt ad w' q ((f_Mo_peek u ma ms mb mr k0).2) ∧ (∀ k : Nat, (k < q ∨ q + 1 ≤ k) → w' k = w0 k)) (fun w' t => cd_P D ad N A w' t.heap) A) 0 0 A := by
  refine Met.ofW (cc := b_Mo_peek) (maxL := 2) (ret := (some .int)) (by decide) rfl ?_
  intro p e s m args below meth c s₁ B hml hv
  obtain ⟨rfl, hP, hK, hZ⟩ := hv
  have hx := B.exec
  have hb := B.bytes
  have hr := B.returns
  have hA : ∀ w ∈ cd_AW, w.before _ s = true := fun w h => atoms_spec (ws := w_Mo_peek) B.pre w (List.mem_cons_of_mem _ h)
  have hown : s.vm.findClass R_Mo = some m.cls := findClass_of_methodNamed B.named
  have hlocks := B.notSynchronized
  have hS : va_S A s.heap s.heap [] := va_S.rf
  have hl := lv_entry ([.ref (ad q), .int k0]) (n := 2) (Nat.le_of_ble_eq_true rfl)
  rw [lg_entry_eq]
  generalize (lg_sl ([.ref (ad q), .int k0]) ++ List.replicate (2 - (lg_sl ([.ref (ad q), .int k0])).length) Slot.unset).toArray = ls at hl ⊢
  have hl : lv_has ls 2 [(0, .ref (ad q)), (1, .int k0)] := hl
  have ho : (o_Mo_byteOf ((0 : Int32), u.2.1, u.2.2.1, u.2.2.2.1, u.2.2.2.2.1, u.2.2.2.2.2) ma ms mb mr (1 : Int32) k0.toInt64) := ho
  obtain ⟨hn1, fa2⟩ := hR0
  refine lv_aload_n hx hb d_Mo_peek_0 rfl (lv_at hl 0 rfl) ?_
  refine lv_iconst (v := (0 : Int32)) hx hb d_Mo_peek_1 (by decide) ?_
  refine g_put (ci := 7) (C := R_Mo) (T := F_Mo) (Nf := 16) (v := .int (0 : Int32)) (ty := .int) hx hb hA in_Mo t_Mo t_Mo_ok n_Mo hown hK hP hS (k := q) (by omega) fa2 rfl 0 (by decide) (hA _ aw_560) (fun _ h9 => h9) rfl (by decide +kernel) rfl rfl (Nat.le_of_ble_eq_true rfl) d_Mo_peek_2 (fun H locs w1 fa3 e1 hP hS => ?_)
  have fa3 : w1 q = .inr (7, [.int (0 : Int32), .ref (ad (q + 1)), .ref (ad (q + 2)), .ref (ad (q + 3)), .ref (ad (q + 4)), .ref (ad (q + 5)), .ref (ad (q + 6)), .ref (ad (q + 7)), .ref (ad (q + 8)), .ref (ad (q + 9)), .int u.2.1, .ref (ad (q + 10)), .int u.2.2.1, .int u.2.2.2.1, .int u.2.2.2.2.1, .int u.2.2.2.2.2]) := fa3
  have at4 := cd_IaAt_keep hR1 (fun k h1 h2 => e1 k (by omega))
  have at5 := cd_IaAt_keep hR2 (fun k h1 h2 => e1 k (by omega))
  have at6 := cd_ByAt_keep hR3 (fun k h1 h2 => e1 k (by omega))
  have at7 := cd_IaAt_keep hR4 (fun k h1 h2 => e1 k (by omega))
  refine lv_aload_n hx hb d_Mo_peek_5 rfl (lv_at hl 0 rfl) ?_
  refine lv_iconst (v := (1 : Int32)) hx hb d_Mo_peek_6 (by decide) ?_
  refine lv_iload_n hx hb d_Mo_peek_7 rfl (lv_at hl 1 rfl) ?_
  refine lv_i2l hx hb d_Mo_peek_8 rfl ?_
  refine va_calli (va_runV (As := [.int (1 : Int32), .long k0.toInt64]) (rest := []) ⟨hx, hb, hml, hown, hA⟩ (c_Mo_byteOf l D tt ad N A zs w1 q ((0 : Int32), u.2.1, u.2.2.1, u.2.2.2.1, u.2.2.2.2.1, u.2.2.2.2.2) ma ms mb mr (1 : Int32) k0.toInt64 (⟨hn1, fa3⟩) at4 at5 at6 at7 (ho)) (cwV 2 hA (cd_gV aw_732 aw_733 aw_804 aw_8 aw_734) rfl rfl rfl ⟨rfl, by decide, by decide, by decide +kernel⟩ ⟨Nat.le_of_ble_eq_true rfl, Nat.le_of_ble_eq_true rfl⟩) ⟨cd_blind, cd_recv hK hP (k := q) (by omega) fa3 rfl, fun U hU hW => ⟨rfl, cd_pre hK hP hZ hS U hU hW⟩⟩ rfl rfl hl.1 rfl (lv_room (Nat.le_of_ble_eq_true rfl)) d_Mo_peek_9 ⟨Nat.zero_le _, Nat.zero_le _⟩) hS (fun _ _ h => h) (fun _ h => h) (fun r8 w2 tE H locs ht hvm hr9 hP hz1 hk1 hS => ?_)
  have hP := cd_Pf ht hP
  obtain ⟨rfl, rfl⟩ := hr9
  have hf11 : (f_Mo_peek u ma ms mb mr k0) = ((f_Mo_byteOf ((0 : Int32), u.2.1, u.2.2.1, u.2.2.2.1, u.2.2.2.2.1, u.2.2.2.2.2) ma ms mb mr (1 : Int32) k0.toInt64), ((0 : Int32), u.2.1, u.2.2.1, u.2.2.2.1, u.2.2.2.2.1, u.2.2.2.2.2)) := by rw [f_Mo_peek]
  exact W.iret (v := (f_Mo_byteOf ((0 : Int32), u.2.1, u.2.2.1, u.2.2.2.1, u.2.2.2.2.1, u.2.2.2.2.2) ma ms mb mr (1 : Int32) k0.toInt64)) hx hb hr (fun tE ht _ => ⟨⟨_, w1, rfl, ⟨(by rw [hf11]), (by rw [hf11]; exact ⟨hn1, fa3⟩), (fun k hk => (e1 k (by omega)))⟩, cd_Pt ht hP⟩, hS.F ht⟩) hS.2.2 d_Mo_peek_12
def f_Mo_flags (u : cd_Mo) (ma : cd_Ia) (ms : cd_Ia) (mf : cd_Ia) (mr : cd_Ia) (k0 : Int32) : Int32 × cd_Mo := (if (f_Mo_within ((0 : Int32), u.2.1, u.2.2.1, u.2.2.2.1, u.2.2.2.2.1, u.2.2.2.2.2) ma ms mr (1 : Int32) k0.toInt64) = (-1 : Int32) then ((-1 : Int32), ((0 : Int32), u.2.1, u.2.2.1, u.2.2.2.1, u.2.2.2.2.1, u.2.2.2.2.2)) else ((mf (f_Mo_within ((0 : Int32), u.2.1, u.2.2.1, u.2.2.2.1, u.2.2.2.2.1, u.2.2.2.2.2) ma ms mr (1 : Int32) k0.toInt64).toNatClampNeg), ((0 : Int32), u.2.1, u.2.2.1, u.2.2.2.1, u.2.2.2.2.1, u.2.2.2.2.2)))
def o_Mo_flags (u : cd_Mo) (ma : cd_Ia) (ms : cd_Ia) (mf : cd_Ia) (mr : cd_Ia) (k0 : Int32) : Prop := (o_Mo_within ((0 : Int32), u.2.1, u.2.2.1, u.2.2.2.1, u.2.2.2.2.1, u.2.2.2.2.2) ma ms mr (1 : Int32) k0.toInt64) ∧ (¬ (f_Mo_within ((0 : Int32), u.2.1, u.2.2.1, u.2.2.2.1, u.2.2.2.2.1, u.2.2.2.2.2) ma ms mr (1 : Int32) k0.toInt64) = (-1 : Int32) → vp_in (f_Mo_within ((0 : Int32), u.2.1, u.2.2.1, u.2.2.2.1, u.2.2.2.2.1, u.2.2.2.2.2) ma ms mr (1 : Int32) k0.toInt64) 18)
set_option maxHeartbeats 4000000 in
set_option maxRecDepth 100000 in
theorem c_Mo_flags (l : Launch) (D : va_G) (tt : Nat → ClassId) (ad : Nat → Nat) (N : Nat) (A : Nat → Prop) (zs : Nat → Nat) (w0 : Nat → va_E) (q : Nat) (u : cd_Mo) (ma : cd_Ia) (ms : cd_Ia) (mf : cd_Ia) (mr : cd_Ia) (k0 : Int32) (hR0 : cd_MoAt N tt ad w0 q u) (hR1 : cd_IaAt N tt ad w0 (q + 1) 18 ma) (hR2 : cd_IaAt N tt ad w0 (q + 2) 18 ms) (hR3 : cd_IaAt N tt ad w0 (q + 3) 18 mf) (hR4 : cd_IaAt N tt ad w0 (q + 5) 3 mr) (ho : o_Mo_flags u ma ms mf mr k0) : Met l y_Mo_flags w_Mo_flags ({ frames := 1, cells := 0, slots := 0, locals := 24 }) (va_Pc [.ref (ad q), .int k0] (cd_U D tt ad N A zs w0)) (va_Qi (fun r w' => (f_Mo_flags u ma ms mf mr k0).1 = r ∧ cd_MoAt N tt ad w' q ((f_Mo_flags u ma ms mf mr k0).2) ∧ (∀ k : Nat, (k < q ∨ q + 1 ≤ k) → w' k = w0 k)) (fun w' t => cd_P D ad N A w' t.heap) A) 0 0 A := by
  refine Met.ofW (cc := b_Mo_flags) (maxL := 3) (ret := (some .int)) (by decide) rfl ?_
  intro p e s m args below meth c s₁ B hml hv
  obtain ⟨rfl, hP, hK, hZ⟩ := hv
  have hx := B.exec
  have hb := B.bytes
  have hr := B.returns
  have hA : ∀ w ∈ cd_AW, w.before _ s = true := fun w h => atoms_spec (ws := w_Mo_flags) B.pre w (List.mem_cons_of_mem _ h)
  have hown : s.vm.findClass R_Mo = some m.cls := findClass_of_methodNamed B.named
  have hlocks := B.notSynchronized
  have hS : va_S A s.heap s.heap [] := va_S.rf
  have hl := lv_entry ([.ref (ad q), .int k0]) (n := 3) (Nat.le_of_ble_eq_true rfl)
  rw [lg_entry_eq]
  generalize (lg_sl ([.ref (ad q), .int k0]) ++ List.replicate (3 - (lg_sl ([.ref (ad q), .int k0])).length) Slot.unset).toArray = ls at hl ⊢
  have hl : lv_has ls 3 [(0, .ref (ad q)), (1, .int k0)] := hl
  have ho : (o_Mo_within ((0 : Int32), u.2.1, u.2.2.1, u.2.2.2.1, u.2.2.2.2.1, u.2.2.2.2.2) ma ms mr (1 : Int32) k0.toInt64) ∧ (¬ (f_Mo_within ((0 : Int32), u.2.1, u.2.2.1, u.2.2.2.1, u.2.2.2.2.1, u.2.2.2.2.2) ma ms mr (1 : Int32) k0.toInt64) = (-1 : Int32) → vp_in (f_Mo_within ((0 : Int32), u.2.1, u.2.2.1, u.2.2.2.1, u.2.2.2.2.1, u.2.2.2.2.2) ma ms mr (1 : Int32) k0.toInt64) 18) := ho
  obtain ⟨hn1, fa2⟩ := hR0
  refine lv_aload_n hx hb d_Mo_flags_0 rfl (lv_at hl 0 rfl) ?_
  refine lv_iconst (v := (0 : Int32)) hx hb d_Mo_flags_1 (by decide) ?_
  refine g_put (ci := 7) (C := R_Mo) (T := F_Mo) (Nf := 16) (v := .int (0 : Int32)) (ty := .int) hx hb hA in_Mo t_Mo t_Mo_ok n_Mo hown hK hP hS (k := q) (by omega) fa2 rfl 0 (by decide) (hA _ aw_560) (fun _ h9 => h9) rfl (by decide +kernel) rfl rfl (Nat.le_of_ble_eq_true rfl) d_Mo_flags_2 (fun H locs w1 fa3 e1 hP hS => ?_)
  have fa3 : w1 q = .inr (7, [.int (0 : Int32), .ref (ad (q + 1)), .ref (ad (q + 2)), .ref (ad (q + 3)), .ref (ad (q + 4)), .ref (ad (q + 5)), .ref (ad (q + 6)), .ref (ad (q + 7)), .ref (ad (q + 8)), .ref (ad (q + 9)), .int u.2.1, .ref (ad (q + 10)), .int u.2.2.1, .int u.2.2.2.1, .int u.2.2.2.2.1, .int u.2.2.2.2.2]) := fa3
  have at4 := cd_IaAt_keep hR1 (fun k h1 h2 => e1 k (by omega))
  have at5 := cd_IaAt_keep hR2 (fun k h1 h2 => e1 k (by omega))
  have at6 := cd_IaAt_keep hR3 (fun k h1 h2 => e1 k (by omega))
  have at7 := cd_IaAt_keep hR4 (fun k h1 h2 => e1 k (by omega))
  refine lv_aload_n hx hb d_Mo_flags_5 rfl (lv_at hl 0 rfl) ?_
  refine lv_iconst (v := (1 : Int32)) hx hb d_Mo_flags_6 (by decide) ?_
  refine lv_iload_n hx hb d_Mo_flags_7 rfl (lv_at hl 1 rfl) ?_
  refine lv_i2l hx hb d_Mo_flags_8 rfl ?_
  refine va_calli (va_runV (As := [.int (1 : Int32), .long k0.toInt64]) (rest := []) ⟨hx, hb, hml, hown, hA⟩ (c_Mo_within l D tt ad N A zs w1 q ((0 : Int32), u.2.1, u.2.2.1, u.2.2.2.1, u.2.2.2.2.1, u.2.2.2.2.2) ma ms mr (1 : Int32) k0.toInt64 (⟨hn1, fa3⟩) at4 at5 at7 (ho.1)) (cwV 2 hA (cd_gV aw_601 aw_602 aw_784 aw_8 aw_603) rfl rfl rfl ⟨rfl, by decide, by decide, by decide +kernel⟩ ⟨Nat.le_of_ble_eq_true rfl, Nat.le_of_ble_eq_true rfl⟩) ⟨cd_blind, cd_recv hK hP (k := q) (by omega) fa3 rfl, fun U hU hW => ⟨rfl, cd_pre hK hP hZ hS U hU hW⟩⟩ rfl rfl hl.1 rfl (lv_room (Nat.le_of_ble_eq_true rfl)) d_Mo_flags_9 ⟨Nat.zero_le _, Nat.zero_le _⟩) hS (fun _ _ h => h) (fun _ h => h) (fun r8 w2 tE H locs ht hvm hr9 hP hz1 hk1 hS => ?_)
  have hP := cd_Pf ht hP
  obtain ⟨rfl, rfl⟩ := hr9
  refine lv_istore_n (lv' := [(2, .int (f_Mo_within ((0 : Int32), u.2.1, u.2.2.1, u.2.2.2.1, u.2.2.2.2.1, u.2.2.2.2.2) ma ms mr (1 : Int32) k0.toInt64)), (0, .ref (ad q)), (1, .int k0)]) hx hb d_Mo_flags_12 rfl hl (by decide) rfl (fun ls hl => ?_)
  refine lv_iload_n hx hb d_Mo_flags_13 rfl (lv_at hl 0 rfl) ?_
  refine lv_iconst (v := (-1 : Int32)) hx hb d_Mo_flags_14 (by decide) ?_
  refine lv_icmp_ne (tgt := 22) hx hb d_Mo_flags_15 (by decide) (fun hc11 => ?_) (fun hc11 => ?_)
  · refine lv_aload_n hx hb d_Mo_flags_22 rfl (lv_at hl 1 rfl) ?_
    refine g_get (ci := 7) (C := R_Mo) (T := F_Mo) (Nf := 16) (v := .ref (ad (q + 3))) hx hb hA in_Mo hown hK hP (k := q) (by omega) fa3 rfl 3 (by decide) (hA _ aw_563) (fun _ h9 => h9) rfl d_Mo_flags_23 ?_
    refine lv_iload_n hx hb d_Mo_flags_26 rfl (lv_at hl 0 rfl) ?_
    obtain ⟨hn12, fa13⟩ := at6
    refine g_iald hx hb hK hP (k := (q + 3)) (by omega) fa13 rfl (ho.2 hc11) d_Mo_flags_27 ?_
    have hf14 : (f_Mo_flags u ma ms mf mr k0) = ((mf (f_Mo_within ((0 : Int32), u.2.1, u.2.2.1, u.2.2.2.1, u.2.2.2.2.1, u.2.2.2.2.2) ma ms mr (1 : Int32) k0.toInt64).toNatClampNeg), ((0 : Int32), u.2.1, u.2.2.1, u.2.2.2.1, u.2.2.2.2.1, u.2.2.2.2.2)) := by rw [f_Mo_flags, if_neg hc11]
    exact W.iret (v := (mf (f_Mo_within ((0 : Int32), u.2.1, u.2.2.1, u.2.2.2.1, u.2.2.2.2.1, u.2.2.2.2.2) ma ms mr (1 : Int32) k0.toInt64).toNatClampNeg)) hx hb hr (fun tE ht _ => ⟨⟨_, w1, rfl, ⟨(by rw [hf14]), (by rw [hf14]; exact ⟨hn1, fa3⟩), (fun k hk => (e1 k (by omega)))⟩, cd_Pt ht hP⟩, hS.F ht⟩) hS.2.2 d_Mo_flags_28
  · refine lv_iconst (v := (-1 : Int32)) hx hb d_Mo_flags_18 (by decide) ?_
    refine lv_goto (tgt := 28) hx hb d_Mo_flags_19 (by decide) ?_
    have hf15 : (f_Mo_flags u ma ms mf mr k0) = ((-1 : Int32), ((0 : Int32), u.2.1, u.2.2.1, u.2.2.2.1, u.2.2.2.2.1, u.2.2.2.2.2)) := by rw [f_Mo_flags, if_pos hc11]
    exact W.iret (v := (-1 : Int32)) hx hb hr (fun tE ht _ => ⟨⟨_, w1, rfl, ⟨(by rw [hf15]), (by rw [hf15]; exact ⟨hn1, fa3⟩), (fun k hk => (e1 k (by omega)))⟩, cd_Pt ht hP⟩, hS.F ht⟩) hS.2.2 d_Mo_flags_28
def f_Mo_register (u : cd_Mo) (mt : cd_Ia) (mi : cd_Ia) (mg : cd_Ia) (k0 : Int32) (k1 : Int32) : Int32 × cd_Mo := (if k0 < 0 then ((0 : Int32), ((1 : Int32), u.2.1, u.2.2.1, u.2.2.2.1, u.2.2.2.2.1, u.2.2.2.2.2)) else (if (mt (1 : Int32).toNatClampNeg) ≤ k0 then ((0 : Int32), ((1 : Int32), u.2.1, u.2.2.1, u.2.2.2.1, u.2.2.2.2.1, u.2.2.2.2.2)) else (if k1 < 0 then ((0 : Int32), ((1 : Int32), u.2.1, u.2.2.1, u.2.2.2.1, u.2.2.2.2.1, u.2.2.2.2.2)) else (if k1 ≤ (8 : Int32) then (if k1 = (8 : Int32) then ((mi ((3 : Int32) + k0).toNatClampNeg), ((0 : Int32), u.2.1, u.2.2.1, u.2.2.2.1, u.2.2.2.2.1, u.2.2.2.2.2)) else ((mg (((8 : Int32) * ((3 : Int32) + k0)) + k1).toNatClampNeg), ((0 : Int32), u.2.1, u.2.2.1, u.2.2.2.1, u.2.2.2.2.1, u.2.2.2.2.2))) else ((0 : Int32), ((1 : Int32), u.2.1, u.2.2.1, u.2.2.2.1, u.2.2.2.2.1, u.2.2.2.2.2))))))
def o_Mo_register (u : cd_Mo) (mt : cd_Ia) (mi : cd_Ia) (mg : cd_Ia) (k0 : Int32) (k1 : Int32) : Prop := (¬ k0 < 0 → vp_in (1 : Int32) 3) ∧ (¬ k0 < 0 → ¬ (mt (1 : Int32).toNatClampNeg) ≤ k0 → ¬ k1 < 0 → k1 ≤ (8 : Int32) → ¬ k1 = (8 : Int32) → vp_in (((8 : Int32) * ((3 : Int32) + k0)) + k1) 72) ∧ (¬ k0 < 0 → ¬ (mt (1 : Int32).toNatClampNeg) ≤ k0 → ¬ k1 < 0 → k1 ≤ (8 : Int32) → k1 = (8 : Int32) → vp_in ((3 : Int32) + k0) 9)
set_option maxHeartbeats 4000000 in
set_option maxRecDepth 100000 in
theorem c_Mo_register (l : Launch) (D : va_G) (tt : Nat → ClassId) (ad : Nat → Nat) (N : Nat) (A : Nat → Prop) (zs : Nat → Nat) (w0 : Nat → va_E) (q : Nat) (u : cd_Mo) (mt : cd_Ia) (mi : cd_Ia) (mg : cd_Ia) (k0 : Int32) (k1 : Int32) (hR0 : cd_MoAt N tt ad w0 q u) (hR1 : cd_IaAt N tt ad w0 (q + 6) 3 mt) (hR2 : cd_IaAt N tt ad w0 (q + 7) 9 mi) (hR3 : cd_IaAt N tt ad w0 (q + 8) 72 mg) (ho : o_Mo_register u mt mi mg k0 k1) : Met l y_Mo_register w_Mo_register ({ frames := 0, cells := 0, slots := 0, locals := 0 }) (va_Pc [.ref (ad q), .int k0, .int k1] (cd_U D tt ad N A zs w0)) (va_Qi (fun r w' => (f_Mo_register u mt mi mg k0 k1).1 = r ∧ cd_MoAt N tt ad w' q ((f_Mo_register u mt mi mg k0 k1).2) ∧ (∀ k : Nat, (k < q ∨ q + 1 ≤ k) → w' k = w0 k)) (fun w' t => cd_P D ad N A w' t.heap) A) 0 0 A := by
  refine Met.ofW (cc := b_Mo_register) (maxL := 3) (ret := (some .int)) (by decide) rfl ?_
  intro p e s m args below meth c s₁ B hml hv
  obtain ⟨rfl, hP, hK, hZ⟩ := hv
  have hx := B.exec
  have hb := B.bytes
  have hr := B.returns
  have hA : ∀ w ∈ cd_AW, w.before _ s = true := fun w h => atoms_spec (ws := w_Mo_register) B.pre w (List.mem_cons_of_mem _ h)
  have hown : s.vm.findClass R_Mo = some m.cls := findClass_of_methodNamed B.named
  have hlocks := B.notSynchronized
  have hS : va_S A s.heap s.heap [] := va_S.rf
  have hl := lv_entry ([.ref (ad q), .int k0, .int k1]) (n := 3) (Nat.le_of_ble_eq_true rfl)
  rw [lg_entry_eq]
  generalize (lg_sl ([.ref (ad q), .int k0, .int k1]) ++ List.replicate (3 - (lg_sl ([.ref (ad q), .int k0, .int k1])).length) Slot.unset).toArray = ls at hl ⊢
  have hl : lv_has ls 3 [(0, .ref (ad q)), (1, .int k0), (2, .int k1)] := hl
  have ho : (¬ k0 < 0 → vp_in (1 : Int32) 3) ∧ (¬ k0 < 0 → ¬ (mt (1 : Int32).toNatClampNeg) ≤ k0 → ¬ k1 < 0 → k1 ≤ (8 : Int32) → ¬ k1 = (8 : Int32) → vp_in (((8 : Int32) * ((3 : Int32) + k0)) + k1) 72) ∧ (¬ k0 < 0 → ¬ (mt (1 : Int32).toNatClampNeg) ≤ k0 → ¬ k1 < 0 → k1 ≤ (8 : Int32) → k1 = (8 : Int32) → vp_in ((3 : Int32) + k0) 9) := ho
  obtain ⟨hn1, fa2⟩ := hR0
  refine lv_aload_n hx hb d_Mo_register_0 rfl (lv_at hl 0 rfl) ?_
  refine lv_iload_n hx hb d_Mo_register_1 rfl (lv_at hl 1 rfl) ?_
  refine lv_if_lt (tgt := 25) hx hb d_Mo_register_2 (by decide) (fun hc3 => ?_) (fun hc3 => ?_)
  · refine lv_iconst (v := (1 : Int32)) hx hb d_Mo_register_25 (by decide) ?_
    refine lv_goto (tgt := 30) hx hb d_Mo_register_26 (by decide) ?_
    refine g_put (ci := 7) (C := R_Mo) (T := F_Mo) (Nf := 16) (v := .int (1 : Int32)) (ty := .int) hx hb hA in_Mo t_Mo t_Mo_ok n_Mo hown hK hP hS (k := q) (by omega) fa2 rfl 0 (by decide) (hA _ aw_560) (fun _ h9 => h9) rfl (by decide +kernel) rfl rfl (Nat.le_of_ble_eq_true rfl) d_Mo_register_30 (fun H locs w1 fa4 e1 hP hS => ?_)
    have fa4 : w1 q = .inr (7, [.int (1 : Int32), .ref (ad (q + 1)), .ref (ad (q + 2)), .ref (ad (q + 3)), .ref (ad (q + 4)), .ref (ad (q + 5)), .ref (ad (q + 6)), .ref (ad (q + 7)), .ref (ad (q + 8)), .ref (ad (q + 9)), .int u.2.1, .ref (ad (q + 10)), .int u.2.2.1, .int u.2.2.2.1, .int u.2.2.2.2.1, .int u.2.2.2.2.2]) := fa4
    have at5 := cd_IaAt_keep hR1 (fun k h1 h2 => e1 k (by omega))
    have at6 := cd_IaAt_keep hR2 (fun k h1 h2 => e1 k (by omega))
    have at7 := cd_IaAt_keep hR3 (fun k h1 h2 => e1 k (by omega))
    refine lv_aload_n hx hb d_Mo_register_33 rfl (lv_at hl 0 rfl) ?_
    refine g_get (ci := 7) (C := R_Mo) (T := F_Mo) (Nf := 16) (v := .int (1 : Int32)) hx hb hA in_Mo hown hK hP (k := q) (by omega) fa4 rfl 0 (by decide) (hA _ aw_560) (fun _ h9 => h9) rfl d_Mo_register_34 ?_
    refine lv_iconst (v := (1 : Int32)) hx hb d_Mo_register_37 (by decide) ?_
    refine lv_icmp_ne (tgt := 45) hx hb d_Mo_register_38 (by decide) (fun h9 => absurd (by decide) h9) (fun _ => ?_)
    refine lv_iconst (v := (0 : Int32)) hx hb d_Mo_register_41 (by decide) ?_
    refine lv_goto (tgt := 75) hx hb d_Mo_register_42 (by decide) ?_
    have hf9 : (f_Mo_register u mt mi mg k0 k1) = ((0 : Int32), ((1 : Int32), u.2.1, u.2.2.1, u.2.2.2.1, u.2.2.2.2.1, u.2.2.2.2.2)) := by rw [f_Mo_register, if_pos hc3]
    exact W.iret (v := (0 : Int32)) hx hb hr (fun tE ht _ => ⟨⟨_, w1, rfl, ⟨(by rw [hf9]), (by rw [hf9]; exact ⟨hn1, fa4⟩), (fun k hk => (e1 k (by omega)))⟩, cd_Pt ht hP⟩, hS.F ht⟩) hS.2.2 d_Mo_register_75
  · refine lv_iload_n hx hb d_Mo_register_5 rfl (lv_at hl 1 rfl) ?_
    refine lv_aload_n hx hb d_Mo_register_6 rfl (lv_at hl 0 rfl) ?_
    refine g_get (ci := 7) (C := R_Mo) (T := F_Mo) (Nf := 16) (v := .ref (ad (q + 6))) hx hb hA in_Mo hown hK hP (k := q) (by omega) fa2 rfl 6 (by decide) (hA _ aw_566) (fun _ h9 => h9) rfl d_Mo_register_7 ?_
    refine lv_iconst (v := (1 : Int32)) hx hb d_Mo_register_10 (by decide) ?_
    obtain ⟨hn10, fa11⟩ := hR1
    refine g_iald hx hb hK hP (k := (q + 6)) (by omega) fa11 rfl (ho.1 hc3) d_Mo_register_11 ?_
    refine lv_icmp_ge (tgt := 25) hx hb d_Mo_register_12 (by decide) (fun hc12 => ?_) (fun hc12 => ?_)
    · refine lv_iconst (v := (1 : Int32)) hx hb d_Mo_register_25 (by decide) ?_
      refine lv_goto (tgt := 30) hx hb d_Mo_register_26 (by decide) ?_
      refine g_put (ci := 7) (C := R_Mo) (T := F_Mo) (Nf := 16) (v := .int (1 : Int32)) (ty := .int) hx hb hA in_Mo t_Mo t_Mo_ok n_Mo hown hK hP hS (k := q) (by omega) fa2 rfl 0 (by decide) (hA _ aw_560) (fun _ h9 => h9) rfl (by decide +kernel) rfl rfl (Nat.le_of_ble_eq_true rfl) d_Mo_register_30 (fun H locs w2 fa13 e2 hP hS => ?_)
      have fa13 : w2 q = .inr (7, [.int (1 : Int32), .ref (ad (q + 1)), .ref (ad (q + 2)), .ref (ad (q + 3)), .ref (ad (q + 4)), .ref (ad (q + 5)), .ref (ad (q + 6)), .ref (ad (q + 7)), .ref (ad (q + 8)), .ref (ad (q + 9)), .int u.2.1, .ref (ad (q + 10)), .int u.2.2.1, .int u.2.2.2.1, .int u.2.2.2.2.1, .int u.2.2.2.2.2]) := fa13
      have fa14 := (e2 (q + 6) (by omega)).trans fa11
      have at15 := cd_IaAt_keep hR2 (fun k h1 h2 => e2 k (by omega))
      have at16 := cd_IaAt_keep hR3 (fun k h1 h2 => e2 k (by omega))
      refine lv_aload_n hx hb d_Mo_register_33 rfl (lv_at hl 0 rfl) ?_
      refine g_get (ci := 7) (C := R_Mo) (T := F_Mo) (Nf := 16) (v := .int (1 : Int32)) hx hb hA in_Mo hown hK hP (k := q) (by omega) fa13 rfl 0 (by decide) (hA _ aw_560) (fun _ h9 => h9) rfl d_Mo_register_34 ?_
      refine lv_iconst (v := (1 : Int32)) hx hb d_Mo_register_37 (by decide) ?_
      refine lv_icmp_ne (tgt := 45) hx hb d_Mo_register_38 (by decide) (fun h9 => absurd (by decide) h9) (fun _ => ?_)
      refine lv_iconst (v := (0 : Int32)) hx hb d_Mo_register_41 (by decide) ?_
      refine lv_goto (tgt := 75) hx hb d_Mo_register_42 (by decide) ?_
      have hf18 : (f_Mo_register u mt mi mg k0 k1) = ((0 : Int32), ((1 : Int32), u.2.1, u.2.2.1, u.2.2.2.1, u.2.2.2.2.1, u.2.2.2.2.2)) := by rw [f_Mo_register, if_neg hc3, if_pos hc12]
      exact W.iret (v := (0 : Int32)) hx hb hr (fun tE ht _ => ⟨⟨_, w2, rfl, ⟨(by rw [hf18]), (by rw [hf18]; exact ⟨hn1, fa13⟩), (fun k hk => (e2 k (by omega)))⟩, cd_Pt ht hP⟩, hS.F ht⟩) hS.2.2 d_Mo_register_75
    · refine lv_iload_n hx hb d_Mo_register_15 rfl (lv_at hl 2 rfl) ?_
      refine lv_if_lt (tgt := 25) hx hb d_Mo_register_16 (by decide) (fun hc19 => ?_) (fun hc19 => ?_)
      · refine lv_iconst (v := (1 : Int32)) hx hb d_Mo_register_25 (by decide) ?_
        refine lv_goto (tgt := 30) hx hb d_Mo_register_26 (by decide) ?_
        refine g_put (ci := 7) (C := R_Mo) (T := F_Mo) (Nf := 16) (v := .int (1 : Int32)) (ty := .int) hx hb hA in_Mo t_Mo t_Mo_ok n_Mo hown hK hP hS (k := q) (by omega) fa2 rfl 0 (by decide) (hA _ aw_560) (fun _ h9 => h9) rfl (by decide +kernel) rfl rfl (Nat.le_of_ble_eq_true rfl) d_Mo_register_30 (fun H locs w3 fa20 e3 hP hS => ?_)
        have fa20 : w3 q = .inr (7, [.int (1 : Int32), .ref (ad (q + 1)), .ref (ad (q + 2)), .ref (ad (q + 3)), .ref (ad (q + 4)), .ref (ad (q + 5)), .ref (ad (q + 6)), .ref (ad (q + 7)), .ref (ad (q + 8)), .ref (ad (q + 9)), .int u.2.1, .ref (ad (q + 10)), .int u.2.2.1, .int u.2.2.2.1, .int u.2.2.2.2.1, .int u.2.2.2.2.2]) := fa20
        have fa21 := (e3 (q + 6) (by omega)).trans fa11
        have at22 := cd_IaAt_keep hR2 (fun k h1 h2 => e3 k (by omega))
        have at23 := cd_IaAt_keep hR3 (fun k h1 h2 => e3 k (by omega))
        refine lv_aload_n hx hb d_Mo_register_33 rfl (lv_at hl 0 rfl) ?_
        refine g_get (ci := 7) (C := R_Mo) (T := F_Mo) (Nf := 16) (v := .int (1 : Int32)) hx hb hA in_Mo hown hK hP (k := q) (by omega) fa20 rfl 0 (by decide) (hA _ aw_560) (fun _ h9 => h9) rfl d_Mo_register_34 ?_
        refine lv_iconst (v := (1 : Int32)) hx hb d_Mo_register_37 (by decide) ?_
        refine lv_icmp_ne (tgt := 45) hx hb d_Mo_register_38 (by decide) (fun h9 => absurd (by decide) h9) (fun _ => ?_)
        refine lv_iconst (v := (0 : Int32)) hx hb d_Mo_register_41 (by decide) ?_
        refine lv_goto (tgt := 75) hx hb d_Mo_register_42 (by decide) ?_
        have hf25 : (f_Mo_register u mt mi mg k0 k1) = ((0 : Int32), ((1 : Int32), u.2.1, u.2.2.1, u.2.2.2.1, u.2.2.2.2.1, u.2.2.2.2.2)) := by rw [f_Mo_register, if_neg hc3, if_neg hc12, if_pos hc19]
        exact W.iret (v := (0 : Int32)) hx hb hr (fun tE ht _ => ⟨⟨_, w3, rfl, ⟨(by rw [hf25]), (by rw [hf25]; exact ⟨hn1, fa20⟩), (fun k hk => (e3 k (by omega)))⟩, cd_Pt ht hP⟩, hS.F ht⟩) hS.2.2 d_Mo_register_75
      · refine lv_iload_n hx hb d_Mo_register_19 rfl (lv_at hl 2 rfl) ?_
        refine lv_bipush (v := (8 : Int32)) hx hb d_Mo_register_20 (by decide) ?_
        refine lv_icmp_le (tgt := 29) hx hb d_Mo_register_22 (by decide) (fun hc26 => ?_) (fun hc26 => ?_)
        · refine lv_iconst (v := (0 : Int32)) hx hb d_Mo_register_29 (by decide) ?_
          refine g_put (ci := 7) (C := R_Mo) (T := F_Mo) (Nf := 16) (v := .int (0 : Int32)) (ty := .int) hx hb hA in_Mo t_Mo t_Mo_ok n_Mo hown hK hP hS (k := q) (by omega) fa2 rfl 0 (by decide) (hA _ aw_560) (fun _ h9 => h9) rfl (by decide +kernel) rfl rfl (Nat.le_of_ble_eq_true rfl) d_Mo_register_30 (fun H locs w4 fa27 e4 hP hS => ?_)
          have fa27 : w4 q = .inr (7, [.int (0 : Int32), .ref (ad (q + 1)), .ref (ad (q + 2)), .ref (ad (q + 3)), .ref (ad (q + 4)), .ref (ad (q + 5)), .ref (ad (q + 6)), .ref (ad (q + 7)), .ref (ad (q + 8)), .ref (ad (q + 9)), .int u.2.1, .ref (ad (q + 10)), .int u.2.2.1, .int u.2.2.2.1, .int u.2.2.2.2.1, .int u.2.2.2.2.2]) := fa27
          have fa28 := (e4 (q + 6) (by omega)).trans fa11
          have at29 := cd_IaAt_keep hR2 (fun k h1 h2 => e4 k (by omega))
          have at30 := cd_IaAt_keep hR3 (fun k h1 h2 => e4 k (by omega))
          refine lv_aload_n hx hb d_Mo_register_33 rfl (lv_at hl 0 rfl) ?_
          refine g_get (ci := 7) (C := R_Mo) (T := F_Mo) (Nf := 16) (v := .int (0 : Int32)) hx hb hA in_Mo hown hK hP (k := q) (by omega) fa27 rfl 0 (by decide) (hA _ aw_560) (fun _ h9 => h9) rfl d_Mo_register_34 ?_
          refine lv_iconst (v := (1 : Int32)) hx hb d_Mo_register_37 (by decide) ?_
          refine lv_icmp_ne (tgt := 45) hx hb d_Mo_register_38 (by decide) (fun _ => ?_) (fun h9 => absurd h9 (by decide))
          refine lv_iload_n hx hb d_Mo_register_45 rfl (lv_at hl 2 rfl) ?_
          refine lv_bipush (v := (8 : Int32)) hx hb d_Mo_register_46 (by decide) ?_
          refine lv_icmp_ne (tgt := 62) hx hb d_Mo_register_48 (by decide) (fun hc32 => ?_) (fun hc32 => ?_)
          · refine lv_aload_n hx hb d_Mo_register_62 rfl (lv_at hl 0 rfl) ?_
            refine g_get (ci := 7) (C := R_Mo) (T := F_Mo) (Nf := 16) (v := .ref (ad (q + 8))) hx hb hA in_Mo hown hK hP (k := q) (by omega) fa27 rfl 8 (by decide) (hA _ aw_568) (fun _ h9 => h9) rfl d_Mo_register_63 ?_
            refine lv_bipush (v := (8 : Int32)) hx hb d_Mo_register_66 (by decide) ?_
            refine lv_iconst (v := (3 : Int32)) hx hb d_Mo_register_68 (by decide) ?_
            refine lv_iload_n hx hb d_Mo_register_69 rfl (lv_at hl 1 rfl) ?_
            refine lv_iadd hx hb d_Mo_register_70 ?_
            refine lv_imul hx hb d_Mo_register_71 ?_
            refine lv_iload_n hx hb d_Mo_register_72 rfl (lv_at hl 2 rfl) ?_
            refine lv_iadd hx hb d_Mo_register_73 ?_
            obtain ⟨hn33, fa34⟩ := at30
            refine g_iald hx hb hK hP (k := (q + 8)) (by omega) fa34 rfl (ho.2.1 hc3 hc12 hc19 hc26 hc32) d_Mo_register_74 ?_
            have hf35 : (f_Mo_register u mt mi mg k0 k1) = ((mg (((8 : Int32) * ((3 : Int32) + k0)) + k1).toNatClampNeg), ((0 : Int32), u.2.1, u.2.2.1, u.2.2.2.1, u.2.2.2.2.1, u.2.2.2.2.2)) := by rw [f_Mo_register, if_neg hc3, if_neg hc12, if_neg hc19, if_pos hc26, if_neg hc32]
            exact W.iret (v := (mg (((8 : Int32) * ((3 : Int32) + k0)) + k1).toNatClampNeg)) hx hb hr (fun tE ht _ => ⟨⟨_, w4, rfl, ⟨(by rw [hf35]), (by rw [hf35]; exact ⟨hn1, fa27⟩), (fun k hk => (e4 k (by omega)))⟩, cd_Pt ht hP⟩, hS.F ht⟩) hS.2.2 d_Mo_register_75
          · refine lv_aload_n hx hb d_Mo_register_51 rfl (lv_at hl 0 rfl) ?_
            refine g_get (ci := 7) (C := R_Mo) (T := F_Mo) (Nf := 16) (v := .ref (ad (q + 7))) hx hb hA in_Mo hown hK hP (k := q) (by omega) fa27 rfl 7 (by decide) (hA _ aw_567) (fun _ h9 => h9) rfl d_Mo_register_52 ?_
            refine lv_iconst (v := (3 : Int32)) hx hb d_Mo_register_55 (by decide) ?_
            refine lv_iload_n hx hb d_Mo_register_56 rfl (lv_at hl 1 rfl) ?_
            refine lv_iadd hx hb d_Mo_register_57 ?_
            obtain ⟨hn36, fa37⟩ := at29
            refine g_iald hx hb hK hP (k := (q + 7)) (by omega) fa37 rfl (ho.2.2 hc3 hc12 hc19 hc26 hc32) d_Mo_register_58 ?_
            refine lv_goto (tgt := 75) hx hb d_Mo_register_59 (by decide) ?_
            have hf38 : (f_Mo_register u mt mi mg k0 k1) = ((mi ((3 : Int32) + k0).toNatClampNeg), ((0 : Int32), u.2.1, u.2.2.1, u.2.2.2.1, u.2.2.2.2.1, u.2.2.2.2.2)) := by rw [f_Mo_register, if_neg hc3, if_neg hc12, if_neg hc19, if_pos hc26, if_pos hc32]
            exact W.iret (v := (mi ((3 : Int32) + k0).toNatClampNeg)) hx hb hr (fun tE ht _ => ⟨⟨_, w4, rfl, ⟨(by rw [hf38]), (by rw [hf38]; exact ⟨hn1, fa27⟩), (fun k hk => (e4 k (by omega)))⟩, cd_Pt ht hP⟩, hS.F ht⟩) hS.2.2 d_Mo_register_75
        · refine lv_iconst (v := (1 : Int32)) hx hb d_Mo_register_25 (by decide) ?_
          refine lv_goto (tgt := 30) hx hb d_Mo_register_26 (by decide) ?_
          refine g_put (ci := 7) (C := R_Mo) (T := F_Mo) (Nf := 16) (v := .int (1 : Int32)) (ty := .int) hx hb hA in_Mo t_Mo t_Mo_ok n_Mo hown hK hP hS (k := q) (by omega) fa2 rfl 0 (by decide) (hA _ aw_560) (fun _ h9 => h9) rfl (by decide +kernel) rfl rfl (Nat.le_of_ble_eq_true rfl) d_Mo_register_30 (fun H locs w5 fa39 e5 hP hS => ?_)
          have fa39 : w5 q = .inr (7, [.int (1 : Int32), .ref (ad (q + 1)), .ref (ad (q + 2)), .ref (ad (q + 3)), .ref (ad (q + 4)), .ref (ad (q + 5)), .ref (ad (q + 6)), .ref (ad (q + 7)), .ref (ad (q + 8)), .ref (ad (q + 9)), .int u.2.1, .ref (ad (q + 10)), .int u.2.2.1, .int u.2.2.2.1, .int u.2.2.2.2.1, .int u.2.2.2.2.2]) := fa39
          have fa40 := (e5 (q + 6) (by omega)).trans fa11
          have at41 := cd_IaAt_keep hR2 (fun k h1 h2 => e5 k (by omega))
          have at42 := cd_IaAt_keep hR3 (fun k h1 h2 => e5 k (by omega))
          refine lv_aload_n hx hb d_Mo_register_33 rfl (lv_at hl 0 rfl) ?_
          refine g_get (ci := 7) (C := R_Mo) (T := F_Mo) (Nf := 16) (v := .int (1 : Int32)) hx hb hA in_Mo hown hK hP (k := q) (by omega) fa39 rfl 0 (by decide) (hA _ aw_560) (fun _ h9 => h9) rfl d_Mo_register_34 ?_
          refine lv_iconst (v := (1 : Int32)) hx hb d_Mo_register_37 (by decide) ?_
          refine lv_icmp_ne (tgt := 45) hx hb d_Mo_register_38 (by decide) (fun h9 => absurd (by decide) h9) (fun _ => ?_)
          refine lv_iconst (v := (0 : Int32)) hx hb d_Mo_register_41 (by decide) ?_
          refine lv_goto (tgt := 75) hx hb d_Mo_register_42 (by decide) ?_
          have hf44 : (f_Mo_register u mt mi mg k0 k1) = ((0 : Int32), ((1 : Int32), u.2.1, u.2.2.1, u.2.2.2.1, u.2.2.2.2.1, u.2.2.2.2.2)) := by rw [f_Mo_register, if_neg hc3, if_neg hc12, if_neg hc19, if_neg hc26]
          exact W.iret (v := (0 : Int32)) hx hb hr (fun tE ht _ => ⟨⟨_, w5, rfl, ⟨(by rw [hf44]), (by rw [hf44]; exact ⟨hn1, fa39⟩), (fun k hk => (e5 k (by omega)))⟩, cd_Pt ht hP⟩, hS.F ht⟩) hS.2.2 d_Mo_register_75
def f_Mo_number (u : cd_Mo) (ma : cd_Ia) (ms : cd_Ia) (mb : cd_By) (mr : cd_Ia) (k0 : Int64) : Int32 := ((((f_Mo_byteOf u ma ms mb mr (1 : Int32) k0) ||| ((f_Mo_byteOf u ma ms mb mr (1 : Int32) (k0 + (1 : Int64))) <<< ((8 : Int32) &&& 31))) ||| ((f_Mo_byteOf u ma ms mb mr (1 : Int32) (k0 + (2 : Int64))) <<< ((16 : Int32) &&& 31))) ||| ((f_Mo_byteOf u ma ms mb mr (1 : Int32) (k0 + (3 : Int64))) <<< ((24 : Int32) &&& 31)))
def o_Mo_number (u : cd_Mo) (ma : cd_Ia) (ms : cd_Ia) (mb : cd_By) (mr : cd_Ia) (k0 : Int64) : Prop := (o_Mo_byteOf u ma ms mb mr (1 : Int32) k0) ∧ (o_Mo_byteOf u ma ms mb mr (1 : Int32) (k0 + (1 : Int64))) ∧ (o_Mo_byteOf u ma ms mb mr (1 : Int32) (k0 + (2 : Int64))) ∧ (o_Mo_byteOf u ma ms mb mr (1 : Int32) (k0 + (3 : Int64)))
set_option maxHeartbeats 4000000 in
set_option maxRecDepth 100000 in
theorem c_Mo_number (l : Launch) (D : va_G) (tt : Nat → ClassId) (ad : Nat → Nat) (N : Nat) (A : Nat → Prop) (zs : Nat → Nat) (w0 : Nat → va_E) (q : Nat) (u : cd_Mo) (ma : cd_Ia) (ms : cd_Ia) (mb : cd_By) (mr : cd_Ia) (k0 : Int64) (hR0 : cd_MoAt N tt ad w0 q u) (hR1 : cd_IaAt N tt ad w0 (q + 1) 18 ma) (hR2 : cd_IaAt N tt ad w0 (q + 2) 18 ms) (hR3 : cd_ByAt N tt ad w0 (q + 4) 18432 mb) (hR4 : cd_IaAt N tt ad w0 (q + 5) 3 mr) (ho : o_Mo_number u ma ms mb mr k0) : Met l y_Mo_number w_Mo_number ({ frames := 2, cells := 0, slots := 0, locals := 48 }) (va_Pc [.ref (ad q), .long k0] (cd_U D tt ad N A zs w0)) (va_Qi (fun r w' => (f_Mo_number u ma ms mb mr k0) = r ∧ w0 = w') (fun w' t => cd_P D ad N A w' t.heap) A) 0 0 A := by
  refine Met.ofW (cc := b_Mo_number) (maxL := 3) (ret := (some .int)) (by decide) rfl ?_
  intro p e s m args below meth c s₁ B hml hv
  obtain ⟨rfl, hP, hK, hZ⟩ := hv
  have hx := B.exec
  have hb := B.bytes
  have hr := B.returns
  have hA : ∀ w ∈ cd_AW, w.before _ s = true := fun w h => atoms_spec (ws := w_Mo_number) B.pre w (List.mem_cons_of_mem _ h)
  have hown : s.vm.findClass R_Mo = some m.cls := findClass_of_methodNamed B.named
  have hlocks := B.notSynchronized
  have hS : va_S A s.heap s.heap [] := va_S.rf
  have hl := lv_entry ([.ref (ad q), .long k0]) (n := 3) (Nat.le_of_ble_eq_true rfl)
  rw [lg_entry_eq]
  generalize (lg_sl ([.ref (ad q), .long k0]) ++ List.replicate (3 - (lg_sl ([.ref (ad q), .long k0])).length) Slot.unset).toArray = ls at hl ⊢
  have hl : lv_has ls 3 [(0, .ref (ad q)), (1, .long k0)] := hl
  have ho : (o_Mo_byteOf u ma ms mb mr (1 : Int32) k0) ∧ (o_Mo_byteOf u ma ms mb mr (1 : Int32) (k0 + (1 : Int64))) ∧ (o_Mo_byteOf u ma ms mb mr (1 : Int32) (k0 + (2 : Int64))) ∧ (o_Mo_byteOf u ma ms mb mr (1 : Int32) (k0 + (3 : Int64))) := ho
  obtain ⟨hn1, fa2⟩ := hR0
  refine lv_aload_n hx hb d_Mo_number_0 rfl (lv_at hl 0 rfl) ?_
  refine lv_iconst (v := (1 : Int32)) hx hb d_Mo_number_1 (by decide) ?_
  refine lv_lload_n hx hb d_Mo_number_2 rfl (lv_at hl 1 rfl) ?_
  refine va_calli (va_runV (As := [.int (1 : Int32), .long k0]) (rest := []) ⟨hx, hb, hml, hown, hA⟩ (c_Mo_byteOf l D tt ad N A zs w0 q u ma ms mb mr (1 : Int32) k0 (⟨hn1, fa2⟩) hR1 hR2 hR3 hR4 (ho.1)) (cwV 2 hA (cd_gV aw_732 aw_733 aw_804 aw_8 aw_734) rfl rfl rfl ⟨rfl, by decide, by decide, by decide +kernel⟩ ⟨Nat.le_of_ble_eq_true rfl, Nat.le_of_ble_eq_true rfl⟩) ⟨cd_blind, cd_recv hK hP (k := q) (by omega) fa2 rfl, fun U hU hW => ⟨rfl, cd_pre hK hP hZ hS U hU hW⟩⟩ rfl rfl hl.1 rfl (lv_room (Nat.le_of_ble_eq_true rfl)) d_Mo_number_3 ⟨Nat.zero_le _, Nat.zero_le _⟩) hS (fun _ _ h => h) (fun _ h => h) (fun r3 w1 tE H locs ht hvm hr4 hP hz1 hk1 hS => ?_)
  have hP := cd_Pf ht hP
  obtain ⟨rfl, rfl⟩ := hr4
  refine lv_aload_n hx hb d_Mo_number_6 rfl (lv_at hl 0 rfl) ?_
  refine lv_iconst (v := (1 : Int32)) hx hb d_Mo_number_7 (by decide) ?_
  refine lv_lload_n hx hb d_Mo_number_8 rfl (lv_at hl 1 rfl) ?_
  refine lv_lconst (v := (1 : Int64)) hx hb d_Mo_number_9 (by decide) ?_
  refine lv_ladd hx hb d_Mo_number_10 ?_
  refine va_calli (va_runV (As := [.int (1 : Int32), .long (k0 + (1 : Int64))]) (rest := [.int (f_Mo_byteOf u ma ms mb mr (1 : Int32) k0)]) ⟨hx, hb, hml, hown, hA⟩ (c_Mo_byteOf l D tt ad N A zs w0 q u ma ms mb mr (1 : Int32) (k0 + (1 : Int64)) (⟨hn1, fa2⟩) hR1 hR2 hR3 hR4 (ho.2.1)) (cwV 2 hA (cd_gV aw_732 aw_733 aw_804 aw_8 aw_734) rfl rfl rfl ⟨rfl, by decide, by decide, by decide +kernel⟩ ⟨Nat.le_of_ble_eq_true rfl, Nat.le_of_ble_eq_true rfl⟩) ⟨cd_blind, cd_recv hK hP (k := q) (by omega) fa2 rfl, fun U hU hW => ⟨rfl, cd_pre hK hP hZ hS U hU hW⟩⟩ rfl rfl hl.1 rfl (lv_room (Nat.le_of_ble_eq_true rfl)) d_Mo_number_11 ⟨Nat.zero_le _, Nat.zero_le _⟩) hS (fun _ _ h => h) (fun _ h => h) (fun r6 w2 tE H locs ht hvm hr7 hP hz1 hk1 hS => ?_)
  have hP := cd_Pf ht hP
  obtain ⟨rfl, rfl⟩ := hr7
  refine lv_bipush (v := (8 : Int32)) hx hb d_Mo_number_14 (by decide) ?_
  refine lv_ishl hx hb d_Mo_number_16 ?_
  refine lv_ior hx hb d_Mo_number_17 ?_
  refine lv_aload_n hx hb d_Mo_number_18 rfl (lv_at hl 0 rfl) ?_
  refine lv_iconst (v := (1 : Int32)) hx hb d_Mo_number_19 (by decide) ?_
  refine lv_lload_n hx hb d_Mo_number_20 rfl (lv_at hl 1 rfl) ?_
  refine lv_ldc2 (v := (2 : Int64)) hx hb hown (hA _ aw_750) d_Mo_number_21 ?_
  refine lv_ladd hx hb d_Mo_number_24 ?_
  refine va_calli (va_runV (As := [.int (1 : Int32), .long (k0 + (2 : Int64))]) (rest := [.int ((f_Mo_byteOf u ma ms mb mr (1 : Int32) k0) ||| ((f_Mo_byteOf u ma ms mb mr (1 : Int32) (k0 + (1 : Int64))) <<< ((8 : Int32) &&& 31)))]) ⟨hx, hb, hml, hown, hA⟩ (c_Mo_byteOf l D tt ad N A zs w0 q u ma ms mb mr (1 : Int32) (k0 + (2 : Int64)) (⟨hn1, fa2⟩) hR1 hR2 hR3 hR4 (ho.2.2.1)) (cwV 2 hA (cd_gV aw_732 aw_733 aw_804 aw_8 aw_734) rfl rfl rfl ⟨rfl, by decide, by decide, by decide +kernel⟩ ⟨Nat.le_of_ble_eq_true rfl, Nat.le_of_ble_eq_true rfl⟩) ⟨cd_blind, cd_recv hK hP (k := q) (by omega) fa2 rfl, fun U hU hW => ⟨rfl, cd_pre hK hP hZ hS U hU hW⟩⟩ rfl rfl hl.1 rfl (lv_room (Nat.le_of_ble_eq_true rfl)) d_Mo_number_25 ⟨Nat.zero_le _, Nat.zero_le _⟩) hS (fun _ _ h => h) (fun _ h => h) (fun r9 w3 tE H locs ht hvm hr10 hP hz1 hk1 hS => ?_)
  have hP := cd_Pf ht hP
  obtain ⟨rfl, rfl⟩ := hr10
  refine lv_bipush (v := (16 : Int32)) hx hb d_Mo_number_28 (by decide) ?_
  refine lv_ishl hx hb d_Mo_number_30 ?_
  refine lv_ior hx hb d_Mo_number_31 ?_
  refine lv_aload_n hx hb d_Mo_number_32 rfl (lv_at hl 0 rfl) ?_
  refine lv_iconst (v := (1 : Int32)) hx hb d_Mo_number_33 (by decide) ?_
  refine lv_lload_n hx hb d_Mo_number_34 rfl (lv_at hl 1 rfl) ?_
  refine lv_ldc2 (v := (3 : Int64)) hx hb hown (hA _ aw_715) d_Mo_number_35 ?_
  refine lv_ladd hx hb d_Mo_number_38 ?_
  refine va_calli (va_runV (As := [.int (1 : Int32), .long (k0 + (3 : Int64))]) (rest := [.int (((f_Mo_byteOf u ma ms mb mr (1 : Int32) k0) ||| ((f_Mo_byteOf u ma ms mb mr (1 : Int32) (k0 + (1 : Int64))) <<< ((8 : Int32) &&& 31))) ||| ((f_Mo_byteOf u ma ms mb mr (1 : Int32) (k0 + (2 : Int64))) <<< ((16 : Int32) &&& 31)))]) ⟨hx, hb, hml, hown, hA⟩ (c_Mo_byteOf l D tt ad N A zs w0 q u ma ms mb mr (1 : Int32) (k0 + (3 : Int64)) (⟨hn1, fa2⟩) hR1 hR2 hR3 hR4 (ho.2.2.2)) (cwV 2 hA (cd_gV aw_732 aw_733 aw_804 aw_8 aw_734) rfl rfl rfl ⟨rfl, by decide, by decide, by decide +kernel⟩ ⟨Nat.le_of_ble_eq_true rfl, Nat.le_of_ble_eq_true rfl⟩) ⟨cd_blind, cd_recv hK hP (k := q) (by omega) fa2 rfl, fun U hU hW => ⟨rfl, cd_pre hK hP hZ hS U hU hW⟩⟩ rfl rfl hl.1 rfl (lv_room (Nat.le_of_ble_eq_true rfl)) d_Mo_number_39 ⟨Nat.zero_le _, Nat.zero_le _⟩) hS (fun _ _ h => h) (fun _ h => h) (fun r12 w4 tE H locs ht hvm hr13 hP hz1 hk1 hS => ?_)
  have hP := cd_Pf ht hP
  obtain ⟨rfl, rfl⟩ := hr13
  refine lv_bipush (v := (24 : Int32)) hx hb d_Mo_number_42 (by decide) ?_
  refine lv_ishl hx hb d_Mo_number_44 ?_
  refine lv_ior hx hb d_Mo_number_45 ?_
  have hf15 : (f_Mo_number u ma ms mb mr k0) = ((((f_Mo_byteOf u ma ms mb mr (1 : Int32) k0) ||| ((f_Mo_byteOf u ma ms mb mr (1 : Int32) (k0 + (1 : Int64))) <<< ((8 : Int32) &&& 31))) ||| ((f_Mo_byteOf u ma ms mb mr (1 : Int32) (k0 + (2 : Int64))) <<< ((16 : Int32) &&& 31))) ||| ((f_Mo_byteOf u ma ms mb mr (1 : Int32) (k0 + (3 : Int64))) <<< ((24 : Int32) &&& 31))) := by rw [f_Mo_number]
  exact W.iret (v := ((((f_Mo_byteOf u ma ms mb mr (1 : Int32) k0) ||| ((f_Mo_byteOf u ma ms mb mr (1 : Int32) (k0 + (1 : Int64))) <<< ((8 : Int32) &&& 31))) ||| ((f_Mo_byteOf u ma ms mb mr (1 : Int32) (k0 + (2 : Int64))) <<< ((16 : Int32) &&& 31))) ||| ((f_Mo_byteOf u ma ms mb mr (1 : Int32) (k0 + (3 : Int64))) <<< ((24 : Int32) &&& 31)))) hx hb hr (fun tE ht _ => ⟨⟨_, w0, rfl, ⟨hf15, rfl⟩, cd_Pt ht hP⟩, hS.F ht⟩) hS.2.2 d_Mo_number_46
def f_Mo_find_L28 (u : cd_Mo) (ma : cd_Ia) (ms : cd_Ia) (mb : cd_By) (mr : cd_Ia) (k0 : Int32) (k1 : Int32) (K : Int32 → Int32 → Int32 → cd_Mo → Int32 × cd_Mo) : Nat → Int32 → Int32 → Int32 → cd_Mo → Int32 × cd_Mo
  | 0, _, _, _, _ => default
  | gn + 1, x3, x4, x5, u' => (if (ms x4.toNatClampNeg) < (x5 + (4 : Int32)) then (K x3 x4 x5 u') else (if ((ma x4.toNatClampNeg) + x5) < k1 then (f_Mo_find_L28 u ma ms mb mr k0 k1 K gn x3 x4 (x5 + (1 : Int32)) u') else (if x3 = (-1 : Int32) then (if (f_Mo_number u' ma ms mb mr (((ma x4.toNatClampNeg) + x5).toInt64)) = k0 then (f_Mo_find_L28 u ma ms mb mr k0 k1 K gn ((ma x4.toNatClampNeg) + x5) x4 (x5 + (1 : Int32)) u') else (f_Mo_find_L28 u ma ms mb mr k0 k1 K gn x3 x4 (x5 + (1 : Int32)) u')) else (if x3 ≤ ((ma x4.toNatClampNeg) + x5) then (f_Mo_find_L28 u ma ms mb mr k0 k1 K gn x3 x4 (x5 + (1 : Int32)) u') else (if (f_Mo_number u' ma ms mb mr (((ma x4.toNatClampNeg) + x5).toInt64)) = k0 then (f_Mo_find_L28 u ma ms mb mr k0 k1 K gn ((ma x4.toNatClampNeg) + x5) x4 (x5 + (1 : Int32)) u') else (f_Mo_find_L28 u ma ms mb mr k0 k1 K gn x3 x4 (x5 + (1 : Int32)) u'))))))
def f_Mo_find_L11 (u : cd_Mo) (ma : cd_Ia) (ms : cd_Ia) (mb : cd_By) (mr : cd_Ia) (k0 : Int32) (k1 : Int32) : Nat → Int32 → Int32 → cd_Mo → Int32 × cd_Mo
  | 0, _, _, _ => default
  | gn + 1, x3, x4, u' => (if ((6 : Int32) + (mr (1 : Int32).toNatClampNeg)) ≤ x4 then (x3, u') else (f_Mo_find_L28 u ma ms mb mr k0 k1 (fun (x3' : Int32) (x4' : Int32) (x5' : Int32) (u'' : cd_Mo) => (f_Mo_find_L11 u ma ms mb mr k0 k1 gn x3' (x4' + (1 : Int32)) u'')) 1025 x3 x4 (0 : Int32) u'))
def f_Mo_find (u : cd_Mo) (ma : cd_Ia) (ms : cd_Ia) (mb : cd_By) (mr : cd_Ia) (k0 : Int32) (k1 : Int32) : Int32 × cd_Mo := (f_Mo_find_L11 u ma ms mb mr k0 k1 7 (-1 : Int32) (6 : Int32) ((0 : Int32), u.2.1, u.2.2.1, u.2.2.2.1, u.2.2.2.2.1, u.2.2.2.2.2))
def o_Mo_find_L28 (u : cd_Mo) (ma : cd_Ia) (ms : cd_Ia) (mb : cd_By) (mr : cd_Ia) (k0 : Int32) (k1 : Int32) (KO : Int32 → Int32 → Int32 → cd_Mo → Prop) : Nat → Int32 → Int32 → Int32 → cd_Mo → Prop
  | 0, _, _, _, _ => False
  | gn + 1, x3, x4, x5, u' => (vp_in x4 18) ∧ ((ms x4.toNatClampNeg) < (x5 + (4 : Int32)) → KO x3 x4 x5 u') ∧ (¬ (ms x4.toNatClampNeg) < (x5 + (4 : Int32)) → vp_in x4 18) ∧ (¬ (ms x4.toNatClampNeg) < (x5 + (4 : Int32)) → ((ma x4.toNatClampNeg) + x5) < k1 → o_Mo_find_L28 u ma ms mb mr k0 k1 KO gn x3 x4 (x5 + (1 : Int32)) u') ∧ (¬ (ms x4.toNatClampNeg) < (x5 + (4 : Int32)) → ¬ ((ma x4.toNatClampNeg) + x5) < k1 → x3 = (-1 : Int32) → o_Mo_number u' ma ms mb mr (((ma x4.toNatClampNeg) + x5).toInt64)) ∧ (¬ (ms x4.toNatClampNeg) < (x5 + (4 : Int32)) → ¬ ((ma x4.toNatClampNeg) + x5) < k1 → x3 = (-1 : Int32) → ¬ (f_Mo_number u' ma ms mb mr (((ma x4.toNatClampNeg) + x5).toInt64)) = k0 → o_Mo_find_L28 u ma ms mb mr k0 k1 KO gn x3 x4 (x5 + (1 : Int32)) u') ∧ (¬ (ms x4.toNatClampNeg) < (x5 + (4 : Int32)) → ¬ ((ma x4.toNatClampNeg) + x5) < k1 → x3 = (-1 : Int32) → (f_Mo_number u' ma ms mb mr (((ma x4.toNatClampNeg) + x5).toInt64)) = k0 → o_Mo_find_L28 u ma ms mb mr k0 k1 KO gn ((ma x4.toNatClampNeg) + x5) x4 (x5 + (1 : Int32)) u') ∧ (¬ (ms x4.toNatClampNeg) < (x5 + (4 : Int32)) → ¬ ((ma x4.toNatClampNeg) + x5) < k1 → ¬ x3 = (-1 : Int32) → x3 ≤ ((ma x4.toNatClampNeg) + x5) → o_Mo_find_L28 u ma ms mb mr k0 k1 KO gn x3 x4 (x5 + (1 : Int32)) u') ∧ (¬ (ms x4.toNatClampNeg) < (x5 + (4 : Int32)) → ¬ ((ma x4.toNatClampNeg) + x5) < k1 → ¬ x3 = (-1 : Int32) → ¬ x3 ≤ ((ma x4.toNatClampNeg) + x5) → o_Mo_number u' ma ms mb mr (((ma x4.toNatClampNeg) + x5).toInt64)) ∧ (¬ (ms x4.toNatClampNeg) < (x5 + (4 : Int32)) → ¬ ((ma x4.toNatClampNeg) + x5) < k1 → ¬ x3 = (-1 : Int32) → ¬ x3 ≤ ((ma x4.toNatClampNeg) + x5) → ¬ (f_Mo_number u' ma ms mb mr (((ma x4.toNatClampNeg) + x5).toInt64)) = k0 → o_Mo_find_L28 u ma ms mb mr k0 k1 KO gn x3 x4 (x5 + (1 : Int32)) u') ∧ (¬ (ms x4.toNatClampNeg) < (x5 + (4 : Int32)) → ¬ ((ma x4.toNatClampNeg) + x5) < k1 → ¬ x3 = (-1 : Int32) → ¬ x3 ≤ ((ma x4.toNatClampNeg) + x5) → (f_Mo_number u' ma ms mb mr (((ma x4.toNatClampNeg) + x5).toInt64)) = k0 → o_Mo_find_L28 u ma ms mb mr k0 k1 KO gn ((ma x4.toNatClampNeg) + x5) x4 (x5 + (1 : Int32)) u')
def o_Mo_find_L11 (u : cd_Mo) (ma : cd_Ia) (ms : cd_Ia) (mb : cd_By) (mr : cd_Ia) (k0 : Int32) (k1 : Int32) : Nat → Int32 → Int32 → cd_Mo → Prop
  | 0, _, _, _ => False
  | gn + 1, x3, x4, u' => (vp_in (1 : Int32) 3) ∧ (¬ ((6 : Int32) + (mr (1 : Int32).toNatClampNeg)) ≤ x4 → o_Mo_find_L28 u ma ms mb mr k0 k1 (fun (x3' : Int32) (x4' : Int32) (x5' : Int32) (u'' : cd_Mo) => (o_Mo_find_L11 u ma ms mb mr k0 k1 gn x3' (x4' + (1 : Int32)) u'')) 1025 x3 x4 (0 : Int32) u')
def o_Mo_find (u : cd_Mo) (ma : cd_Ia) (ms : cd_Ia) (mb : cd_By) (mr : cd_Ia) (k0 : Int32) (k1 : Int32) : Prop := (o_Mo_find_L11 u ma ms mb mr k0 k1 7 (-1 : Int32) (6 : Int32) ((0 : Int32), u.2.1, u.2.2.1, u.2.2.2.1, u.2.2.2.2.1, u.2.2.2.2.2))
set_option maxHeartbeats 4000000 in
set_option maxRecDepth 100000 in
theorem c_Mo_find (l : Launch) (D : va_G) (tt : Nat → ClassId) (ad : Nat → Nat) (N : Nat) (A : Nat → Prop) (zs : Nat → Nat) (w0 : Nat → va_E) (q : Nat) (u : cd_Mo) (ma : cd_Ia) (ms : cd_Ia) (mb : cd_By) (mr : cd_Ia) (k0 : Int32) (k1 : Int32) (hR0 : cd_MoAt N tt ad w0 q u) (hR1 : cd_IaAt N tt ad w0 (q + 1) 18 ma) (hR2 : cd_IaAt N tt ad w0 (q + 2) 18 ms) (hR3 : cd_ByAt N tt ad w0 (q + 4) 18432 mb) (hR4 : cd_IaAt N tt ad w0 (q + 5) 3 mr) (ho : o_Mo_find u ma ms mb mr k0 k1) : Met l y_Mo_find w_Mo_find ({ frames := 3, cells := 0, slots := 0, locals := 70 }) (va_Pc [.ref (ad q), .int k0, .int k1] (cd_U D tt ad N A zs w0)) (va_Qi (fun r w' => (f_Mo_find u ma ms mb mr k0 k1).1 = r ∧ cd_MoAt N tt ad w' q ((f_Mo_find u ma ms mb mr k0 k1).2) ∧ (∀ k : Nat, (k < q ∨ q + 1 ≤ k) → w' k = w0 k)) (fun w' t => cd_P D ad N A w' t.heap) A) 0 0 A := by
  refine Met.ofW (cc := b_Mo_find) (maxL := 8) (ret := (some .int)) (by decide) rfl ?_
  intro p e s m args below meth c s₁ B hml hv
  obtain ⟨rfl, hP, hK, hZ⟩ := hv
  have hx := B.exec
  have hb := B.bytes
  have hr := B.returns
  have hA : ∀ w ∈ cd_AW, w.before _ s = true := fun w h => atoms_spec (ws := w_Mo_find) B.pre w (List.mem_cons_of_mem _ h)
  have hown : s.vm.findClass R_Mo = some m.cls := findClass_of_methodNamed B.named
  have hlocks := B.notSynchronized
  have L28 : ∀ (K : Int32 → Int32 → Int32 → cd_Mo → Int32 × cd_Mo) (KO : Int32 → Int32 → Int32 → cd_Mo → Prop) (gn : Nat) (x3 : Int32) (x4 : Int32) (x5 : Int32) (u' : cd_Mo) (w : Nat → va_E) (efr : ∀ k : Nat, (k < q ∨ q + 1 ≤ k) → w k = w0 k) (H : Heap) (locs : List Loc) (ls : Array Slot), lv_has ls 8 [(0, .ref (ad q)), (1, .int k0), (2, .int k1), (3, .int x3), (4, .int x4), (5, .int x5)] → (f_Mo_find u ma ms mb mr k0 k1) = f_Mo_find_L28 u ma ms mb mr k0 k1 K gn x3 x4 x5 u' → cd_MoAt N tt ad w q u' → cd_IaAt N tt ad w (q + 1) 18 ma → cd_IaAt N tt ad w (q + 2) 18 ms → cd_ByAt N tt ad w (q + 4) 18432 mb → cd_IaAt N tt ad w (q + 5) 3 mr → cd_P D ad N A w H → va_S A s.heap H locs → o_Mo_find_L28 u ma ms mb mr k0 k1 KO gn x3 x4 x5 u' → (∀ (x3 : Int32) (x4 : Int32) (x5 : Int32) (u' : cd_Mo) (w : Nat → va_E) (efr : ∀ k : Nat, (k < q ∨ q + 1 ≤ k) → w k = w0 k) (H : Heap) (locs : List Loc) (ls : Array Slot), lv_has ls 8 [(0, .ref (ad q)), (1, .int k0), (2, .int k1), (3, .int x3), (4, .int x4), (5, .int x5)] → (f_Mo_find u ma ms mb mr k0 k1) = K x3 x4 x5 u' → cd_MoAt N tt ad w q u' → cd_IaAt N tt ad w (q + 1) 18 ma → cd_IaAt N tt ad w (q + 2) 18 ms → cd_ByAt N tt ad w (q + 4) 18432 mb → cd_IaAt N tt ad w (q + 5) 3 mr → cd_P D ad N A w H → va_S A s.heap H locs → KO x3 x4 x5 u' → W p l e (headSpec w_Mo_find ({ frames := 3, cells := 0, slots := 0, locals := 70 })).room s m [.ref (ad q), .int k0, .int k1].toArray below meth c H locs 0 0 (MQ below (va_Qi (fun r w' => (f_Mo_find u ma ms mb mr k0 k1).1 = r ∧ cd_MoAt N tt ad w' q ((f_Mo_find u ma ms mb mr k0 k1).2) ∧ (∀ k : Nat, (k < q ∨ q + 1 ≤ k) → w' k = w0 k)) (fun w' t => cd_P D ad N A w' t.heap) A) [.ref (ad q), .int k0, .int k1].toArray s 0 0 A) (F0 m 107 ls [])) → W p l e (headSpec w_Mo_find ({ frames := 3, cells := 0, slots := 0, locals := 70 })).room s m [.ref (ad q), .int k0, .int k1].toArray below meth c H locs 0 0 (MQ below (va_Qi (fun r w' => (f_Mo_find u ma ms mb mr k0 k1).1 = r ∧ cd_MoAt N tt ad w' q ((f_Mo_find u ma ms mb mr k0 k1).2) ∧ (∀ k : Nat, (k < q ∨ q + 1 ≤ k) → w' k = w0 k)) (fun w' t => cd_P D ad N A w' t.heap) A) [.ref (ad q), .int k0, .int k1].toArray s 0 0 A) (F0 m 28 ls []) := by
    intro K KO gn
    induction gn with
    | zero => intro x3 x4 x5 u' w efr H locs ls hl he hL0 hL1 hL2 hL3 hL4 hP hS ho hKt; exact ho.elim
    | succ gn ih =>
      intro x3 x4 x5 u' w efr H locs ls hl he hL0 hL1 hL2 hL3 hL4 hP hS ho hKt
      have ho : (vp_in x4 18) ∧ ((ms x4.toNatClampNeg) < (x5 + (4 : Int32)) → KO x3 x4 x5 u') ∧ (¬ (ms x4.toNatClampNeg) < (x5 + (4 : Int32)) → vp_in x4 18) ∧ (¬ (ms x4.toNatClampNeg) < (x5 + (4 : Int32)) → ((ma x4.toNatClampNeg) + x5) < k1 → o_Mo_find_L28 u ma ms mb mr k0 k1 KO gn x3 x4 (x5 + (1 : Int32)) u') ∧ (¬ (ms x4.toNatClampNeg) < (x5 + (4 : Int32)) → ¬ ((ma x4.toNatClampNeg) + x5) < k1 → x3 = (-1 : Int32) → o_Mo_number u' ma ms mb mr (((ma x4.toNatClampNeg) + x5).toInt64)) ∧ (¬ (ms x4.toNatClampNeg) < (x5 + (4 : Int32)) → ¬ ((ma x4.toNatClampNeg) + x5) < k1 → x3 = (-1 : Int32) → ¬ (f_Mo_number u' ma ms mb mr (((ma x4.toNatClampNeg) + x5).toInt64)) = k0 → o_Mo_find_L28 u ma ms mb mr k0 k1 KO gn x3 x4 (x5 + (1 : Int32)) u') ∧ (¬ (ms x4.toNatClampNeg) < (x5 + (4 : Int32)) → ¬ ((ma x4.toNatClampNeg) + x5) < k1 → x3 = (-1 : Int32) → (f_Mo_number u' ma ms mb mr (((ma x4.toNatClampNeg) + x5).toInt64)) = k0 → o_Mo_find_L28 u ma ms mb mr k0 k1 KO gn ((ma x4.toNatClampNeg) + x5) x4 (x5 + (1 : Int32)) u') ∧ (¬ (ms x4.toNatClampNeg) < (x5 + (4 : Int32)) → ¬ ((ma x4.toNatClampNeg) + x5) < k1 → ¬ x3 = (-1 : Int32) → x3 ≤ ((ma x4.toNatClampNeg) + x5) → o_Mo_find_L28 u ma ms mb mr k0 k1 KO gn x3 x4 (x5 + (1 : Int32)) u') ∧ (¬ (ms x4.toNatClampNeg) < (x5 + (4 : Int32)) → ¬ ((ma x4.toNatClampNeg) + x5) < k1 → ¬ x3 = (-1 : Int32) → ¬ x3 ≤ ((ma x4.toNatClampNeg) + x5) → o_Mo_number u' ma ms mb mr (((ma x4.toNatClampNeg) + x5).toInt64)) ∧ (¬ (ms x4.toNatClampNeg) < (x5 + (4 : Int32)) → ¬ ((ma x4.toNatClampNeg) + x5) < k1 → ¬ x3 = (-1 : Int32) → ¬ x3 ≤ ((ma x4.toNatClampNeg) + x5) → ¬ (f_Mo_number u' ma ms mb mr (((ma x4.toNatClampNeg) + x5).toInt64)) = k0 → o_Mo_find_L28 u ma ms mb mr k0 k1 KO gn x3 x4 (x5 + (1 : Int32)) u') ∧ (¬ (ms x4.toNatClampNeg) < (x5 + (4 : Int32)) → ¬ ((ma x4.toNatClampNeg) + x5) < k1 → ¬ x3 = (-1 : Int32) → ¬ x3 ≤ ((ma x4.toNatClampNeg) + x5) → (f_Mo_number u' ma ms mb mr (((ma x4.toNatClampNeg) + x5).toInt64)) = k0 → o_Mo_find_L28 u ma ms mb mr k0 k1 KO gn ((ma x4.toNatClampNeg) + x5) x4 (x5 + (1 : Int32)) u') := ho
      obtain ⟨hn1, fa2⟩ := hL0
      refine lv_iload hx hb d_Mo_find_28 (lv_at hl 5 rfl) ?_
      refine lv_iconst (v := (4 : Int32)) hx hb d_Mo_find_30 (by decide) ?_
      refine lv_iadd hx hb d_Mo_find_31 ?_
      refine lv_aload_n hx hb d_Mo_find_32 rfl (lv_at hl 0 rfl) ?_
      refine g_get (ci := 7) (C := R_Mo) (T := F_Mo) (Nf := 16) (v := .ref (ad (q + 2))) hx hb hA in_Mo hown hK hP (k := q) (by omega) fa2 rfl 2 (by decide) (hA _ aw_562) (fun _ h9 => h9) rfl d_Mo_find_33 ?_
      refine lv_iload hx hb d_Mo_find_36 (lv_at hl 4 rfl) ?_
      obtain ⟨hn3, fa4⟩ := hL2
      refine g_iald hx hb hK hP (k := (q + 2)) (by omega) fa4 rfl (ho.1) d_Mo_find_38 ?_
      refine lv_icmp_gt (tgt := 107) hx hb d_Mo_find_39 (by decide) (fun hc5 => ?_) (fun hc5 => ?_)
      · exact hKt x3 x4 x5 u' w (fun k hk => (efr k (by omega))) H locs ls (lv_sub hl [0, 1, 2, 3, 4, 5] rfl) (show (f_Mo_find u ma ms mb mr k0 k1) = K x3 x4 x5 u' by rw [he, f_Mo_find_L28, if_pos hc5]) (⟨hn1, fa2⟩) hL1 (⟨hn3, fa4⟩) hL3 hL4 hP hS (ho.2.1 hc5)
      · refine lv_aload_n hx hb d_Mo_find_42 rfl (lv_at hl 0 rfl) ?_
        refine g_get (ci := 7) (C := R_Mo) (T := F_Mo) (Nf := 16) (v := .ref (ad (q + 1))) hx hb hA in_Mo hown hK hP (k := q) (by omega) fa2 rfl 1 (by decide) (hA _ aw_561) (fun _ h9 => h9) rfl d_Mo_find_43 ?_
        refine lv_iload hx hb d_Mo_find_46 (lv_at hl 4 rfl) ?_
        obtain ⟨hn6, fa7⟩ := hL1
        refine g_iald hx hb hK hP (k := (q + 1)) (by omega) fa7 rfl (ho.2.2.1 hc5) d_Mo_find_48 ?_
        refine lv_iload hx hb d_Mo_find_49 (lv_at hl 5 rfl) ?_
        refine lv_iadd hx hb d_Mo_find_51 ?_
        refine lv_istore (lv' := [(6, .int ((ma x4.toNatClampNeg) + x5)), (0, .ref (ad q)), (1, .int k0), (2, .int k1), (3, .int x3), (4, .int x4), (5, .int x5)]) hx hb d_Mo_find_52 hl (by decide) rfl (fun ls hl => ?_)
        refine lv_iload hx hb d_Mo_find_54 (lv_at hl 0 rfl) ?_
        refine lv_iload_n hx hb d_Mo_find_56 rfl (lv_at hl 3 rfl) ?_
        refine lv_icmp_lt (tgt := 75) hx hb d_Mo_find_57 (by decide) (fun hc8 => ?_) (fun hc8 => ?_)
        · refine lv_iconst (v := (0 : Int32)) hx hb d_Mo_find_75 (by decide) ?_
          refine lv_istore (lv' := [(7, .int (0 : Int32)), (6, .int ((ma x4.toNatClampNeg) + x5)), (0, .ref (ad q)), (1, .int k0), (2, .int k1), (3, .int x3), (4, .int x4), (5, .int x5)]) hx hb d_Mo_find_76 hl (by decide) rfl (fun ls hl => ?_)
          refine lv_iload hx hb d_Mo_find_78 (lv_at hl 0 rfl) ?_
          refine lv_if_eq (tgt := 99) hx hb d_Mo_find_80 (by decide) (fun _ => ?_) (fun h9 => absurd (by decide) h9)
          refine lv_iload_n hx hb d_Mo_find_99 rfl (lv_at hl 5 rfl) ?_
          refine lv_istore_n (lv' := [(3, .int x3), (7, .int (0 : Int32)), (6, .int ((ma x4.toNatClampNeg) + x5)), (0, .ref (ad q)), (1, .int k0), (2, .int k1), (4, .int x4), (5, .int x5)]) hx hb d_Mo_find_100 rfl hl (by decide) rfl (fun ls hl => ?_)
          refine lv_iinc (k := 7) (v := (x5 + (1 : Int32))) (lv' := [(5, .int (x5 + (1 : Int32))), (3, .int x3), (7, .int (0 : Int32)), (6, .int ((ma x4.toNatClampNeg) + x5)), (0, .ref (ad q)), (1, .int k0), (2, .int k1), (4, .int x4)]) hx hb d_Mo_find_101 hl rfl (cd_inc _ _ _ (by decide)) (by decide) rfl (fun ls hl => ?_)
          refine lv_goto (tgt := 28) hx hb d_Mo_find_104 (by decide) ?_
          exact ih x3 x4 (x5 + (1 : Int32)) u' w (fun k hk => (efr k (by omega))) H locs ls (lv_sub hl [4, 5, 6, 1, 7, 0] rfl) (show (f_Mo_find u ma ms mb mr k0 k1) = f_Mo_find_L28 u ma ms mb mr k0 k1 K gn x3 x4 (x5 + (1 : Int32)) u' by rw [he, f_Mo_find_L28, if_neg hc5, if_pos hc8]) (⟨hn1, fa2⟩) (⟨hn6, fa7⟩) (⟨hn3, fa4⟩) hL3 hL4 hP hS (ho.2.2.2.1 hc5 hc8) hKt
        · refine lv_iload_n hx hb d_Mo_find_60 rfl (lv_at hl 4 rfl) ?_
          refine lv_iconst (v := (-1 : Int32)) hx hb d_Mo_find_61 (by decide) ?_
          refine lv_icmp_eq (tgt := 71) hx hb d_Mo_find_62 (by decide) (fun hc10 => ?_) (fun hc10 => ?_)
          · refine lv_iconst (v := (1 : Int32)) hx hb d_Mo_find_71 (by decide) ?_
            refine lv_goto (tgt := 76) hx hb d_Mo_find_72 (by decide) ?_
            refine lv_istore (lv' := [(7, .int (1 : Int32)), (6, .int ((ma x4.toNatClampNeg) + x5)), (0, .ref (ad q)), (1, .int k0), (2, .int k1), (3, .int x3), (4, .int x4), (5, .int x5)]) hx hb d_Mo_find_76 hl (by decide) rfl (fun ls hl => ?_)
            refine lv_iload hx hb d_Mo_find_78 (lv_at hl 0 rfl) ?_
            refine lv_if_eq (tgt := 99) hx hb d_Mo_find_80 (by decide) (fun h9 => absurd h9 (by decide)) (fun _ => ?_)
            refine lv_aload_n hx hb d_Mo_find_83 rfl (lv_at hl 2 rfl) ?_
            refine lv_iload hx hb d_Mo_find_84 (lv_at hl 1 rfl) ?_
            refine lv_i2l hx hb d_Mo_find_86 rfl ?_
            refine va_calli (va_runV (As := [.long (((ma x4.toNatClampNeg) + x5).toInt64)]) (rest := []) ⟨hx, hb, hml, hown, hA⟩ (c_Mo_number l D tt ad N A zs w q u' ma ms mb mr (((ma x4.toNatClampNeg) + x5).toInt64) (⟨hn1, fa2⟩) (⟨hn6, fa7⟩) (⟨hn3, fa4⟩) hL3 hL4 (ho.2.2.2.2.1 hc5 hc8 hc10)) (cwV 1 hA (cd_gV aw_747 aw_748 aw_805 aw_8 aw_749) rfl rfl rfl ⟨rfl, by decide, by decide, by decide +kernel⟩ ⟨Nat.le_of_ble_eq_true rfl, Nat.le_of_ble_eq_true rfl⟩) ⟨cd_blind, cd_recv hK hP (k := q) (by omega) fa2 rfl, fun U hU hW => ⟨rfl, cd_pre hK hP hZ hS U hU hW⟩⟩ rfl rfl hl.1 rfl (lv_room (Nat.le_of_ble_eq_true rfl)) d_Mo_find_87 ⟨Nat.zero_le _, Nat.zero_le _⟩) hS (fun _ _ h => h) (fun _ h => h) (fun r12 w1 tE H locs ht hvm hr13 hP hz1 hk1 hS => ?_)
            have hP := cd_Pf ht hP
            obtain ⟨rfl, rfl⟩ := hr13
            refine lv_iload_n hx hb d_Mo_find_90 rfl (lv_at hl 3 rfl) ?_
            refine lv_icmp_ne (tgt := 99) hx hb d_Mo_find_91 (by decide) (fun hc15 => ?_) (fun hc15 => ?_)
            · refine lv_iload_n hx hb d_Mo_find_99 rfl (lv_at hl 5 rfl) ?_
              refine lv_istore_n (lv' := [(3, .int x3), (7, .int (1 : Int32)), (6, .int ((ma x4.toNatClampNeg) + x5)), (0, .ref (ad q)), (1, .int k0), (2, .int k1), (4, .int x4), (5, .int x5)]) hx hb d_Mo_find_100 rfl hl (by decide) rfl (fun ls hl => ?_)
              refine lv_iinc (k := 7) (v := (x5 + (1 : Int32))) (lv' := [(5, .int (x5 + (1 : Int32))), (3, .int x3), (7, .int (1 : Int32)), (6, .int ((ma x4.toNatClampNeg) + x5)), (0, .ref (ad q)), (1, .int k0), (2, .int k1), (4, .int x4)]) hx hb d_Mo_find_101 hl rfl (cd_inc _ _ _ (by decide)) (by decide) rfl (fun ls hl => ?_)
              refine lv_goto (tgt := 28) hx hb d_Mo_find_104 (by decide) ?_
              exact ih x3 x4 (x5 + (1 : Int32)) u' w (fun k hk => (efr k (by omega))) H locs ls (lv_sub hl [4, 5, 6, 1, 7, 0] rfl) (show (f_Mo_find u ma ms mb mr k0 k1) = f_Mo_find_L28 u ma ms mb mr k0 k1 K gn x3 x4 (x5 + (1 : Int32)) u' by rw [he, f_Mo_find_L28, if_neg hc5, if_neg hc8, if_pos hc10, if_neg hc15]) (⟨hn1, fa2⟩) (⟨hn6, fa7⟩) (⟨hn3, fa4⟩) hL3 hL4 hP hS (ho.2.2.2.2.2.1 hc5 hc8 hc10 hc15) hKt
            · refine lv_iload hx hb d_Mo_find_94 (lv_at hl 1 rfl) ?_
              refine lv_goto (tgt := 100) hx hb d_Mo_find_96 (by decide) ?_
              refine lv_istore_n (lv' := [(3, .int ((ma x4.toNatClampNeg) + x5)), (7, .int (1 : Int32)), (6, .int ((ma x4.toNatClampNeg) + x5)), (0, .ref (ad q)), (1, .int k0), (2, .int k1), (4, .int x4), (5, .int x5)]) hx hb d_Mo_find_100 rfl hl (by decide) rfl (fun ls hl => ?_)
              refine lv_iinc (k := 7) (v := (x5 + (1 : Int32))) (lv' := [(5, .int (x5 + (1 : Int32))), (3, .int ((ma x4.toNatClampNeg) + x5)), (7, .int (1 : Int32)), (6, .int ((ma x4.toNatClampNeg) + x5)), (0, .ref (ad q)), (1, .int k0), (2, .int k1), (4, .int x4)]) hx hb d_Mo_find_101 hl rfl (cd_inc _ _ _ (by decide)) (by decide) rfl (fun ls hl => ?_)
              refine lv_goto (tgt := 28) hx hb d_Mo_find_104 (by decide) ?_
              exact ih ((ma x4.toNatClampNeg) + x5) x4 (x5 + (1 : Int32)) u' w (fun k hk => (efr k (by omega))) H locs ls (lv_sub hl [4, 5, 6, 1, 7, 0] rfl) (show (f_Mo_find u ma ms mb mr k0 k1) = f_Mo_find_L28 u ma ms mb mr k0 k1 K gn ((ma x4.toNatClampNeg) + x5) x4 (x5 + (1 : Int32)) u' by rw [he, f_Mo_find_L28, if_neg hc5, if_neg hc8, if_pos hc10, if_pos hc15]) (⟨hn1, fa2⟩) (⟨hn6, fa7⟩) (⟨hn3, fa4⟩) hL3 hL4 hP hS (ho.2.2.2.2.2.2.1 hc5 hc8 hc10 hc15) hKt
          · refine lv_iload hx hb d_Mo_find_65 (lv_at hl 0 rfl) ?_
            refine lv_iload_n hx hb d_Mo_find_67 rfl (lv_at hl 4 rfl) ?_
            refine lv_icmp_ge (tgt := 75) hx hb d_Mo_find_68 (by decide) (fun hc16 => ?_) (fun hc16 => ?_)
            · refine lv_iconst (v := (0 : Int32)) hx hb d_Mo_find_75 (by decide) ?_
              refine lv_istore (lv' := [(7, .int (0 : Int32)), (6, .int ((ma x4.toNatClampNeg) + x5)), (0, .ref (ad q)), (1, .int k0), (2, .int k1), (3, .int x3), (4, .int x4), (5, .int x5)]) hx hb d_Mo_find_76 hl (by decide) rfl (fun ls hl => ?_)
              refine lv_iload hx hb d_Mo_find_78 (lv_at hl 0 rfl) ?_
              refine lv_if_eq (tgt := 99) hx hb d_Mo_find_80 (by decide) (fun _ => ?_) (fun h9 => absurd (by decide) h9)
              refine lv_iload_n hx hb d_Mo_find_99 rfl (lv_at hl 5 rfl) ?_
              refine lv_istore_n (lv' := [(3, .int x3), (7, .int (0 : Int32)), (6, .int ((ma x4.toNatClampNeg) + x5)), (0, .ref (ad q)), (1, .int k0), (2, .int k1), (4, .int x4), (5, .int x5)]) hx hb d_Mo_find_100 rfl hl (by decide) rfl (fun ls hl => ?_)
              refine lv_iinc (k := 7) (v := (x5 + (1 : Int32))) (lv' := [(5, .int (x5 + (1 : Int32))), (3, .int x3), (7, .int (0 : Int32)), (6, .int ((ma x4.toNatClampNeg) + x5)), (0, .ref (ad q)), (1, .int k0), (2, .int k1), (4, .int x4)]) hx hb d_Mo_find_101 hl rfl (cd_inc _ _ _ (by decide)) (by decide) rfl (fun ls hl => ?_)
              refine lv_goto (tgt := 28) hx hb d_Mo_find_104 (by decide) ?_
              exact ih x3 x4 (x5 + (1 : Int32)) u' w (fun k hk => (efr k (by omega))) H locs ls (lv_sub hl [4, 5, 6, 1, 7, 0] rfl) (show (f_Mo_find u ma ms mb mr k0 k1) = f_Mo_find_L28 u ma ms mb mr k0 k1 K gn x3 x4 (x5 + (1 : Int32)) u' by rw [he, f_Mo_find_L28, if_neg hc5, if_neg hc8, if_neg hc10, if_pos hc16]) (⟨hn1, fa2⟩) (⟨hn6, fa7⟩) (⟨hn3, fa4⟩) hL3 hL4 hP hS (ho.2.2.2.2.2.2.2.1 hc5 hc8 hc10 hc16) hKt
            · refine lv_iconst (v := (1 : Int32)) hx hb d_Mo_find_71 (by decide) ?_
              refine lv_goto (tgt := 76) hx hb d_Mo_find_72 (by decide) ?_
              refine lv_istore (lv' := [(7, .int (1 : Int32)), (6, .int ((ma x4.toNatClampNeg) + x5)), (0, .ref (ad q)), (1, .int k0), (2, .int k1), (3, .int x3), (4, .int x4), (5, .int x5)]) hx hb d_Mo_find_76 hl (by decide) rfl (fun ls hl => ?_)
              refine lv_iload hx hb d_Mo_find_78 (lv_at hl 0 rfl) ?_
              refine lv_if_eq (tgt := 99) hx hb d_Mo_find_80 (by decide) (fun h9 => absurd h9 (by decide)) (fun _ => ?_)
              refine lv_aload_n hx hb d_Mo_find_83 rfl (lv_at hl 2 rfl) ?_
              refine lv_iload hx hb d_Mo_find_84 (lv_at hl 1 rfl) ?_
              refine lv_i2l hx hb d_Mo_find_86 rfl ?_
              refine va_calli (va_runV (As := [.long (((ma x4.toNatClampNeg) + x5).toInt64)]) (rest := []) ⟨hx, hb, hml, hown, hA⟩ (c_Mo_number l D tt ad N A zs w q u' ma ms mb mr (((ma x4.toNatClampNeg) + x5).toInt64) (⟨hn1, fa2⟩) (⟨hn6, fa7⟩) (⟨hn3, fa4⟩) hL3 hL4 (ho.2.2.2.2.2.2.2.2.1 hc5 hc8 hc10 hc16)) (cwV 1 hA (cd_gV aw_747 aw_748 aw_805 aw_8 aw_749) rfl rfl rfl ⟨rfl, by decide, by decide, by decide +kernel⟩ ⟨Nat.le_of_ble_eq_true rfl, Nat.le_of_ble_eq_true rfl⟩) ⟨cd_blind, cd_recv hK hP (k := q) (by omega) fa2 rfl, fun U hU hW => ⟨rfl, cd_pre hK hP hZ hS U hU hW⟩⟩ rfl rfl hl.1 rfl (lv_room (Nat.le_of_ble_eq_true rfl)) d_Mo_find_87 ⟨Nat.zero_le _, Nat.zero_le _⟩) hS (fun _ _ h => h) (fun _ h => h) (fun r19 w2 tE H locs ht hvm hr20 hP hz1 hk1 hS => ?_)
              have hP := cd_Pf ht hP
              obtain ⟨rfl, rfl⟩ := hr20
              refine lv_iload_n hx hb d_Mo_find_90 rfl (lv_at hl 3 rfl) ?_
              refine lv_icmp_ne (tgt := 99) hx hb d_Mo_find_91 (by decide) (fun hc22 => ?_) (fun hc22 => ?_)
              · refine lv_iload_n hx hb d_Mo_find_99 rfl (lv_at hl 5 rfl) ?_
                refine lv_istore_n (lv' := [(3, .int x3), (7, .int (1 : Int32)), (6, .int ((ma x4.toNatClampNeg) + x5)), (0, .ref (ad q)), (1, .int k0), (2, .int k1), (4, .int x4), (5, .int x5)]) hx hb d_Mo_find_100 rfl hl (by decide) rfl (fun ls hl => ?_)
                refine lv_iinc (k := 7) (v := (x5 + (1 : Int32))) (lv' := [(5, .int (x5 + (1 : Int32))), (3, .int x3), (7, .int (1 : Int32)), (6, .int ((ma x4.toNatClampNeg) + x5)), (0, .ref (ad q)), (1, .int k0), (2, .int k1), (4, .int x4)]) hx hb d_Mo_find_101 hl rfl (cd_inc _ _ _ (by decide)) (by decide) rfl (fun ls hl => ?_)
                refine lv_goto (tgt := 28) hx hb d_Mo_find_104 (by decide) ?_
                exact ih x3 x4 (x5 + (1 : Int32)) u' w (fun k hk => (efr k (by omega))) H locs ls (lv_sub hl [4, 5, 6, 1, 7, 0] rfl) (show (f_Mo_find u ma ms mb mr k0 k1) = f_Mo_find_L28 u ma ms mb mr k0 k1 K gn x3 x4 (x5 + (1 : Int32)) u' by rw [he, f_Mo_find_L28, if_neg hc5, if_neg hc8, if_neg hc10, if_neg hc16, if_neg hc22]) (⟨hn1, fa2⟩) (⟨hn6, fa7⟩) (⟨hn3, fa4⟩) hL3 hL4 hP hS (ho.2.2.2.2.2.2.2.2.2.1 hc5 hc8 hc10 hc16 hc22) hKt
              · refine lv_iload hx hb d_Mo_find_94 (lv_at hl 1 rfl) ?_
                refine lv_goto (tgt := 100) hx hb d_Mo_find_96 (by decide) ?_
                refine lv_istore_n (lv' := [(3, .int ((ma x4.toNatClampNeg) + x5)), (7, .int (1 : Int32)), (6, .int ((ma x4.toNatClampNeg) + x5)), (0, .ref (ad q)), (1, .int k0), (2, .int k1), (4, .int x4), (5, .int x5)]) hx hb d_Mo_find_100 rfl hl (by decide) rfl (fun ls hl => ?_)
                refine lv_iinc (k := 7) (v := (x5 + (1 : Int32))) (lv' := [(5, .int (x5 + (1 : Int32))), (3, .int ((ma x4.toNatClampNeg) + x5)), (7, .int (1 : Int32)), (6, .int ((ma x4.toNatClampNeg) + x5)), (0, .ref (ad q)), (1, .int k0), (2, .int k1), (4, .int x4)]) hx hb d_Mo_find_101 hl rfl (cd_inc _ _ _ (by decide)) (by decide) rfl (fun ls hl => ?_)
                refine lv_goto (tgt := 28) hx hb d_Mo_find_104 (by decide) ?_
                exact ih ((ma x4.toNatClampNeg) + x5) x4 (x5 + (1 : Int32)) u' w (fun k hk => (efr k (by omega))) H locs ls (lv_sub hl [4, 5, 6, 1, 7, 0] rfl) (show (f_Mo_find u ma ms mb mr k0 k1) = f_Mo_find_L28 u ma ms mb mr k0 k1 K gn ((ma x4.toNatClampNeg) + x5) x4 (x5 + (1 : Int32)) u' by rw [he, f_Mo_find_L28, if_neg hc5, if_neg hc8, if_neg hc10, if_neg hc16, if_pos hc22]) (⟨hn1, fa2⟩) (⟨hn6, fa7⟩) (⟨hn3, fa4⟩) hL3 hL4 hP hS (ho.2.2.2.2.2.2.2.2.2.2 hc5 hc8 hc10 hc16 hc22) hKt
  have L11 : ∀ (gn : Nat) (x3 : Int32) (x4 : Int32) (u' : cd_Mo) (w : Nat → va_E) (efr : ∀ k : Nat, (k < q ∨ q + 1 ≤ k) → w k = w0 k) (H : Heap) (locs : List Loc) (ls : Array Slot), lv_has ls 8 [(0, .ref (ad q)), (1, .int k0), (2, .int k1), (3, .int x3), (4, .int x4)] → (f_Mo_find u ma ms mb mr k0 k1) = f_Mo_find_L11 u ma ms mb mr k0 k1 gn x3 x4 u' → cd_MoAt N tt ad w q u' → cd_IaAt N tt ad w (q + 1) 18 ma → cd_IaAt N tt ad w (q + 2) 18 ms → cd_ByAt N tt ad w (q + 4) 18432 mb → cd_IaAt N tt ad w (q + 5) 3 mr → cd_P D ad N A w H → va_S A s.heap H locs → o_Mo_find_L11 u ma ms mb mr k0 k1 gn x3 x4 u' → W p l e (headSpec w_Mo_find ({ frames := 3, cells := 0, slots := 0, locals := 70 })).room s m [.ref (ad q), .int k0, .int k1].toArray below meth c H locs 0 0 (MQ below (va_Qi (fun r w' => (f_Mo_find u ma ms mb mr k0 k1).1 = r ∧ cd_MoAt N tt ad w' q ((f_Mo_find u ma ms mb mr k0 k1).2) ∧ (∀ k : Nat, (k < q ∨ q + 1 ≤ k) → w' k = w0 k)) (fun w' t => cd_P D ad N A w' t.heap) A) [.ref (ad q), .int k0, .int k1].toArray s 0 0 A) (F0 m 11 ls []) := by
    intro gn
    induction gn with
    | zero => intro x3 x4 u' w efr H locs ls hl he hL0 hL1 hL2 hL3 hL4 hP hS ho; exact ho.elim
    | succ gn ih =>
      intro x3 x4 u' w efr H locs ls hl he hL0 hL1 hL2 hL3 hL4 hP hS ho
      have ho : (vp_in (1 : Int32) 3) ∧ (¬ ((6 : Int32) + (mr (1 : Int32).toNatClampNeg)) ≤ x4 → o_Mo_find_L28 u ma ms mb mr k0 k1 (fun (x3' : Int32) (x4' : Int32) (x5' : Int32) (u'' : cd_Mo) => (o_Mo_find_L11 u ma ms mb mr k0 k1 gn x3' (x4' + (1 : Int32)) u'')) 1025 x3 x4 (0 : Int32) u') := ho
      obtain ⟨hn23, fa24⟩ := hL0
      refine lv_iload hx hb d_Mo_find_11 (lv_at hl 4 rfl) ?_
      refine lv_bipush (v := (6 : Int32)) hx hb d_Mo_find_13 (by decide) ?_
      refine lv_aload_n hx hb d_Mo_find_15 rfl (lv_at hl 0 rfl) ?_
      refine g_get (ci := 7) (C := R_Mo) (T := F_Mo) (Nf := 16) (v := .ref (ad (q + 5))) hx hb hA in_Mo hown hK hP (k := q) (by omega) fa24 rfl 5 (by decide) (hA _ aw_565) (fun _ h9 => h9) rfl d_Mo_find_16 ?_
      refine lv_iconst (v := (1 : Int32)) hx hb d_Mo_find_19 (by decide) ?_
      obtain ⟨hn25, fa26⟩ := hL4
      refine g_iald hx hb hK hP (k := (q + 5)) (by omega) fa26 rfl (ho.1) d_Mo_find_20 ?_
      refine lv_iadd hx hb d_Mo_find_21 ?_
      refine lv_icmp_ge (tgt := 113) hx hb d_Mo_find_22 (by decide) (fun hc27 => ?_) (fun hc27 => ?_)
      · refine lv_iload_n hx hb d_Mo_find_113 rfl (lv_at hl 3 rfl) ?_
        have hf28 : (f_Mo_find u ma ms mb mr k0 k1) = (x3, u') := by rw [he, f_Mo_find_L11, if_pos hc27]
        exact W.iret (v := x3) hx hb hr (fun tE ht _ => ⟨⟨_, w, rfl, ⟨(by rw [hf28]), (by rw [hf28]; exact ⟨hn23, fa24⟩), (fun k hk => (efr k (by omega)))⟩, cd_Pt ht hP⟩, hS.F ht⟩) hS.2.2 d_Mo_find_114
      · refine lv_iconst (v := (0 : Int32)) hx hb d_Mo_find_25 (by decide) ?_
        refine lv_istore (lv' := [(5, .int (0 : Int32)), (0, .ref (ad q)), (1, .int k0), (2, .int k1), (3, .int x3), (4, .int x4)]) hx hb d_Mo_find_26 hl (by decide) rfl (fun ls hl => ?_)
        refine L28 (fun (x3' : Int32) (x4' : Int32) (x5' : Int32) (u'' : cd_Mo) => (f_Mo_find_L11 u ma ms mb mr k0 k1 gn x3' (x4' + (1 : Int32)) u'')) (fun (x3' : Int32) (x4' : Int32) (x5' : Int32) (u'' : cd_Mo) => (o_Mo_find_L11 u ma ms mb mr k0 k1 gn x3' (x4' + (1 : Int32)) u'')) 1025 x3 x4 (0 : Int32) u' w (fun k hk => (efr k (by omega))) H locs ls (lv_sub hl [1, 2, 3, 4, 5, 0] rfl) (show (f_Mo_find u ma ms mb mr k0 k1) = f_Mo_find_L28 u ma ms mb mr k0 k1 (fun (x3' : Int32) (x4' : Int32) (x5' : Int32) (u'' : cd_Mo) => (f_Mo_find_L11 u ma ms mb mr k0 k1 gn x3' (x4' + (1 : Int32)) u'')) 1025 x3 x4 (0 : Int32) u' by rw [he, f_Mo_find_L11, if_neg hc27]) (⟨hn23, fa24⟩) hL1 hL2 hL3 (⟨hn25, fa26⟩) hP hS (ho.2 hc27) (fun x3' x4' x5' u'' w3 efr1 H locs ls hl he1 hK1_0 hK1_1 hK1_2 hK1_3 hK1_4 hP hS ho => ?_)
        have he1 : (f_Mo_find u ma ms mb mr k0 k1) = (f_Mo_find_L11 u ma ms mb mr k0 k1 gn x3' (x4' + (1 : Int32)) u'') := he1
        have ho : (o_Mo_find_L11 u ma ms mb mr k0 k1 gn x3' (x4' + (1 : Int32)) u'') := ho
        obtain ⟨hn29, fa30⟩ := hK1_0
        refine lv_iinc (k := 4) (v := (x4' + (1 : Int32))) (lv' := [(4, .int (x4' + (1 : Int32))), (0, .ref (ad q)), (1, .int k0), (2, .int k1), (3, .int x3'), (5, .int x5')]) hx hb d_Mo_find_107 hl rfl (cd_inc _ _ _ (by decide)) (by decide) rfl (fun ls hl => ?_)
        refine lv_goto (tgt := 11) hx hb d_Mo_find_110 (by decide) ?_
        exact ih x3' (x4' + (1 : Int32)) u'' w3 (fun k hk => (efr1 k (by omega))) H locs ls (lv_sub hl [1, 2, 3, 4, 0] rfl) (show (f_Mo_find u ma ms mb mr k0 k1) = f_Mo_find_L11 u ma ms mb mr k0 k1 gn x3' (x4' + (1 : Int32)) u'' by rw [he1]) (⟨hn29, fa30⟩) hK1_1 hK1_2 hK1_3 hK1_4 hP hS (ho)
  have hS : va_S A s.heap s.heap [] := va_S.rf
  have hl := lv_entry ([.ref (ad q), .int k0, .int k1]) (n := 8) (Nat.le_of_ble_eq_true rfl)
  rw [lg_entry_eq]
  generalize (lg_sl ([.ref (ad q), .int k0, .int k1]) ++ List.replicate (8 - (lg_sl ([.ref (ad q), .int k0, .int k1])).length) Slot.unset).toArray = ls at hl ⊢
  have hl : lv_has ls 8 [(0, .ref (ad q)), (1, .int k0), (2, .int k1)] := hl
  have ho : (o_Mo_find_L11 u ma ms mb mr k0 k1 7 (-1 : Int32) (6 : Int32) ((0 : Int32), u.2.1, u.2.2.1, u.2.2.2.1, u.2.2.2.2.1, u.2.2.2.2.2)) := ho
  obtain ⟨hn31, fa32⟩ := hR0
  refine lv_aload_n hx hb d_Mo_find_0 rfl (lv_at hl 0 rfl) ?_
  refine lv_iconst (v := (0 : Int32)) hx hb d_Mo_find_1 (by decide) ?_
  refine g_put (ci := 7) (C := R_Mo) (T := F_Mo) (Nf := 16) (v := .int (0 : Int32)) (ty := .int) hx hb hA in_Mo t_Mo t_Mo_ok n_Mo hown hK hP hS (k := q) (by omega) fa32 rfl 0 (by decide) (hA _ aw_560) (fun _ h9 => h9) rfl (by decide +kernel) rfl rfl (Nat.le_of_ble_eq_true rfl) d_Mo_find_2 (fun H locs w4 fa33 e4 hP hS => ?_)
  have fa33 : w4 q = .inr (7, [.int (0 : Int32), .ref (ad (q + 1)), .ref (ad (q + 2)), .ref (ad (q + 3)), .ref (ad (q + 4)), .ref (ad (q + 5)), .ref (ad (q + 6)), .ref (ad (q + 7)), .ref (ad (q + 8)), .ref (ad (q + 9)), .int u.2.1, .ref (ad (q + 10)), .int u.2.2.1, .int u.2.2.2.1, .int u.2.2.2.2.1, .int u.2.2.2.2.2]) := fa33
  have at34 := cd_IaAt_keep hR1 (fun k h1 h2 => e4 k (by omega))
  have at35 := cd_IaAt_keep hR2 (fun k h1 h2 => e4 k (by omega))
  have at36 := cd_ByAt_keep hR3 (fun k h1 h2 => e4 k (by omega))
  have at37 := cd_IaAt_keep hR4 (fun k h1 h2 => e4 k (by omega))
  refine lv_iconst (v := (-1 : Int32)) hx hb d_Mo_find_5 (by decide) ?_
  refine lv_istore_n (lv' := [(3, .int (-1 : Int32)), (0, .ref (ad q)), (1, .int k0), (2, .int k1)]) hx hb d_Mo_find_6 rfl hl (by decide) rfl (fun ls hl => ?_)
  refine lv_bipush (v := (6 : Int32)) hx hb d_Mo_find_7 (by decide) ?_
  refine lv_istore (lv' := [(4, .int (6 : Int32)), (3, .int (-1 : Int32)), (0, .ref (ad q)), (1, .int k0), (2, .int k1)]) hx hb d_Mo_find_9 hl (by decide) rfl (fun ls hl => ?_)
  exact L11 7 (-1 : Int32) (6 : Int32) ((0 : Int32), u.2.1, u.2.2.1, u.2.2.2.1, u.2.2.2.2.1, u.2.2.2.2.2) w4 (fun k hk => (e4 k (by omega))) H locs ls (lv_sub hl [2, 3, 4, 1, 0] rfl) (show (f_Mo_find u ma ms mb mr k0 k1) = f_Mo_find_L11 u ma ms mb mr k0 k1 7 (-1 : Int32) (6 : Int32) ((0 : Int32), u.2.1, u.2.2.1, u.2.2.2.1, u.2.2.2.2.1, u.2.2.2.2.2) by rw [f_Mo_find]) (⟨hn31, fa33⟩) at34 at35 at36 at37 hP hS (ho)
def f_Mo_caller_L57 (u : cd_Mo) (ma : cd_Ia) (ms : cd_Ia) (mb : cd_By) (mr : cd_Ia) (mt : cd_Ia) (mg : cd_Ia) (k0 : Int32) (k1 : Int32) (K : Int64 → Int32 → Int32 → cd_Mo → Int32 × cd_Mo) : Nat → Int64 → Int32 → Int32 → cd_Mo → Int32 × cd_Mo
  | 0, _, _, _, _ => default
  | gn + 1, x3, x7, x8, u' => (if (8 : Int32) ≤ x8 then (K x3 x7 x8 u') else (if (f_Mo_within u' ma ms mr (1 : Int32) (x3 + x8.toInt64)) = (-1 : Int32) then ((-1 : Int32), u') else (f_Mo_caller_L57 u ma ms mb mr mt mg k0 k1 K gn x3 x7 (x8 + (1 : Int32)) u')))
def f_Mo_caller_L47 (u : cd_Mo) (ma : cd_Ia) (ms : cd_Ia) (mb : cd_By) (mr : cd_Ia) (mt : cd_Ia) (mg : cd_Ia) (k0 : Int32) (k1 : Int32) : Nat → Int64 → Int64 → Int32 → cd_Mo → Int32 × cd_Mo
  | 0, _, _, _, _ => default
  | gn + 1, x3, x5, x7, u' => (if x3 ≤ x5 then ((-1 : Int32), u') else (f_Mo_caller_L57 u ma ms mb mr mt mg k0 k1 (fun (x3' : Int64) (x7' : Int32) (x8' : Int32) (u'' : cd_Mo) => (if x7' = k1 then ((f_Mo_number u'' ma ms mb mr (x3' + (4 : Int64))), u'') else (f_Mo_caller_L47 u ma ms mb mr mt mg k0 k1 gn ((f_Mo_number u'' ma ms mb mr x3').toInt64) x3' (x7' + (1 : Int32)) u''))) 9 x3 x7 (0 : Int32) u'))
def f_Mo_caller (u : cd_Mo) (ma : cd_Ia) (ms : cd_Ia) (mb : cd_By) (mr : cd_Ia) (mt : cd_Ia) (mg : cd_Ia) (k0 : Int32) (k1 : Int32) : Int32 × cd_Mo := (if k0 < 0 then ((-1 : Int32), ((0 : Int32), u.2.1, u.2.2.1, u.2.2.2.1, u.2.2.2.2.1, u.2.2.2.2.2)) else (if (mt (1 : Int32).toNatClampNeg) ≤ k0 then ((-1 : Int32), ((0 : Int32), u.2.1, u.2.2.1, u.2.2.2.1, u.2.2.2.2.1, u.2.2.2.2.2)) else (if 0 ≤ k1 then (f_Mo_caller_L47 u ma ms mb mr mt mg k0 k1 6146 ((mg (((8 : Int32) * ((3 : Int32) + k0)) + (7 : Int32)).toNatClampNeg).toInt64) (0 : Int64) (0 : Int32) ((0 : Int32), u.2.1, u.2.2.1, u.2.2.2.1, u.2.2.2.2.1, u.2.2.2.2.2)) else ((-1 : Int32), ((0 : Int32), u.2.1, u.2.2.1, u.2.2.2.1, u.2.2.2.2.1, u.2.2.2.2.2)))))
def o_Mo_caller_L57 (u : cd_Mo) (ma : cd_Ia) (ms : cd_Ia) (mb : cd_By) (mr : cd_Ia) (mt : cd_Ia) (mg : cd_Ia) (k0 : Int32) (k1 : Int32) (KO : Int64 → Int32 → Int32 → cd_Mo → Prop) : Nat → Int64 → Int32 → Int32 → cd_Mo → Prop
  | 0, _, _, _, _ => False
  | gn + 1, x3, x7, x8, u' => ((8 : Int32) ≤ x8 → KO x3 x7 x8 u') ∧ (¬ (8 : Int32) ≤ x8 → o_Mo_within u' ma ms mr (1 : Int32) (x3 + x8.toInt64)) ∧ (¬ (8 : Int32) ≤ x8 → ¬ (f_Mo_within u' ma ms mr (1 : Int32) (x3 + x8.toInt64)) = (-1 : Int32) → o_Mo_caller_L57 u ma ms mb mr mt mg k0 k1 KO gn x3 x7 (x8 + (1 : Int32)) u')
def o_Mo_caller_L47 (u : cd_Mo) (ma : cd_Ia) (ms : cd_Ia) (mb : cd_By) (mr : cd_Ia) (mt : cd_Ia) (mg : cd_Ia) (k0 : Int32) (k1 : Int32) : Nat → Int64 → Int64 → Int32 → cd_Mo → Prop
  | 0, _, _, _, _ => False
  | gn + 1, x3, x5, x7, u' => (¬ x3 ≤ x5 → o_Mo_caller_L57 u ma ms mb mr mt mg k0 k1 (fun (x3' : Int64) (x7' : Int32) (x8' : Int32) (u'' : cd_Mo) => (¬ x7' = k1 → o_Mo_number u'' ma ms mb mr x3') ∧ (¬ x7' = k1 → o_Mo_caller_L47 u ma ms mb mr mt mg k0 k1 gn ((f_Mo_number u'' ma ms mb mr x3').toInt64) x3' (x7' + (1 : Int32)) u'') ∧ (x7' = k1 → o_Mo_number u'' ma ms mb mr (x3' + (4 : Int64)))) 9 x3 x7 (0 : Int32) u')
def o_Mo_caller (u : cd_Mo) (ma : cd_Ia) (ms : cd_Ia) (mb : cd_By) (mr : cd_Ia) (mt : cd_Ia) (mg : cd_Ia) (k0 : Int32) (k1 : Int32) : Prop := (¬ k0 < 0 → vp_in (1 : Int32) 3) ∧ (¬ k0 < 0 → ¬ (mt (1 : Int32).toNatClampNeg) ≤ k0 → 0 ≤ k1 → vp_in (((8 : Int32) * ((3 : Int32) + k0)) + (7 : Int32)) 72) ∧ (¬ k0 < 0 → ¬ (mt (1 : Int32).toNatClampNeg) ≤ k0 → 0 ≤ k1 → o_Mo_caller_L47 u ma ms mb mr mt mg k0 k1 6146 ((mg (((8 : Int32) * ((3 : Int32) + k0)) + (7 : Int32)).toNatClampNeg).toInt64) (0 : Int64) (0 : Int32) ((0 : Int32), u.2.1, u.2.2.1, u.2.2.2.1, u.2.2.2.2.1, u.2.2.2.2.2))
set_option maxHeartbeats 4000000 in
set_option maxRecDepth 100000 in
theorem c_Mo_caller (l : Launch) (D : va_G) (tt : Nat → ClassId) (ad : Nat → Nat) (N : Nat) (A : Nat → Prop) (zs : Nat → Nat) (w0 : Nat → va_E) (q : Nat) (u : cd_Mo) (ma : cd_Ia) (ms : cd_Ia) (mb : cd_By) (mr : cd_Ia) (mt : cd_Ia) (mg : cd_Ia) (k0 : Int32) (k1 : Int32) (hR0 : cd_MoAt N tt ad w0 q u) (hR1 : cd_IaAt N tt ad w0 (q + 1) 18 ma) (hR2 : cd_IaAt N tt ad w0 (q + 2) 18 ms) (hR3 : cd_ByAt N tt ad w0 (q + 4) 18432 mb) (hR4 : cd_IaAt N tt ad w0 (q + 5) 3 mr) (hR5 : cd_IaAt N tt ad w0 (q + 6) 3 mt) (hR6 : cd_IaAt N tt ad w0 (q + 8) 72 mg) (ho : o_Mo_caller u ma ms mb mr mt mg k0 k1) : Met l y_Mo_caller w_Mo_caller ({ frames := 3, cells := 0, slots := 0, locals := 70 }) (va_Pc [.ref (ad q), .int k0, .int k1] (cd_U D tt ad N A zs w0)) (va_Qi (fun r w' => (f_Mo_caller u ma ms mb mr mt mg k0 k1).1 = r ∧ cd_MoAt N tt ad w' q ((f_Mo_caller u ma ms mb mr mt mg k0 k1).2) ∧ (∀ k : Nat, (k < q ∨ q + 1 ≤ k) → w' k = w0 k)) (fun w' t => cd_P D ad N A w' t.heap) A) 0 0 A := by
  refine Met.ofW (cc := b_Mo_caller) (maxL := 9) (ret := (some .int)) (by decide) rfl ?_
  intro p e s m args below meth c s₁ B hml hv
  obtain ⟨rfl, hP, hK, hZ⟩ := hv
  have hx := B.exec
  have hb := B.bytes
  have hr := B.returns
  have hA : ∀ w ∈ cd_AW, w.before _ s = true := fun w h => atoms_spec (ws := w_Mo_caller) B.pre w (List.mem_cons_of_mem _ h)
  have hown : s.vm.findClass R_Mo = some m.cls := findClass_of_methodNamed B.named
  have hlocks := B.notSynchronized
  have L57 : ∀ (K : Int64 → Int32 → Int32 → cd_Mo → Int32 × cd_Mo) (KO : Int64 → Int32 → Int32 → cd_Mo → Prop) (gn : Nat) (x3 : Int64) (x7 : Int32) (x8 : Int32) (u' : cd_Mo) (w : Nat → va_E) (efr : ∀ k : Nat, (k < q ∨ q + 1 ≤ k) → w k = w0 k) (H : Heap) (locs : List Loc) (ls : Array Slot), lv_has ls 9 [(0, .ref (ad q)), (2, .int k1), (3, .long x3), (7, .int x7), (8, .int x8)] → (f_Mo_caller u ma ms mb mr mt mg k0 k1) = f_Mo_caller_L57 u ma ms mb mr mt mg k0 k1 K gn x3 x7 x8 u' → cd_MoAt N tt ad w q u' → cd_IaAt N tt ad w (q + 1) 18 ma → cd_IaAt N tt ad w (q + 2) 18 ms → cd_ByAt N tt ad w (q + 4) 18432 mb → cd_IaAt N tt ad w (q + 5) 3 mr → cd_IaAt N tt ad w (q + 6) 3 mt → cd_IaAt N tt ad w (q + 8) 72 mg → cd_P D ad N A w H → va_S A s.heap H locs → o_Mo_caller_L57 u ma ms mb mr mt mg k0 k1 KO gn x3 x7 x8 u' → (∀ (x3 : Int64) (x7 : Int32) (x8 : Int32) (u' : cd_Mo) (w : Nat → va_E) (efr : ∀ k : Nat, (k < q ∨ q + 1 ≤ k) → w k = w0 k) (H : Heap) (locs : List Loc) (ls : Array Slot), lv_has ls 9 [(0, .ref (ad q)), (2, .int k1), (3, .long x3), (7, .int x7), (8, .int x8)] → (f_Mo_caller u ma ms mb mr mt mg k0 k1) = K x3 x7 x8 u' → cd_MoAt N tt ad w q u' → cd_IaAt N tt ad w (q + 1) 18 ma → cd_IaAt N tt ad w (q + 2) 18 ms → cd_ByAt N tt ad w (q + 4) 18432 mb → cd_IaAt N tt ad w (q + 5) 3 mr → cd_IaAt N tt ad w (q + 6) 3 mt → cd_IaAt N tt ad w (q + 8) 72 mg → cd_P D ad N A w H → va_S A s.heap H locs → KO x3 x7 x8 u' → W p l e (headSpec w_Mo_caller ({ frames := 3, cells := 0, slots := 0, locals := 70 })).room s m [.ref (ad q), .int k0, .int k1].toArray below meth c H locs 0 0 (MQ below (va_Qi (fun r w' => (f_Mo_caller u ma ms mb mr mt mg k0 k1).1 = r ∧ cd_MoAt N tt ad w' q ((f_Mo_caller u ma ms mb mr mt mg k0 k1).2) ∧ (∀ k : Nat, (k < q ∨ q + 1 ≤ k) → w' k = w0 k)) (fun w' t => cd_P D ad N A w' t.heap) A) [.ref (ad q), .int k0, .int k1].toArray s 0 0 A) (F0 m 86 ls [])) → W p l e (headSpec w_Mo_caller ({ frames := 3, cells := 0, slots := 0, locals := 70 })).room s m [.ref (ad q), .int k0, .int k1].toArray below meth c H locs 0 0 (MQ below (va_Qi (fun r w' => (f_Mo_caller u ma ms mb mr mt mg k0 k1).1 = r ∧ cd_MoAt N tt ad w' q ((f_Mo_caller u ma ms mb mr mt mg k0 k1).2) ∧ (∀ k : Nat, (k < q ∨ q + 1 ≤ k) → w' k = w0 k)) (fun w' t => cd_P D ad N A w' t.heap) A) [.ref (ad q), .int k0, .int k1].toArray s 0 0 A) (F0 m 57 ls []) := by
    intro K KO gn
    induction gn with
    | zero => intro x3 x7 x8 u' w efr H locs ls hl he hL0 hL1 hL2 hL3 hL4 hL5 hL6 hP hS ho hKt; exact ho.elim
    | succ gn ih =>
      intro x3 x7 x8 u' w efr H locs ls hl he hL0 hL1 hL2 hL3 hL4 hL5 hL6 hP hS ho hKt
      have ho : ((8 : Int32) ≤ x8 → KO x3 x7 x8 u') ∧ (¬ (8 : Int32) ≤ x8 → o_Mo_within u' ma ms mr (1 : Int32) (x3 + x8.toInt64)) ∧ (¬ (8 : Int32) ≤ x8 → ¬ (f_Mo_within u' ma ms mr (1 : Int32) (x3 + x8.toInt64)) = (-1 : Int32) → o_Mo_caller_L57 u ma ms mb mr mt mg k0 k1 KO gn x3 x7 (x8 + (1 : Int32)) u') := ho
      obtain ⟨hn1, fa2⟩ := hL0
      refine lv_iload hx hb d_Mo_caller_57 (lv_at hl 4 rfl) ?_
      refine lv_bipush (v := (8 : Int32)) hx hb d_Mo_caller_59 (by decide) ?_
      refine lv_icmp_ge (tgt := 86) hx hb d_Mo_caller_61 (by decide) (fun hc3 => ?_) (fun hc3 => ?_)
      · exact hKt x3 x7 x8 u' w (fun k hk => (efr k (by omega))) H locs ls (lv_sub hl [0, 1, 2, 3, 4] rfl) (show (f_Mo_caller u ma ms mb mr mt mg k0 k1) = K x3 x7 x8 u' by rw [he, f_Mo_caller_L57, if_pos hc3]) (⟨hn1, fa2⟩) hL1 hL2 hL3 hL4 hL5 hL6 hP hS (ho.1 hc3)
      · refine lv_aload_n hx hb d_Mo_caller_64 rfl (lv_at hl 0 rfl) ?_
        refine lv_iconst (v := (1 : Int32)) hx hb d_Mo_caller_65 (by decide) ?_
        refine lv_lload_n hx hb d_Mo_caller_66 rfl (lv_at hl 2 rfl) ?_
        refine lv_iload hx hb d_Mo_caller_67 (lv_at hl 4 rfl) ?_
        refine lv_i2l hx hb d_Mo_caller_69 rfl ?_
        refine lv_ladd hx hb d_Mo_caller_70 ?_
        refine va_calli (va_runV (As := [.int (1 : Int32), .long (x3 + x8.toInt64)]) (rest := []) ⟨hx, hb, hml, hown, hA⟩ (c_Mo_within l D tt ad N A zs w q u' ma ms mr (1 : Int32) (x3 + x8.toInt64) (⟨hn1, fa2⟩) hL1 hL2 hL4 (ho.2.1 hc3)) (cwV 2 hA (cd_gV aw_601 aw_602 aw_784 aw_8 aw_603) rfl rfl rfl ⟨rfl, by decide, by decide, by decide +kernel⟩ ⟨Nat.le_of_ble_eq_true rfl, Nat.le_of_ble_eq_true rfl⟩) ⟨cd_blind, cd_recv hK hP (k := q) (by omega) fa2 rfl, fun U hU hW => ⟨rfl, cd_pre hK hP hZ hS U hU hW⟩⟩ rfl rfl hl.1 rfl (lv_room (Nat.le_of_ble_eq_true rfl)) d_Mo_caller_71 ⟨Nat.zero_le _, Nat.zero_le _⟩) hS (fun _ _ h => h) (fun _ h => h) (fun r4 w1 tE H locs ht hvm hr5 hP hz1 hk1 hS => ?_)
        have hP := cd_Pf ht hP
        obtain ⟨rfl, rfl⟩ := hr5
        refine lv_iconst (v := (-1 : Int32)) hx hb d_Mo_caller_74 (by decide) ?_
        refine lv_icmp_ne (tgt := 80) hx hb d_Mo_caller_75 (by decide) (fun hc7 => ?_) (fun hc7 => ?_)
        · refine lv_iinc (k := 4) (v := (x8 + (1 : Int32))) (lv' := [(8, .int (x8 + (1 : Int32))), (0, .ref (ad q)), (2, .int k1), (3, .long x3), (7, .int x7)]) hx hb d_Mo_caller_80 hl rfl (cd_inc _ _ _ (by decide)) (by decide) rfl (fun ls hl => ?_)
          refine lv_goto (tgt := 57) hx hb d_Mo_caller_83 (by decide) ?_
          exact ih x3 x7 (x8 + (1 : Int32)) u' w (fun k hk => (efr k (by omega))) H locs ls (lv_sub hl [1, 2, 3, 4, 0] rfl) (show (f_Mo_caller u ma ms mb mr mt mg k0 k1) = f_Mo_caller_L57 u ma ms mb mr mt mg k0 k1 K gn x3 x7 (x8 + (1 : Int32)) u' by rw [he, f_Mo_caller_L57, if_neg hc3, if_neg hc7]) (⟨hn1, fa2⟩) hL1 hL2 hL3 hL4 hL5 hL6 hP hS (ho.2.2 hc3 hc7) hKt
        · refine lv_iconst (v := (-1 : Int32)) hx hb d_Mo_caller_78 (by decide) ?_
          have hf8 : (f_Mo_caller u ma ms mb mr mt mg k0 k1) = ((-1 : Int32), u') := by rw [he, f_Mo_caller_L57, if_neg hc3, if_pos hc7]
          exact W.iret (v := (-1 : Int32)) hx hb hr (fun tE ht _ => ⟨⟨_, w, rfl, ⟨(by rw [hf8]), (by rw [hf8]; exact ⟨hn1, fa2⟩), (fun k hk => (efr k (by omega)))⟩, cd_Pt ht hP⟩, hS.F ht⟩) hS.2.2 d_Mo_caller_79
  have L47 : ∀ (gn : Nat) (x3 : Int64) (x5 : Int64) (x7 : Int32) (u' : cd_Mo) (w : Nat → va_E) (efr : ∀ k : Nat, (k < q ∨ q + 1 ≤ k) → w k = w0 k) (H : Heap) (locs : List Loc) (ls : Array Slot), lv_has ls 9 [(0, .ref (ad q)), (2, .int k1), (3, .long x3), (5, .long x5), (7, .int x7)] → (f_Mo_caller u ma ms mb mr mt mg k0 k1) = f_Mo_caller_L47 u ma ms mb mr mt mg k0 k1 gn x3 x5 x7 u' → cd_MoAt N tt ad w q u' → cd_IaAt N tt ad w (q + 1) 18 ma → cd_IaAt N tt ad w (q + 2) 18 ms → cd_ByAt N tt ad w (q + 4) 18432 mb → cd_IaAt N tt ad w (q + 5) 3 mr → cd_IaAt N tt ad w (q + 6) 3 mt → cd_IaAt N tt ad w (q + 8) 72 mg → cd_P D ad N A w H → va_S A s.heap H locs → o_Mo_caller_L47 u ma ms mb mr mt mg k0 k1 gn x3 x5 x7 u' → W p l e (headSpec w_Mo_caller ({ frames := 3, cells := 0, slots := 0, locals := 70 })).room s m [.ref (ad q), .int k0, .int k1].toArray below meth c H locs 0 0 (MQ below (va_Qi (fun r w' => (f_Mo_caller u ma ms mb mr mt mg k0 k1).1 = r ∧ cd_MoAt N tt ad w' q ((f_Mo_caller u ma ms mb mr mt mg k0 k1).2) ∧ (∀ k : Nat, (k < q ∨ q + 1 ≤ k) → w' k = w0 k)) (fun w' t => cd_P D ad N A w' t.heap) A) [.ref (ad q), .int k0, .int k1].toArray s 0 0 A) (F0 m 47 ls []) := by
    intro gn
    induction gn with
    | zero => intro x3 x5 x7 u' w efr H locs ls hl he hL0 hL1 hL2 hL3 hL4 hL5 hL6 hP hS ho; exact ho.elim
    | succ gn ih =>
      intro x3 x5 x7 u' w efr H locs ls hl he hL0 hL1 hL2 hL3 hL4 hL5 hL6 hP hS ho
      have ho : (¬ x3 ≤ x5 → o_Mo_caller_L57 u ma ms mb mr mt mg k0 k1 (fun (x3' : Int64) (x7' : Int32) (x8' : Int32) (u'' : cd_Mo) => (¬ x7' = k1 → o_Mo_number u'' ma ms mb mr x3') ∧ (¬ x7' = k1 → o_Mo_caller_L47 u ma ms mb mr mt mg k0 k1 gn ((f_Mo_number u'' ma ms mb mr x3').toInt64) x3' (x7' + (1 : Int32)) u'') ∧ (x7' = k1 → o_Mo_number u'' ma ms mb mr (x3' + (4 : Int64)))) 9 x3 x7 (0 : Int32) u') := ho
      obtain ⟨hn9, fa10⟩ := hL0
      refine lv_lload_n hx hb d_Mo_caller_47 rfl (lv_at hl 2 rfl) ?_
      refine lv_lload hx hb d_Mo_caller_48 (lv_at hl 3 rfl) ?_
      refine g_lif_le (tgt := 118) hx hb d_Mo_caller_50 d_Mo_caller_51 (by decide) (fun hc11 => ?_) (fun hc11 => ?_)
      · refine lv_iconst (v := (-1 : Int32)) hx hb d_Mo_caller_118 (by decide) ?_
        have hf12 : (f_Mo_caller u ma ms mb mr mt mg k0 k1) = ((-1 : Int32), u') := by rw [he, f_Mo_caller_L47, if_pos hc11]
        exact W.iret (v := (-1 : Int32)) hx hb hr (fun tE ht _ => ⟨⟨_, w, rfl, ⟨(by rw [hf12]), (by rw [hf12]; exact ⟨hn9, fa10⟩), (fun k hk => (efr k (by omega)))⟩, cd_Pt ht hP⟩, hS.F ht⟩) hS.2.2 d_Mo_caller_119
      · refine lv_iconst (v := (0 : Int32)) hx hb d_Mo_caller_54 (by decide) ?_
        refine lv_istore (lv' := [(8, .int (0 : Int32)), (0, .ref (ad q)), (2, .int k1), (3, .long x3), (5, .long x5), (7, .int x7)]) hx hb d_Mo_caller_55 hl (by decide) rfl (fun ls hl => ?_)
        refine L57 (fun (x3' : Int64) (x7' : Int32) (x8' : Int32) (u'' : cd_Mo) => (if x7' = k1 then ((f_Mo_number u'' ma ms mb mr (x3' + (4 : Int64))), u'') else (f_Mo_caller_L47 u ma ms mb mr mt mg k0 k1 gn ((f_Mo_number u'' ma ms mb mr x3').toInt64) x3' (x7' + (1 : Int32)) u''))) (fun (x3' : Int64) (x7' : Int32) (x8' : Int32) (u'' : cd_Mo) => (¬ x7' = k1 → o_Mo_number u'' ma ms mb mr x3') ∧ (¬ x7' = k1 → o_Mo_caller_L47 u ma ms mb mr mt mg k0 k1 gn ((f_Mo_number u'' ma ms mb mr x3').toInt64) x3' (x7' + (1 : Int32)) u'') ∧ (x7' = k1 → o_Mo_number u'' ma ms mb mr (x3' + (4 : Int64)))) 9 x3 x7 (0 : Int32) u' w (fun k hk => (efr k (by omega))) H locs ls (lv_sub hl [1, 2, 3, 5, 0] rfl) (show (f_Mo_caller u ma ms mb mr mt mg k0 k1) = f_Mo_caller_L57 u ma ms mb mr mt mg k0 k1 (fun (x3' : Int64) (x7' : Int32) (x8' : Int32) (u'' : cd_Mo) => (if x7' = k1 then ((f_Mo_number u'' ma ms mb mr (x3' + (4 : Int64))), u'') else (f_Mo_caller_L47 u ma ms mb mr mt mg k0 k1 gn ((f_Mo_number u'' ma ms mb mr x3').toInt64) x3' (x7' + (1 : Int32)) u''))) 9 x3 x7 (0 : Int32) u' by rw [he, f_Mo_caller_L47, if_neg hc11]) (⟨hn9, fa10⟩) hL1 hL2 hL3 hL4 hL5 hL6 hP hS (ho hc11) (fun x3' x7' x8' u'' w2 efr1 H locs ls hl he1 hK1_0 hK1_1 hK1_2 hK1_3 hK1_4 hK1_5 hK1_6 hP hS ho => ?_)
        have he1 : (f_Mo_caller u ma ms mb mr mt mg k0 k1) = (if x7' = k1 then ((f_Mo_number u'' ma ms mb mr (x3' + (4 : Int64))), u'') else (f_Mo_caller_L47 u ma ms mb mr mt mg k0 k1 gn ((f_Mo_number u'' ma ms mb mr x3').toInt64) x3' (x7' + (1 : Int32)) u'')) := he1
        have ho : (¬ x7' = k1 → o_Mo_number u'' ma ms mb mr x3') ∧ (¬ x7' = k1 → o_Mo_caller_L47 u ma ms mb mr mt mg k0 k1 gn ((f_Mo_number u'' ma ms mb mr x3').toInt64) x3' (x7' + (1 : Int32)) u'') ∧ (x7' = k1 → o_Mo_number u'' ma ms mb mr (x3' + (4 : Int64))) := ho
        obtain ⟨hn13, fa14⟩ := hK1_0
        refine lv_iload hx hb d_Mo_caller_86 (lv_at hl 3 rfl) ?_
        refine lv_iload_n hx hb d_Mo_caller_88 rfl (lv_at hl 1 rfl) ?_
        refine lv_icmp_ne (tgt := 102) hx hb d_Mo_caller_89 (by decide) (fun hc15 => ?_) (fun hc15 => ?_)
        · refine lv_lload_n hx hb d_Mo_caller_102 rfl (lv_at hl 2 rfl) ?_
          refine lv_lstore (lv' := [(5, .long x3'), (0, .ref (ad q)), (2, .int k1), (3, .long x3'), (7, .int x7'), (8, .int x8')]) hx hb d_Mo_caller_103 hl (by decide) rfl (fun ls hl => ?_)
          refine lv_aload_n hx hb d_Mo_caller_105 rfl (lv_at hl 1 rfl) ?_
          refine lv_lload_n hx hb d_Mo_caller_106 rfl (lv_at hl 3 rfl) ?_
          refine va_calli (va_runV (As := [.long x3']) (rest := []) ⟨hx, hb, hml, hown, hA⟩ (c_Mo_number l D tt ad N A zs w2 q u'' ma ms mb mr x3' (⟨hn13, fa14⟩) hK1_1 hK1_2 hK1_3 hK1_4 (ho.1 hc15)) (cwV 1 hA (cd_gV aw_747 aw_748 aw_805 aw_8 aw_749) rfl rfl rfl ⟨rfl, by decide, by decide, by decide +kernel⟩ ⟨Nat.le_of_ble_eq_true rfl, Nat.le_of_ble_eq_true rfl⟩) ⟨cd_blind, cd_recv hK hP (k := q) (by omega) fa14 rfl, fun U hU hW => ⟨rfl, cd_pre hK hP hZ hS U hU hW⟩⟩ rfl rfl hl.1 rfl (lv_room (Nat.le_of_ble_eq_true rfl)) d_Mo_caller_107 ⟨Nat.zero_le _, Nat.zero_le _⟩) hS (fun _ _ h => h) (fun _ h => h) (fun r16 w3 tE H locs ht hvm hr17 hP hz1 hk1 hS => ?_)
          have hP := cd_Pf ht hP
          obtain ⟨rfl, rfl⟩ := hr17
          refine lv_i2l hx hb d_Mo_caller_110 rfl ?_
          refine lv_lstore_n (lv' := [(3, .long ((f_Mo_number u'' ma ms mb mr x3').toInt64)), (5, .long x3'), (0, .ref (ad q)), (2, .int k1), (7, .int x7'), (8, .int x8')]) hx hb d_Mo_caller_111 rfl hl (by decide) rfl (fun ls hl => ?_)
          refine lv_iinc (k := 4) (v := (x7' + (1 : Int32))) (lv' := [(7, .int (x7' + (1 : Int32))), (3, .long ((f_Mo_number u'' ma ms mb mr x3').toInt64)), (5, .long x3'), (0, .ref (ad q)), (2, .int k1), (8, .int x8')]) hx hb d_Mo_caller_112 hl rfl (cd_inc _ _ _ (by decide)) (by decide) rfl (fun ls hl => ?_)
          refine lv_goto (tgt := 47) hx hb d_Mo_caller_115 (by decide) ?_
          exact ih ((f_Mo_number u'' ma ms mb mr x3').toInt64) x3' (x7' + (1 : Int32)) u'' w2 (fun k hk => (efr1 k (by omega))) H locs ls (lv_sub hl [3, 4, 1, 2, 0] rfl) (show (f_Mo_caller u ma ms mb mr mt mg k0 k1) = f_Mo_caller_L47 u ma ms mb mr mt mg k0 k1 gn ((f_Mo_number u'' ma ms mb mr x3').toInt64) x3' (x7' + (1 : Int32)) u'' by rw [he1, if_neg hc15]) (⟨hn13, fa14⟩) hK1_1 hK1_2 hK1_3 hK1_4 hK1_5 hK1_6 hP hS (ho.2.1 hc15)
        · refine lv_aload_n hx hb d_Mo_caller_92 rfl (lv_at hl 0 rfl) ?_
          refine lv_lload_n hx hb d_Mo_caller_93 rfl (lv_at hl 2 rfl) ?_
          refine lv_ldc2 (v := (4 : Int64)) hx hb hown (hA _ aw_716) d_Mo_caller_94 ?_
          refine lv_ladd hx hb d_Mo_caller_97 ?_
          refine va_calli (va_runV (As := [.long (x3' + (4 : Int64))]) (rest := []) ⟨hx, hb, hml, hown, hA⟩ (c_Mo_number l D tt ad N A zs w2 q u'' ma ms mb mr (x3' + (4 : Int64)) (⟨hn13, fa14⟩) hK1_1 hK1_2 hK1_3 hK1_4 (ho.2.2 hc15)) (cwV 1 hA (cd_gV aw_747 aw_748 aw_805 aw_8 aw_749) rfl rfl rfl ⟨rfl, by decide, by decide, by decide +kernel⟩ ⟨Nat.le_of_ble_eq_true rfl, Nat.le_of_ble_eq_true rfl⟩) ⟨cd_blind, cd_recv hK hP (k := q) (by omega) fa14 rfl, fun U hU hW => ⟨rfl, cd_pre hK hP hZ hS U hU hW⟩⟩ rfl rfl hl.1 rfl (lv_room (Nat.le_of_ble_eq_true rfl)) d_Mo_caller_98 ⟨Nat.zero_le _, Nat.zero_le _⟩) hS (fun _ _ h => h) (fun _ h => h) (fun r19 w4 tE H locs ht hvm hr20 hP hz1 hk1 hS => ?_)
          have hP := cd_Pf ht hP
          obtain ⟨rfl, rfl⟩ := hr20
          have hf22 : (f_Mo_caller u ma ms mb mr mt mg k0 k1) = ((f_Mo_number u'' ma ms mb mr (x3' + (4 : Int64))), u'') := by rw [he1, if_pos hc15]
          exact W.iret (v := (f_Mo_number u'' ma ms mb mr (x3' + (4 : Int64)))) hx hb hr (fun tE ht _ => ⟨⟨_, w2, rfl, ⟨(by rw [hf22]), (by rw [hf22]; exact ⟨hn13, fa14⟩), (fun k hk => (efr1 k (by omega)))⟩, cd_Pt ht hP⟩, hS.F ht⟩) hS.2.2 d_Mo_caller_101
  have hS : va_S A s.heap s.heap [] := va_S.rf
  have hl := lv_entry ([.ref (ad q), .int k0, .int k1]) (n := 9) (Nat.le_of_ble_eq_true rfl)
  rw [lg_entry_eq]
  generalize (lg_sl ([.ref (ad q), .int k0, .int k1]) ++ List.replicate (9 - (lg_sl ([.ref (ad q), .int k0, .int k1])).length) Slot.unset).toArray = ls at hl ⊢
  have hl : lv_has ls 9 [(0, .ref (ad q)), (1, .int k0), (2, .int k1)] := hl
  have ho : (¬ k0 < 0 → vp_in (1 : Int32) 3) ∧ (¬ k0 < 0 → ¬ (mt (1 : Int32).toNatClampNeg) ≤ k0 → 0 ≤ k1 → vp_in (((8 : Int32) * ((3 : Int32) + k0)) + (7 : Int32)) 72) ∧ (¬ k0 < 0 → ¬ (mt (1 : Int32).toNatClampNeg) ≤ k0 → 0 ≤ k1 → o_Mo_caller_L47 u ma ms mb mr mt mg k0 k1 6146 ((mg (((8 : Int32) * ((3 : Int32) + k0)) + (7 : Int32)).toNatClampNeg).toInt64) (0 : Int64) (0 : Int32) ((0 : Int32), u.2.1, u.2.2.1, u.2.2.2.1, u.2.2.2.2.1, u.2.2.2.2.2)) := ho
  obtain ⟨hn23, fa24⟩ := hR0
  refine lv_aload_n hx hb d_Mo_caller_0 rfl (lv_at hl 0 rfl) ?_
  refine lv_iconst (v := (0 : Int32)) hx hb d_Mo_caller_1 (by decide) ?_
  refine g_put (ci := 7) (C := R_Mo) (T := F_Mo) (Nf := 16) (v := .int (0 : Int32)) (ty := .int) hx hb hA in_Mo t_Mo t_Mo_ok n_Mo hown hK hP hS (k := q) (by omega) fa24 rfl 0 (by decide) (hA _ aw_560) (fun _ h9 => h9) rfl (by decide +kernel) rfl rfl (Nat.le_of_ble_eq_true rfl) d_Mo_caller_2 (fun H locs w5 fa25 e5 hP hS => ?_)
  have fa25 : w5 q = .inr (7, [.int (0 : Int32), .ref (ad (q + 1)), .ref (ad (q + 2)), .ref (ad (q + 3)), .ref (ad (q + 4)), .ref (ad (q + 5)), .ref (ad (q + 6)), .ref (ad (q + 7)), .ref (ad (q + 8)), .ref (ad (q + 9)), .int u.2.1, .ref (ad (q + 10)), .int u.2.2.1, .int u.2.2.2.1, .int u.2.2.2.2.1, .int u.2.2.2.2.2]) := fa25
  have at26 := cd_IaAt_keep hR1 (fun k h1 h2 => e5 k (by omega))
  have at27 := cd_IaAt_keep hR2 (fun k h1 h2 => e5 k (by omega))
  have at28 := cd_ByAt_keep hR3 (fun k h1 h2 => e5 k (by omega))
  have at29 := cd_IaAt_keep hR4 (fun k h1 h2 => e5 k (by omega))
  have at30 := cd_IaAt_keep hR5 (fun k h1 h2 => e5 k (by omega))
  have at31 := cd_IaAt_keep hR6 (fun k h1 h2 => e5 k (by omega))
  refine lv_iload_n hx hb d_Mo_caller_5 rfl (lv_at hl 1 rfl) ?_
  refine lv_if_lt (tgt := 23) hx hb d_Mo_caller_6 (by decide) (fun hc32 => ?_) (fun hc32 => ?_)
  · refine lv_iconst (v := (-1 : Int32)) hx hb d_Mo_caller_23 (by decide) ?_
    have hf33 : (f_Mo_caller u ma ms mb mr mt mg k0 k1) = ((-1 : Int32), ((0 : Int32), u.2.1, u.2.2.1, u.2.2.2.1, u.2.2.2.2.1, u.2.2.2.2.2)) := by rw [f_Mo_caller, if_pos hc32]
    exact W.iret (v := (-1 : Int32)) hx hb hr (fun tE ht _ => ⟨⟨_, w5, rfl, ⟨(by rw [hf33]), (by rw [hf33]; exact ⟨hn23, fa25⟩), (fun k hk => (e5 k (by omega)))⟩, cd_Pt ht hP⟩, hS.F ht⟩) hS.2.2 d_Mo_caller_24
  · refine lv_iload_n hx hb d_Mo_caller_9 rfl (lv_at hl 1 rfl) ?_
    refine lv_aload_n hx hb d_Mo_caller_10 rfl (lv_at hl 0 rfl) ?_
    refine g_get (ci := 7) (C := R_Mo) (T := F_Mo) (Nf := 16) (v := .ref (ad (q + 6))) hx hb hA in_Mo hown hK hP (k := q) (by omega) fa25 rfl 6 (by decide) (hA _ aw_566) (fun _ h9 => h9) rfl d_Mo_caller_11 ?_
    refine lv_iconst (v := (1 : Int32)) hx hb d_Mo_caller_14 (by decide) ?_
    obtain ⟨hn34, fa35⟩ := at30
    refine g_iald hx hb hK hP (k := (q + 6)) (by omega) fa35 rfl (ho.1 hc32) d_Mo_caller_15 ?_
    refine lv_icmp_ge (tgt := 23) hx hb d_Mo_caller_16 (by decide) (fun hc36 => ?_) (fun hc36 => ?_)
    · refine lv_iconst (v := (-1 : Int32)) hx hb d_Mo_caller_23 (by decide) ?_
      have hf37 : (f_Mo_caller u ma ms mb mr mt mg k0 k1) = ((-1 : Int32), ((0 : Int32), u.2.1, u.2.2.1, u.2.2.2.1, u.2.2.2.2.1, u.2.2.2.2.2)) := by rw [f_Mo_caller, if_neg hc32, if_pos hc36]
      exact W.iret (v := (-1 : Int32)) hx hb hr (fun tE ht _ => ⟨⟨_, w5, rfl, ⟨(by rw [hf37]), (by rw [hf37]; exact ⟨hn23, fa25⟩), (fun k hk => (e5 k (by omega)))⟩, cd_Pt ht hP⟩, hS.F ht⟩) hS.2.2 d_Mo_caller_24
    · refine lv_iload_n hx hb d_Mo_caller_19 rfl (lv_at hl 2 rfl) ?_
      refine lv_if_ge (tgt := 25) hx hb d_Mo_caller_20 (by decide) (fun hc38 => ?_) (fun hc38 => ?_)
      · refine lv_aload_n hx hb d_Mo_caller_25 rfl (lv_at hl 0 rfl) ?_
        refine g_get (ci := 7) (C := R_Mo) (T := F_Mo) (Nf := 16) (v := .ref (ad (q + 8))) hx hb hA in_Mo hown hK hP (k := q) (by omega) fa25 rfl 8 (by decide) (hA _ aw_568) (fun _ h9 => h9) rfl d_Mo_caller_26 ?_
        refine lv_bipush (v := (8 : Int32)) hx hb d_Mo_caller_29 (by decide) ?_
        refine lv_iconst (v := (3 : Int32)) hx hb d_Mo_caller_31 (by decide) ?_
        refine lv_iload_n hx hb d_Mo_caller_32 rfl (lv_at hl 1 rfl) ?_
        refine lv_iadd hx hb d_Mo_caller_33 ?_
        refine lv_imul hx hb d_Mo_caller_34 ?_
        refine lv_bipush (v := (7 : Int32)) hx hb d_Mo_caller_35 (by decide) ?_
        refine lv_iadd hx hb d_Mo_caller_37 ?_
        obtain ⟨hn39, fa40⟩ := at31
        refine g_iald hx hb hK hP (k := (q + 8)) (by omega) fa40 rfl (ho.2.1 hc32 hc36 hc38) d_Mo_caller_38 ?_
        refine lv_i2l hx hb d_Mo_caller_39 rfl ?_
        refine lv_lstore_n (lv' := [(3, .long ((mg (((8 : Int32) * ((3 : Int32) + k0)) + (7 : Int32)).toNatClampNeg).toInt64)), (0, .ref (ad q)), (1, .int k0), (2, .int k1)]) hx hb d_Mo_caller_40 rfl hl (by decide) rfl (fun ls hl => ?_)
        refine lv_lconst (v := (0 : Int64)) hx hb d_Mo_caller_41 (by decide) ?_
        refine lv_lstore (lv' := [(5, .long (0 : Int64)), (3, .long ((mg (((8 : Int32) * ((3 : Int32) + k0)) + (7 : Int32)).toNatClampNeg).toInt64)), (0, .ref (ad q)), (1, .int k0), (2, .int k1)]) hx hb d_Mo_caller_42 hl (by decide) rfl (fun ls hl => ?_)
        refine lv_iconst (v := (0 : Int32)) hx hb d_Mo_caller_44 (by decide) ?_
        refine lv_istore (lv' := [(7, .int (0 : Int32)), (5, .long (0 : Int64)), (3, .long ((mg (((8 : Int32) * ((3 : Int32) + k0)) + (7 : Int32)).toNatClampNeg).toInt64)), (0, .ref (ad q)), (1, .int k0), (2, .int k1)]) hx hb d_Mo_caller_45 hl (by decide) rfl (fun ls hl => ?_)
        exact L47 6146 ((mg (((8 : Int32) * ((3 : Int32) + k0)) + (7 : Int32)).toNatClampNeg).toInt64) (0 : Int64) (0 : Int32) ((0 : Int32), u.2.1, u.2.2.1, u.2.2.2.1, u.2.2.2.2.1, u.2.2.2.2.2) w5 (fun k hk => (e5 k (by omega))) H locs ls (lv_sub hl [3, 5, 2, 1, 0] rfl) (show (f_Mo_caller u ma ms mb mr mt mg k0 k1) = f_Mo_caller_L47 u ma ms mb mr mt mg k0 k1 6146 ((mg (((8 : Int32) * ((3 : Int32) + k0)) + (7 : Int32)).toNatClampNeg).toInt64) (0 : Int64) (0 : Int32) ((0 : Int32), u.2.1, u.2.2.1, u.2.2.2.1, u.2.2.2.2.1, u.2.2.2.2.2) by rw [f_Mo_caller, if_neg hc32, if_neg hc36, if_pos hc38]) (⟨hn23, fa25⟩) at26 at27 at28 at29 (⟨hn34, fa35⟩) (⟨hn39, fa40⟩) hP hS (ho.2.2 hc32 hc36 hc38)
      · refine lv_iconst (v := (-1 : Int32)) hx hb d_Mo_caller_23 (by decide) ?_
        have hf41 : (f_Mo_caller u ma ms mb mr mt mg k0 k1) = ((-1 : Int32), ((0 : Int32), u.2.1, u.2.2.1, u.2.2.2.1, u.2.2.2.2.1, u.2.2.2.2.2)) := by rw [f_Mo_caller, if_neg hc32, if_neg hc36, if_neg hc38]
        exact W.iret (v := (-1 : Int32)) hx hb hr (fun tE ht _ => ⟨⟨_, w5, rfl, ⟨(by rw [hf41]), (by rw [hf41]; exact ⟨hn23, fa25⟩), (fun k hk => (e5 k (by omega)))⟩, cd_Pt ht hP⟩, hS.F ht⟩) hS.2.2 d_Mo_caller_24
