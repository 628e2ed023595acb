def f_Mo_thrown (u : cd_Mo) : Int32 := u.1
set_option maxHeartbeats 4000000 in
set_option maxRecDepth 100000 in
theorem c_Mo_thrown (l : Launch) (D : va_G) (tt : Nat → ClassId) (ad : Nat → Nat) (N : Nat) (A : Nat → Prop) (zs : Nat → Nat) (w0 : Nat → va_E) (q : Nat) (u : cd_Mo) (hR0 : cd_MoAt N tt ad w0 q u) : Met l y_Mo_thrown w_Mo_thrown ({ frames := 0, cells := 0, slots := 0, locals := 0 }) (va_Pc [.ref (ad q)] (cd_U D tt ad N A zs w0)) (va_Qi (fun r w' => (f_Mo_thrown u) = r ∧ w0 = w') (fun w' t => cd_P D ad N A w' t.heap) A) 0 0 A := by
  refine Met.ofW (cc := b_Mo_thrown) (maxL := 1) (ret := (some .int)) (by decide) rfl ?_
  intro p e s m args below meth c s₁ B hml hv
  obtain ⟨rfl, hP, hK, hZ⟩ := hv
  have hx := B.exec
  have hb := B.bytes
  have hr := B.returns
  have hA : ∀ w ∈ cd_AW, w.before _ s = true := fun w h => atoms_spec (ws := w_Mo_thrown) B.pre w (List.mem_cons_of_mem _ h)
  have hown : s.vm.findClass R_Mo = some m.cls := findClass_of_methodNamed B.named
  have hlocks := B.notSynchronized
  have hS : va_S A s.heap s.heap [] := va_S.rf
  have hl := lv_entry ([.ref (ad q)]) (n := 1) (Nat.le_of_ble_eq_true rfl)
  rw [lg_entry_eq]
  generalize (lg_sl ([.ref (ad q)]) ++ List.replicate (1 - (lg_sl ([.ref (ad q)])).length) Slot.unset).toArray = ls at hl ⊢
  have hl : lv_has ls 1 [(0, .ref (ad q))] := hl
  obtain ⟨hn1, fa2⟩ := hR0
  refine lv_aload_n hx hb d_Mo_thrown_0 rfl (lv_at hl 0 rfl) ?_
  refine g_get (ci := 7) (C := R_Mo) (T := F_Mo) (Nf := 16) (v := .int u.1) hx hb hA in_Mo hown hK hP (k := q) (by omega) fa2 rfl 0 (by decide) (hA _ aw_560) (fun _ h9 => h9) rfl d_Mo_thrown_1 ?_
  have hf3 : (f_Mo_thrown u) = u.1 := by rw [f_Mo_thrown]
  exact W.iret (v := u.1) hx hb hr (fun tE ht _ => ⟨⟨_, w0, rfl, ⟨hf3, rfl⟩, cd_Pt ht hP⟩, hS.F ht⟩) hS.2.2 d_Mo_thrown_4
def f_Mo_within_L6 (u : cd_Mo) (ma : cd_Ia) (ms : cd_Ia) (mr : cd_Ia) (k0 : Int32) (k1 : Int64) : Nat → Int32 → Int32
  | 0, _ => default
  | gn + 1, x4 => (if (((6 : Int32) * k0) + (mr k0.toNatClampNeg)) ≤ x4 then (-1 : Int32) else (if k1 < (ma x4.toNatClampNeg).toInt64 then (f_Mo_within_L6 u ma ms mr k0 k1 gn (x4 + (1 : Int32))) else (if ((ma x4.toNatClampNeg).toInt64 + (ms x4.toNatClampNeg).toInt64) ≤ k1 then (f_Mo_within_L6 u ma ms mr k0 k1 gn (x4 + (1 : Int32))) else x4)))
def f_Mo_within (u : cd_Mo) (ma : cd_Ia) (ms : cd_Ia) (mr : cd_Ia) (k0 : Int32) (k1 : Int64) : Int32 := (f_Mo_within_L6 u ma ms mr k0 k1 7 ((6 : Int32) * k0))
def o_Mo_within_L6 (u : cd_Mo) (ma : cd_Ia) (ms : cd_Ia) (mr : cd_Ia) (k0 : Int32) (k1 : Int64) : Nat → Int32 → Prop
  | 0, _ => False
  | gn + 1, x4 => (vp_in k0 3) ∧ (¬ (((6 : Int32) * k0) + (mr k0.toNatClampNeg)) ≤ x4 → vp_in x4 18) ∧ (¬ (((6 : Int32) * k0) + (mr k0.toNatClampNeg)) ≤ x4 → k1 < (ma x4.toNatClampNeg).toInt64 → o_Mo_within_L6 u ma ms mr k0 k1 gn (x4 + (1 : Int32))) ∧ (¬ (((6 : Int32) * k0) + (mr k0.toNatClampNeg)) ≤ x4 → ¬ k1 < (ma x4.toNatClampNeg).toInt64 → vp_in x4 18) ∧ (¬ (((6 : Int32) * k0) + (mr k0.toNatClampNeg)) ≤ x4 → ¬ k1 < (ma x4.toNatClampNeg).toInt64 → vp_in x4 18) ∧ (¬ (((6 : Int32) * k0) + (mr k0.toNatClampNeg)) ≤ x4 → ¬ k1 < (ma x4.toNatClampNeg).toInt64 → ((ma x4.toNatClampNeg).toInt64 + (ms x4.toNatClampNeg).toInt64) ≤ k1 → o_Mo_within_L6 u ma ms mr k0 k1 gn (x4 + (1 : Int32)))
def o_Mo_within (u : cd_Mo) (ma : cd_Ia) (ms : cd_Ia) (mr : cd_Ia) (k0 : Int32) (k1 : Int64) : Prop := (o_Mo_within_L6 u ma ms mr k0 k1 7 ((6 : Int32) * k0))
set_option maxHeartbeats 4000000 in
set_option maxRecDepth 100000 in
theorem c_Mo_within (l : Launch) (D : va_G) (tt : Nat → ClassId) (ad : Nat → Nat) (N : Nat) (A : Nat → Prop) (zs : Nat → Nat) (w0 : Nat → va_E) (q : Nat) (u : cd_Mo) (ma : cd_Ia) (ms : cd_Ia) (mr : cd_Ia) (k0 : Int32) (k1 : Int64) (hR0 : cd_MoAt N tt ad w0 q u) (hR1 : cd_IaAt N tt ad w0 (q + 1) 18 ma) (hR2 : cd_IaAt N tt ad w0 (q + 2) 18 ms) (hR3 : cd_IaAt N tt ad w0 (q + 5) 3 mr) (ho : o_Mo_within u ma ms mr k0 k1) : Met l y_Mo_within w_Mo_within ({ frames := 0, cells := 0, slots := 0, locals := 0 }) (va_Pc [.ref (ad q), .int k0, .long k1] (cd_U D tt ad N A zs w0)) (va_Qi (fun r w' => (f_Mo_within u ma ms mr k0 k1) = r ∧ w0 = w') (fun w' t => cd_P D ad N A w' t.heap) A) 0 0 A := by
  refine Met.ofW (cc := b_Mo_within) (maxL := 5) (ret := (some .int)) (by decide) rfl ?_
  intro p e s m args below meth c s₁ B hml hv
  obtain ⟨rfl, hP, hK, hZ⟩ := hv
  have hx := B.exec
  have hb := B.bytes
  have hr := B.returns
  have hA : ∀ w ∈ cd_AW, w.before _ s = true := fun w h => atoms_spec (ws := w_Mo_within) B.pre w (List.mem_cons_of_mem _ h)
  have hown : s.vm.findClass R_Mo = some m.cls := findClass_of_methodNamed B.named
  have hlocks := B.notSynchronized
  have L6 : ∀ (gn : Nat) (x4 : Int32) (H : Heap) (locs : List Loc) (ls : Array Slot), lv_has ls 5 [(0, .ref (ad q)), (1, .int k0), (2, .long k1), (4, .int x4)] → (f_Mo_within u ma ms mr k0 k1) = f_Mo_within_L6 u ma ms mr k0 k1 gn x4 → cd_MoAt N tt ad w0 q u → cd_IaAt N tt ad w0 (q + 1) 18 ma → cd_IaAt N tt ad w0 (q + 2) 18 ms → cd_IaAt N tt ad w0 (q + 5) 3 mr → cd_P D ad N A w0 H → va_S A s.heap H locs → o_Mo_within_L6 u ma ms mr k0 k1 gn x4 → W p l e (headSpec w_Mo_within ({ frames := 0, cells := 0, slots := 0, locals := 0 })).room s m [.ref (ad q), .int k0, .long k1].toArray below meth c H locs 0 0 (MQ below (va_Qi (fun r w' => (f_Mo_within u ma ms mr k0 k1) = r ∧ w0 = w') (fun w' t => cd_P D ad N A w' t.heap) A) [.ref (ad q), .int k0, .long k1].toArray s 0 0 A) (F0 m 6 ls []) := by
    intro gn
    induction gn with
    | zero => intro x4 H locs ls hl he hL0 hL1 hL2 hL3 hP hS ho; exact ho.elim
    | succ gn ih =>
      intro x4 H locs ls hl he hL0 hL1 hL2 hL3 hP hS ho
      have ho : (vp_in k0 3) ∧ (¬ (((6 : Int32) * k0) + (mr k0.toNatClampNeg)) ≤ x4 → vp_in x4 18) ∧ (¬ (((6 : Int32) * k0) + (mr k0.toNatClampNeg)) ≤ x4 → k1 < (ma x4.toNatClampNeg).toInt64 → o_Mo_within_L6 u ma ms mr k0 k1 gn (x4 + (1 : Int32))) ∧ (¬ (((6 : Int32) * k0) + (mr k0.toNatClampNeg)) ≤ x4 → ¬ k1 < (ma x4.toNatClampNeg).toInt64 → vp_in x4 18) ∧ (¬ (((6 : Int32) * k0) + (mr k0.toNatClampNeg)) ≤ x4 → ¬ k1 < (ma x4.toNatClampNeg).toInt64 → vp_in x4 18) ∧ (¬ (((6 : Int32) * k0) + (mr k0.toNatClampNeg)) ≤ x4 → ¬ k1 < (ma x4.toNatClampNeg).toInt64 → ((ma x4.toNatClampNeg).toInt64 + (ms x4.toNatClampNeg).toInt64) ≤ k1 → o_Mo_within_L6 u ma ms mr k0 k1 gn (x4 + (1 : Int32))) := ho
      obtain ⟨hn1, fa2⟩ := hL0
      refine lv_iload hx hb d_Mo_within_6 (lv_at hl 3 rfl) ?_
      refine lv_bipush (v := (6 : Int32)) hx hb d_Mo_within_8 (by decide) ?_
      refine lv_iload_n hx hb d_Mo_within_10 rfl (lv_at hl 1 rfl) ?_
      refine lv_imul hx hb d_Mo_within_11 ?_
      refine lv_aload_n hx hb d_Mo_within_12 rfl (lv_at hl 0 rfl) ?_
      refine g_get (ci := 7) (C := R_Mo) (T := F_Mo) (Nf := 16) (v := .ref (ad (q + 5))) hx hb hA in_Mo hown hK hP (k := q) (by omega) fa2 rfl 5 (by decide) (hA _ aw_565) (fun _ h9 => h9) rfl d_Mo_within_13 ?_
      refine lv_iload_n hx hb d_Mo_within_16 rfl (lv_at hl 1 rfl) ?_
      obtain ⟨hn3, fa4⟩ := hL3
      refine g_iald hx hb hK hP (k := (q + 5)) (by omega) fa4 rfl (ho.1) d_Mo_within_17 ?_
      refine lv_iadd hx hb d_Mo_within_18 ?_
      refine lv_icmp_ge (tgt := 66) hx hb d_Mo_within_19 (by decide) (fun hc5 => ?_) (fun hc5 => ?_)
      · refine lv_iconst (v := (-1 : Int32)) hx hb d_Mo_within_66 (by decide) ?_
        have hf6 : (f_Mo_within u ma ms mr k0 k1) = (-1 : Int32) := by rw [he, f_Mo_within_L6, if_pos hc5]
        exact W.iret (v := (-1 : Int32)) hx hb hr (fun tE ht _ => ⟨⟨_, w0, rfl, ⟨hf6, rfl⟩, cd_Pt ht hP⟩, hS.F ht⟩) hS.2.2 d_Mo_within_67
      · refine lv_lload_n hx hb d_Mo_within_22 rfl (lv_at hl 2 rfl) ?_
        refine lv_aload_n hx hb d_Mo_within_23 rfl (lv_at hl 0 rfl) ?_
        refine g_get (ci := 7) (C := R_Mo) (T := F_Mo) (Nf := 16) (v := .ref (ad (q + 1))) hx hb hA in_Mo hown hK hP (k := q) (by omega) fa2 rfl 1 (by decide) (hA _ aw_561) (fun _ h9 => h9) rfl d_Mo_within_24 ?_
        refine lv_iload hx hb d_Mo_within_27 (lv_at hl 3 rfl) ?_
        obtain ⟨hn7, fa8⟩ := hL1
        refine g_iald hx hb hK hP (k := (q + 1)) (by omega) fa8 rfl (ho.2.1 hc5) d_Mo_within_29 ?_
        refine lv_i2l hx hb d_Mo_within_30 rfl ?_
        refine g_lif_lt (tgt := 60) hx hb d_Mo_within_31 d_Mo_within_32 (by decide) (fun hc9 => ?_) (fun hc9 => ?_)
        · refine lv_iinc (k := 3) (v := (x4 + (1 : Int32))) (lv' := [(4, .int (x4 + (1 : Int32))), (0, .ref (ad q)), (1, .int k0), (2, .long k1)]) hx hb d_Mo_within_60 hl rfl (cd_inc _ _ _ (by decide)) (by decide) rfl (fun ls hl => ?_)
          refine lv_goto (tgt := 6) hx hb d_Mo_within_63 (by decide) ?_
          exact ih (x4 + (1 : Int32)) H locs ls (lv_sub hl [1, 2, 3, 0] rfl) (show (f_Mo_within u ma ms mr k0 k1) = f_Mo_within_L6 u ma ms mr k0 k1 gn (x4 + (1 : Int32)) by rw [he, f_Mo_within_L6, if_neg hc5, if_pos hc9]) (⟨hn1, fa2⟩) (⟨hn7, fa8⟩) hL2 (⟨hn3, fa4⟩) hP hS (ho.2.2.1 hc5 hc9)
        · refine lv_lload_n hx hb d_Mo_within_35 rfl (lv_at hl 2 rfl) ?_
          refine lv_aload_n hx hb d_Mo_within_36 rfl (lv_at hl 0 rfl) ?_
          refine g_get (ci := 7) (C := R_Mo) (T := F_Mo) (Nf := 16) (v := .ref (ad (q + 1))) hx hb hA in_Mo hown hK hP (k := q) (by omega) fa2 rfl 1 (by decide) (hA _ aw_561) (fun _ h9 => h9) rfl d_Mo_within_37 ?_
          refine lv_iload hx hb d_Mo_within_40 (lv_at hl 3 rfl) ?_
          refine g_iald hx hb hK hP (k := (q + 1)) (by omega) fa8 rfl (ho.2.2.2.1 hc5 hc9) d_Mo_within_42 ?_
          refine lv_i2l hx hb d_Mo_within_43 rfl ?_
          refine lv_aload_n hx hb d_Mo_within_44 rfl (lv_at hl 0 rfl) ?_
          refine g_get (ci := 7) (C := R_Mo) (T := F_Mo) (Nf := 16) (v := .ref (ad (q + 2))) hx hb hA in_Mo hown hK hP (k := q) (by omega) fa2 rfl 2 (by decide) (hA _ aw_562) (fun _ h9 => h9) rfl d_Mo_within_45 ?_
          refine lv_iload hx hb d_Mo_within_48 (lv_at hl 3 rfl) ?_
          obtain ⟨hn10, fa11⟩ := hL2
          refine g_iald hx hb hK hP (k := (q + 2)) (by omega) fa11 rfl (ho.2.2.2.2.1 hc5 hc9) d_Mo_within_50 ?_
          refine lv_i2l hx hb d_Mo_within_51 rfl ?_
          refine lv_ladd hx hb d_Mo_within_52 ?_
          refine g_lif_ge (tgt := 60) hx hb d_Mo_within_53 d_Mo_within_54 (by decide) (fun hc12 => ?_) (fun hc12 => ?_)
          · refine lv_iinc (k := 3) (v := (x4 + (1 : Int32))) (lv' := [(4, .int (x4 + (1 : Int32))), (0, .ref (ad q)), (1, .int k0), (2, .long k1)]) hx hb d_Mo_within_60 hl rfl (cd_inc _ _ _ (by decide)) (by decide) rfl (fun ls hl => ?_)
            refine lv_goto (tgt := 6) hx hb d_Mo_within_63 (by decide) ?_
            exact ih (x4 + (1 : Int32)) H locs ls (lv_sub hl [1, 2, 3, 0] rfl) (show (f_Mo_within u ma ms mr k0 k1) = f_Mo_within_L6 u ma ms mr k0 k1 gn (x4 + (1 : Int32)) by rw [he, f_Mo_within_L6, if_neg hc5, if_neg hc9, if_pos hc12]) (⟨hn1, fa2⟩) (⟨hn7, fa8⟩) (⟨hn10, fa11⟩) (⟨hn3, fa4⟩) hP hS (ho.2.2.2.2.2 hc5 hc9 hc12)
          · refine lv_iload hx hb d_Mo_within_57 (lv_at hl 3 rfl) ?_
            have hf13 : (f_Mo_within u ma ms mr k0 k1) = x4 := by rw [he, f_Mo_within_L6, if_neg hc5, if_neg hc9, if_neg hc12]
            exact W.iret (v := x4) hx hb hr (fun tE ht _ => ⟨⟨_, w0, rfl, ⟨hf13, rfl⟩, cd_Pt ht hP⟩, hS.F ht⟩) hS.2.2 d_Mo_within_59
  have hS : va_S A s.heap s.heap [] := va_S.rf
  have hl := lv_entry ([.ref (ad q), .int k0, .long k1]) (n := 5) (Nat.le_of_ble_eq_true rfl)
  rw [lg_entry_eq]
  generalize (lg_sl ([.ref (ad q), .int k0, .long k1]) ++ List.replicate (5 - (lg_sl ([.ref (ad q), .int k0, .long k1])).length) Slot.unset).toArray = ls at hl ⊢
  have hl : lv_has ls 5 [(0, .ref (ad q)), (1, .int k0), (2, .long k1)] := hl
  have ho : (o_Mo_within_L6 u ma ms mr k0 k1 7 ((6 : Int32) * k0)) := ho
  obtain ⟨hn14, fa15⟩ := hR0
  refine lv_bipush (v := (6 : Int32)) hx hb d_Mo_within_0 (by decide) ?_
  refine lv_iload_n hx hb d_Mo_within_2 rfl (lv_at hl 1 rfl) ?_
  refine lv_imul hx hb d_Mo_within_3 ?_
  refine lv_istore (lv' := [(4, .int ((6 : Int32) * k0)), (0, .ref (ad q)), (1, .int k0), (2, .long k1)]) hx hb d_Mo_within_4 hl (by decide) rfl (fun ls hl => ?_)
  exact L6 7 ((6 : Int32) * k0) s.heap [] ls (lv_sub hl [1, 2, 3, 0] rfl) (show (f_Mo_within u ma ms mr k0 k1) = f_Mo_within_L6 u ma ms mr k0 k1 7 ((6 : Int32) * k0) by rw [f_Mo_within]) (⟨hn14, fa15⟩) hR1 hR2 hR3 hP hS (ho)
def f_Mo_byteOf (u : cd_Mo) (ma : cd_Ia) (ms : cd_Ia) (mb : cd_By) (mr : cd_Ia) (k0 : Int32) (k1 : Int64) : Int32 := (if (f_Mo_within u ma ms mr k0 k1) = (-1 : Int32) then (-1 : Int32) else ((mb (((1024 : Int32) * (f_Mo_within u ma ms mr k0 k1)) + (k1 - (ma (f_Mo_within u ma ms mr k0 k1).toNatClampNeg).toInt64).toInt32).toNatClampNeg) &&& (255 : Int32)))
def o_Mo_byteOf (u : cd_Mo) (ma : cd_Ia) (ms : cd_Ia) (mb : cd_By) (mr : cd_Ia) (k0 : Int32) (k1 : Int64) : Prop := (o_Mo_within u ma ms mr k0 k1) ∧ (¬ (f_Mo_within u ma ms mr k0 k1) = (-1 : Int32) → vp_in (f_Mo_within u ma ms mr k0 k1) 18) ∧ (¬ (f_Mo_within u ma ms mr k0 k1) = (-1 : Int32) → vp_in (((1024 : Int32) * (f_Mo_within u ma ms mr k0 k1)) + (k1 - (ma (f_Mo_within u ma ms mr k0 k1).toNatClampNeg).toInt64).toInt32) 18432)
set_option maxHeartbeats 4000000 in
set_option maxRecDepth 100000 in
theorem c_Mo_byteOf (l : Launch) (D : va_G) (tt : Nat → ClassId) (ad : Nat → Nat) (N : Nat) (A : Nat → Prop) (zs : Nat → Nat) (w0 : Nat → va_E) (q : Nat) (u : cd_Mo) (ma : cd_Ia) (ms : cd_Ia) (mb : cd_By) (mr : cd_Ia) (k0 : Int32) (k1 : Int64) (hR0 : cd_MoAt N tt ad w0 q u) (hR1 : cd_IaAt N tt ad w0 (q + 1) 18 ma) (hR2 : cd_IaAt N tt ad w0 (q + 2) 18 ms) (hR3 : cd_ByAt N tt ad w0 (q + 4) 18432 mb) (hR4 : cd_IaAt N tt ad w0 (q + 5) 3 mr) (ho : o_Mo_byteOf u ma ms mb mr k0 k1) : Met l y_Mo_byteOf w_Mo_byteOf ({ frames := 1, cells := 0, slots := 0, locals := 24 }) (va_Pc [.ref (ad q), .int k0, .long k1] (cd_U D tt ad N A zs w0)) (va_Qi (fun r w' => (f_Mo_byteOf u ma ms mb mr k0 k1) = r ∧ w0 = w') (fun w' t => cd_P D ad N A w' t.heap) A) 0 0 A := by
  refine Met.ofW (cc := b_Mo_byteOf) (maxL := 5) (ret := (some .int)) (by decide) rfl ?_
  intro p e s m args below meth c s₁ B hml hv
  obtain ⟨rfl, hP, hK, hZ⟩ := hv
  have hx := B.exec
  have hb := B.bytes
  have hr := B.returns
  have hA : ∀ w ∈ cd_AW, w.before _ s = true := fun w h => atoms_spec (ws := w_Mo_byteOf) B.pre w (List.mem_cons_of_mem _ h)
  have hown : s.vm.findClass R_Mo = some m.cls := findClass_of_methodNamed B.named
  have hlocks := B.notSynchronized
  have hS : va_S A s.heap s.heap [] := va_S.rf
  have hl := lv_entry ([.ref (ad q), .int k0, .long k1]) (n := 5) (Nat.le_of_ble_eq_true rfl)
  rw [lg_entry_eq]
  generalize (lg_sl ([.ref (ad q), .int k0, .long k1]) ++ List.replicate (5 - (lg_sl ([.ref (ad q), .int k0, .long k1])).length) Slot.unset).toArray = ls at hl ⊢
  have hl : lv_has ls 5 [(0, .ref (ad q)), (1, .int k0), (2, .long k1)] := hl
  have ho : (o_Mo_within u ma ms mr k0 k1) ∧ (¬ (f_Mo_within u ma ms mr k0 k1) = (-1 : Int32) → vp_in (f_Mo_within u ma ms mr k0 k1) 18) ∧ (¬ (f_Mo_within u ma ms mr k0 k1) = (-1 : Int32) → vp_in (((1024 : Int32) * (f_Mo_within u ma ms mr k0 k1)) + (k1 - (ma (f_Mo_within u ma ms mr k0 k1).toNatClampNeg).toInt64).toInt32) 18432) := ho
  obtain ⟨hn1, fa2⟩ := hR0
  refine lv_aload_n hx hb d_Mo_byteOf_0 rfl (lv_at hl 0 rfl) ?_
  refine lv_iload_n hx hb d_Mo_byteOf_1 rfl (lv_at hl 1 rfl) ?_
  refine lv_lload_n hx hb d_Mo_byteOf_2 rfl (lv_at hl 2 rfl) ?_
  refine va_calli (va_runV (As := [.int k0, .long k1]) (rest := []) ⟨hx, hb, hml, hown, hA⟩ (c_Mo_within l D tt ad N A zs w0 q u ma ms mr k0 k1 (⟨hn1, fa2⟩) hR1 hR2 hR4 (ho.1)) (cwV 2 hA (cd_gV aw_601 aw_602 aw_784 aw_8 aw_603) rfl rfl rfl ⟨rfl, by decide, by decide, by decide +kernel⟩ ⟨Nat.le_of_ble_eq_true rfl, Nat.le_of_ble_eq_true rfl⟩) ⟨cd_blind, cd_recv hK hP (k := q) (by omega) fa2 rfl, fun U hU hW => ⟨rfl, cd_pre hK hP hZ hS U hU hW⟩⟩ rfl rfl hl.1 rfl (lv_room (Nat.le_of_ble_eq_true rfl)) d_Mo_byteOf_3 ⟨Nat.zero_le _, Nat.zero_le _⟩) hS (fun _ _ h => h) (fun _ h => h) (fun r3 w1 tE H locs ht hvm hr4 hP hz1 hk1 hS => ?_)
  have hP := cd_Pf ht hP
  obtain ⟨rfl, rfl⟩ := hr4
  refine lv_istore (lv' := [(4, .int (f_Mo_within u ma ms mr k0 k1)), (0, .ref (ad q)), (1, .int k0), (2, .long k1)]) hx hb d_Mo_byteOf_6 hl (by decide) rfl (fun ls hl => ?_)
  refine lv_iload hx hb d_Mo_byteOf_8 (lv_at hl 0 rfl) ?_
  refine lv_iconst (v := (-1 : Int32)) hx hb d_Mo_byteOf_10 (by decide) ?_
  refine lv_icmp_ne (tgt := 18) hx hb d_Mo_byteOf_11 (by decide) (fun hc6 => ?_) (fun hc6 => ?_)
  · refine lv_aload_n hx hb d_Mo_byteOf_18 rfl (lv_at hl 1 rfl) ?_
    refine g_get (ci := 7) (C := R_Mo) (T := F_Mo) (Nf := 16) (v := .ref (ad (q + 4))) hx hb hA in_Mo hown hK hP (k := q) (by omega) fa2 rfl 4 (by decide) (hA _ aw_564) (fun _ h9 => h9) rfl d_Mo_byteOf_19 ?_
    refine lv_sipush (v := (1024 : Int32)) hx hb d_Mo_byteOf_22 (by decide) ?_
    refine lv_iload hx hb d_Mo_byteOf_25 (lv_at hl 0 rfl) ?_
    refine lv_imul hx hb d_Mo_byteOf_27 ?_
    refine lv_lload_n hx hb d_Mo_byteOf_28 rfl (lv_at hl 3 rfl) ?_
    refine lv_aload_n hx hb d_Mo_byteOf_29 rfl (lv_at hl 1 rfl) ?_
    refine g_get (ci := 7) (C := R_Mo) (T := F_Mo) (Nf := 16) (v := .ref (ad (q + 1))) hx hb hA in_Mo hown hK hP (k := q) (by omega) fa2 rfl 1 (by decide) (hA _ aw_561) (fun _ h9 => h9) rfl d_Mo_byteOf_30 ?_
    refine lv_iload hx hb d_Mo_byteOf_33 (lv_at hl 0 rfl) ?_
    obtain ⟨hn7, fa8⟩ := hR1
    refine g_iald hx hb hK hP (k := (q + 1)) (by omega) fa8 rfl (ho.2.1 hc6) d_Mo_byteOf_35 ?_
    refine lv_i2l hx hb d_Mo_byteOf_36 rfl ?_
    refine lv_lsub hx hb d_Mo_byteOf_37 ?_
    refine lv_l2i hx hb d_Mo_byteOf_38 rfl ?_
    refine lv_iadd hx hb d_Mo_byteOf_39 ?_
    obtain ⟨hn9, fa10⟩ := hR3
    refine g_bald hx hb hK hP (k := (q + 4)) (by omega) fa10 rfl (ho.2.2 hc6) d_Mo_byteOf_40 ?_
    refine lv_sipush (v := (255 : Int32)) hx hb d_Mo_byteOf_41 (by decide) ?_
    refine lv_iand hx hb d_Mo_byteOf_44 ?_
    have hf11 : (f_Mo_byteOf u ma ms mb mr k0 k1) = ((mb (((1024 : Int32) * (f_Mo_within u ma ms mr k0 k1)) + (k1 - (ma (f_Mo_within u ma ms mr k0 k1).toNatClampNeg).toInt64).toInt32).toNatClampNeg) &&& (255 : Int32)) := by rw [f_Mo_byteOf, if_neg hc6]
    exact W.iret (v := ((mb (((1024 : Int32) * (f_Mo_within u ma ms mr k0 k1)) + (k1 - (ma (f_Mo_within u ma ms mr k0 k1).toNatClampNeg).toInt64).toInt32).toNatClampNeg) &&& (255 : Int32))) hx hb hr (fun tE ht _ => ⟨⟨_, w0, rfl, ⟨hf11, rfl⟩, cd_Pt ht hP⟩, hS.F ht⟩) hS.2.2 d_Mo_byteOf_45
  · refine lv_iconst (v := (-1 : Int32)) hx hb d_Mo_byteOf_14 (by decide) ?_
    refine lv_goto (tgt := 45) hx hb d_Mo_byteOf_15 (by decide) ?_
    have hf12 : (f_Mo_byteOf u ma ms mb mr k0 k1) = (-1 : Int32) := by rw [f_Mo_byteOf, if_pos hc6]
    exact W.iret (v := (-1 : Int32)) hx hb hr (fun tE ht _ => ⟨⟨_, w0, rfl, ⟨hf12, rfl⟩, cd_Pt ht hP⟩, hS.F ht⟩) hS.2.2 d_Mo_byteOf_45
def f_Mo_map_L138 (S : cd_Mo × cd_Ia × cd_Ia × cd_Ia × cd_By × cd_Ia) (k0 : Int32) (k1 : Int32) (k2 : Int32) : Nat → Int32 → Int32 → (cd_Mo × cd_Ia × cd_Ia × cd_Ia × cd_By × cd_Ia) → Int32 × cd_Mo × cd_Ia × cd_Ia × cd_Ia × cd_By × cd_Ia
  | 0, _, _, _ => default
  | gn + 1, x4, x5, S' => (if (1024 : Int32) ≤ x5 then ((1 : Int32), S'.1, S'.2.1, S'.2.2.1, S'.2.2.2.1, S'.2.2.2.2.1, (upd S'.2.2.2.2.2 (0 : Int32).toNatClampNeg ((S'.2.2.2.2.2 (0 : Int32).toNatClampNeg) + (1 : Int32)))) else (f_Mo_map_L138 S k0 k1 k2 gn x4 (x5 + (1 : Int32)) (S'.1, S'.2.1, S'.2.2.1, S'.2.2.2.1, (upd S'.2.2.2.2.1 (((1024 : Int32) * x4) + x5).toNatClampNeg (vp_nar .byte (0 : Int32))), S'.2.2.2.2.2)))
def f_Mo_map_L68 (S : cd_Mo × cd_Ia × cd_Ia × cd_Ia × cd_By × cd_Ia) (k0 : Int32) (k1 : Int32) (k2 : Int32) : Nat → Int32 → (cd_Mo × cd_Ia × cd_Ia × cd_Ia × cd_By × cd_Ia) → Int32 × cd_Mo × cd_Ia × cd_Ia × cd_Ia × cd_By × cd_Ia
  | 0, _, _ => default
  | gn + 1, x4, S' => (if k1 ≤ x4 then (f_Mo_map_L138 S k0 k1 k2 1025 (S'.2.2.2.2.2 (0 : Int32).toNatClampNeg) (0 : Int32) (S'.1, (upd S'.2.1 (S'.2.2.2.2.2 (0 : Int32).toNatClampNeg).toNatClampNeg k0), (upd S'.2.2.1 (S'.2.2.2.2.2 (0 : Int32).toNatClampNeg).toNatClampNeg ((64 : Int32) * k1)), (upd S'.2.2.2.1 (S'.2.2.2.2.2 (0 : Int32).toNatClampNeg).toNatClampNeg k2), S'.2.2.2.2.1, S'.2.2.2.2.2)) else (if (f_Mo_within S'.1 S'.2.1 S'.2.2.1 S'.2.2.2.2.2 (0 : Int32) (k0.toInt64 + ((64 : Int32) * x4).toInt64)) = (-1 : Int32) then (f_Mo_map_L68 S k0 k1 k2 gn (x4 + (1 : Int32)) S') else ((0 : Int32), S'.1, S'.2.1, S'.2.2.1, S'.2.2.2.1, S'.2.2.2.2.1, S'.2.2.2.2.2)))
def f_Mo_map (S : cd_Mo × cd_Ia × cd_Ia × cd_Ia × cd_By × cd_Ia) (k0 : Int32) (k1 : Int32) (k2 : Int32) : Int32 × cd_Mo × cd_Ia × cd_Ia × cd_Ia × cd_By × cd_Ia := (if k0 < 0 then ((0 : Int32), ((0 : Int32), S.1.2.1, S.1.2.2.1, S.1.2.2.2.1, S.1.2.2.2.2.1, S.1.2.2.2.2.2), S.2.1, S.2.2.1, S.2.2.2.1, S.2.2.2.2.1, S.2.2.2.2.2) else (if (k0 - k0 / (64 : Int32) * (64 : Int32)) = 0 then (if k1 < (1 : Int32) then ((0 : Int32), ((0 : Int32), S.1.2.1, S.1.2.2.1, S.1.2.2.2.1, S.1.2.2.2.2.1, S.1.2.2.2.2.2), S.2.1, S.2.2.1, S.2.2.2.1, S.2.2.2.2.1, S.2.2.2.2.2) else (if (16 : Int32) < k1 then ((0 : Int32), ((0 : Int32), S.1.2.1, S.1.2.2.1, S.1.2.2.2.1, S.1.2.2.2.2.1, S.1.2.2.2.2.2), S.2.1, S.2.2.1, S.2.2.2.1, S.2.2.2.2.1, S.2.2.2.2.2) else (if k2 < 0 then ((0 : Int32), ((0 : Int32), S.1.2.1, S.1.2.2.1, S.1.2.2.2.1, S.1.2.2.2.2.1, S.1.2.2.2.2.2), S.2.1, S.2.2.1, S.2.2.2.1, S.2.2.2.2.1, S.2.2.2.2.2) else (if (7 : Int32) < k2 then ((0 : Int32), ((0 : Int32), S.1.2.1, S.1.2.2.1, S.1.2.2.2.1, S.1.2.2.2.2.1, S.1.2.2.2.2.2), S.2.1, S.2.2.1, S.2.2.2.1, S.2.2.2.2.1, S.2.2.2.2.2) else (if (S.2.2.2.2.2 (0 : Int32).toNatClampNeg) = (6 : Int32) then ((0 : Int32), ((0 : Int32), S.1.2.1, S.1.2.2.1, S.1.2.2.2.1, S.1.2.2.2.2.1, S.1.2.2.2.2.2), S.2.1, S.2.2.1, S.2.2.2.1, S.2.2.2.2.1, S.2.2.2.2.2) else (if (k0.toInt64 + ((64 : Int32) * k1).toInt64) ≤ (2147483648 : Int64) then (f_Mo_map_L68 S k0 k1 k2 17 (0 : Int32) (((0 : Int32), S.1.2.1, S.1.2.2.1, S.1.2.2.2.1, S.1.2.2.2.2.1, S.1.2.2.2.2.2), S.2.1, S.2.2.1, S.2.2.2.1, S.2.2.2.2.1, S.2.2.2.2.2)) else ((0 : Int32), ((0 : Int32), S.1.2.1, S.1.2.2.1, S.1.2.2.2.1, S.1.2.2.2.2.1, S.1.2.2.2.2.2), S.2.1, S.2.2.1, S.2.2.2.1, S.2.2.2.2.1, S.2.2.2.2.2))))))) else ((0 : Int32), ((0 : Int32), S.1.2.1, S.1.2.2.1, S.1.2.2.2.1, S.1.2.2.2.2.1, S.1.2.2.2.2.2), S.2.1, S.2.2.1, S.2.2.2.1, S.2.2.2.2.1, S.2.2.2.2.2)))
def o_Mo_map_L138 (S : cd_Mo × cd_Ia × cd_Ia × cd_Ia × cd_By × cd_Ia) (k0 : Int32) (k1 : Int32) (k2 : Int32) : Nat → Int32 → Int32 → (cd_Mo × cd_Ia × cd_Ia × cd_Ia × cd_By × cd_Ia) → Prop
  | 0, _, _, _ => False
  | gn + 1, x4, x5, S' => ((1024 : Int32) ≤ x5 → vp_in (0 : Int32) 3) ∧ ((1024 : Int32) ≤ x5 → vp_in (0 : Int32) 3) ∧ (¬ (1024 : Int32) ≤ x5 → vp_in (((1024 : Int32) * x4) + x5) 18432) ∧ (¬ (1024 : Int32) ≤ x5 → o_Mo_map_L138 S k0 k1 k2 gn x4 (x5 + (1 : Int32)) (S'.1, S'.2.1, S'.2.2.1, S'.2.2.2.1, (upd S'.2.2.2.2.1 (((1024 : Int32) * x4) + x5).toNatClampNeg (vp_nar .byte (0 : Int32))), S'.2.2.2.2.2))
def o_Mo_map_L68 (S : cd_Mo × cd_Ia × cd_Ia × cd_Ia × cd_By × cd_Ia) (k0 : Int32) (k1 : Int32) (k2 : Int32) : Nat → Int32 → (cd_Mo × cd_Ia × cd_Ia × cd_Ia × cd_By × cd_Ia) → Prop
  | 0, _, _ => False
  | gn + 1, x4, S' => (k1 ≤ x4 → vp_in (0 : Int32) 3) ∧ (k1 ≤ x4 → vp_in (S'.2.2.2.2.2 (0 : Int32).toNatClampNeg) 18) ∧ (k1 ≤ x4 → vp_in (S'.2.2.2.2.2 (0 : Int32).toNatClampNeg) 18) ∧ (k1 ≤ x4 → vp_in (S'.2.2.2.2.2 (0 : Int32).toNatClampNeg) 18) ∧ (k1 ≤ x4 → o_Mo_map_L138 S k0 k1 k2 1025 (S'.2.2.2.2.2 (0 : Int32).toNatClampNeg) (0 : Int32) (S'.1, (upd S'.2.1 (S'.2.2.2.2.2 (0 : Int32).toNatClampNeg).toNatClampNeg k0), (upd S'.2.2.1 (S'.2.2.2.2.2 (0 : Int32).toNatClampNeg).toNatClampNeg ((64 : Int32) * k1)), (upd S'.2.2.2.1 (S'.2.2.2.2.2 (0 : Int32).toNatClampNeg).toNatClampNeg k2), S'.2.2.2.2.1, S'.2.2.2.2.2)) ∧ (¬ k1 ≤ x4 → o_Mo_within S'.1 S'.2.1 S'.2.2.1 S'.2.2.2.2.2 (0 : Int32) (k0.toInt64 + ((64 : Int32) * x4).toInt64)) ∧ (¬ k1 ≤ x4 → (f_Mo_within S'.1 S'.2.1 S'.2.2.1 S'.2.2.2.2.2 (0 : Int32) (k0.toInt64 + ((64 : Int32) * x4).toInt64)) = (-1 : Int32) → o_Mo_map_L68 S k0 k1 k2 gn (x4 + (1 : Int32)) S')
def o_Mo_map (S : cd_Mo × cd_Ia × cd_Ia × cd_Ia × cd_By × cd_Ia) (k0 : Int32) (k1 : Int32) (k2 : Int32) : Prop := (¬ k0 < 0 → (k0 - k0 / (64 : Int32) * (64 : Int32)) = 0 → ¬ k1 < (1 : Int32) → ¬ (16 : Int32) < k1 → ¬ k2 < 0 → ¬ (7 : Int32) < k2 → vp_in (0 : Int32) 3) ∧ (¬ k0 < 0 → (k0 - k0 / (64 : Int32) * (64 : Int32)) = 0 → ¬ k1 < (1 : Int32) → ¬ (16 : Int32) < k1 → ¬ k2 < 0 → ¬ (7 : Int32) < k2 → ¬ (S.2.2.2.2.2 (0 : Int32).toNatClampNeg) = (6 : Int32) → (k0.toInt64 + ((64 : Int32) * k1).toInt64) ≤ (2147483648 : Int64) → o_Mo_map_L68 S k0 k1 k2 17 (0 : Int32) (((0 : Int32), S.1.2.1, S.1.2.2.1, S.1.2.2.2.1, S.1.2.2.2.2.1, S.1.2.2.2.2.2), S.2.1, S.2.2.1, S.2.2.2.1, S.2.2.2.2.1, S.2.2.2.2.2))
set_option maxHeartbeats 4000000 in
set_option maxRecDepth 100000 in
theorem c_Mo_map (l : Launch) (D : va_G) (tt : Nat → ClassId) (ad : Nat → Nat) (N : Nat) (A : Nat → Prop) (zs : Nat → Nat) (w0 : Nat → va_E) (q : Nat) (S : cd_Mo × cd_Ia × cd_Ia × cd_Ia × cd_By × cd_Ia) (k0 : Int32) (k1 : Int32) (k2 : Int32) (hR0 : cd_MoAt N tt ad w0 q S.1) (hR1 : cd_IaAt N tt ad w0 (q + 1) 18 S.2.1) (hR2 : cd_IaAt N tt ad w0 (q + 2) 18 S.2.2.1) (hR3 : cd_IaAt N tt ad w0 (q + 3) 18 S.2.2.2.1) (hR4 : cd_ByAt N tt ad w0 (q + 4) 18432 S.2.2.2.2.1) (hR5 : cd_IaAt N tt ad w0 (q + 5) 3 S.2.2.2.2.2) (ho : o_Mo_map S k0 k1 k2) : Met l y_Mo_map w_Mo_map ({ frames := 1, cells := 0, slots := 0, locals := 24 }) (va_Pc [.ref (ad q), .int k0, .int k1, .int k2] (cd_U D tt ad N A zs w0)) (va_Qi (fun r w' => (f_Mo_map S k0 k1 k2).1 = r ∧ (r = 0 ∨ r = 1) ∧ cd_MoAt N tt ad w' q ((f_Mo_map S k0 k1 k2).2.1) ∧ cd_IaAt N tt ad w' (q + 1) 18 ((f_Mo_map S k0 k1 k2).2.2.1) ∧ cd_IaAt N tt ad w' (q + 2) 18 ((f_Mo_map S k0 k1 k2).2.2.2.1) ∧ cd_IaAt N tt ad w' (q + 3) 18 ((f_Mo_map S k0 k1 k2).2.2.2.2.1) ∧ cd_ByAt N tt ad w' (q + 4) 18432 ((f_Mo_map S k0 k1 k2).2.2.2.2.2.1) ∧ cd_IaAt N tt ad w' (q + 5) 3 ((f_Mo_map S k0 k1 k2).2.2.2.2.2.2) ∧ (∀ k : Nat, (k < q ∨ q + 1 ≤ k) ∧ (k < (q + 1) ∨ (q + 1) + 1 ≤ k) ∧ (k < (q + 2) ∨ (q + 2) + 1 ≤ k) ∧ (k < (q + 3) ∨ (q + 3) + 1 ≤ k) ∧ (k < (q + 4) ∨ (q + 4) + 1 ≤ k) ∧ (k < (q + 5) ∨ (q + 5) + 1 ≤ k) → w' k = w0 k)) (fun w' t => cd_P D ad N A w' t.heap) A) 0 0 A := by
  refine Met.ofW (cc := b_Mo_map) (maxL := 6) (ret := (some .boolean)) (by decide) rfl ?_
  intro p e s m args below meth c s₁ B hml hv
  obtain ⟨rfl, hP, hK, hZ⟩ := hv
  have hx := B.exec
  have hb := B.bytes
  have hr := B.returns
  have hA : ∀ w ∈ cd_AW, w.before _ s = true := fun w h => atoms_spec (ws := w_Mo_map) B.pre w (List.mem_cons_of_mem _ h)
  have hown : s.vm.findClass R_Mo = some m.cls := findClass_of_methodNamed B.named
  have hlocks := B.notSynchronized
  have L138 : ∀ (gn : Nat) (x4 : Int32) (x5 : Int32) (S' : cd_Mo × cd_Ia × cd_Ia × cd_Ia × cd_By × cd_Ia) (w : Nat → va_E) (efr : ∀ k : Nat, (k < q ∨ q + 1 ≤ k) ∧ (k < (q + 1) ∨ (q + 1) + 1 ≤ k) ∧ (k < (q + 2) ∨ (q + 2) + 1 ≤ k) ∧ (k < (q + 3) ∨ (q + 3) + 1 ≤ k) ∧ (k < (q + 4) ∨ (q + 4) + 1 ≤ k) ∧ (k < (q + 5) ∨ (q + 5) + 1 ≤ k) → w k = w0 k) (H : Heap) (locs : List Loc) (ls : Array Slot), lv_has ls 6 [(0, .ref (ad q)), (4, .int x4), (5, .int x5)] → (f_Mo_map S k0 k1 k2) = f_Mo_map_L138 S k0 k1 k2 gn x4 x5 S' → cd_MoAt N tt ad w q S'.1 → cd_IaAt N tt ad w (q + 1) 18 S'.2.1 → cd_IaAt N tt ad w (q + 2) 18 S'.2.2.1 → cd_IaAt N tt ad w (q + 3) 18 S'.2.2.2.1 → cd_ByAt N tt ad w (q + 4) 18432 S'.2.2.2.2.1 → cd_IaAt N tt ad w (q + 5) 3 S'.2.2.2.2.2 → cd_P D ad N A w H → va_S A s.heap H locs → o_Mo_map_L138 S k0 k1 k2 gn x4 x5 S' → W p l e (headSpec w_Mo_map ({ frames := 1, cells := 0, slots := 0, locals := 24 })).room s m [.ref (ad q), .int k0, .int k1, .int k2].toArray below meth c H locs 0 0 (MQ below (va_Qi (fun r w' => (f_Mo_map S k0 k1 k2).1 = r ∧ (r = 0 ∨ r = 1) ∧ cd_MoAt N tt ad w' q ((f_Mo_map S k0 k1 k2).2.1) ∧ cd_IaAt N tt ad w' (q + 1) 18 ((f_Mo_map S k0 k1 k2).2.2.1) ∧ cd_IaAt N tt ad w' (q + 2) 18 ((f_Mo_map S k0 k1 k2).2.2.2.1) ∧ cd_IaAt N tt ad w' (q + 3) 18 ((f_Mo_map S k0 k1 k2).2.2.2.2.1) ∧ cd_ByAt N tt ad w' (q + 4) 18432 ((f_Mo_map S k0 k1 k2).2.2.2.2.2.1) ∧ cd_IaAt N tt ad w' (q + 5) 3 ((f_Mo_map S k0 k1 k2).2.2.2.2.2.2) ∧ (∀ k : Nat, (k < q ∨ q + 1 ≤ k) ∧ (k < (q + 1) ∨ (q + 1) + 1 ≤ k) ∧ (k < (q + 2) ∨ (q + 2) + 1 ≤ k) ∧ (k < (q + 3) ∨ (q + 3) + 1 ≤ k) ∧ (k < (q + 4) ∨ (q + 4) + 1 ≤ k) ∧ (k < (q + 5) ∨ (q + 5) + 1 ≤ k) → w' k = w0 k)) (fun w' t => cd_P D ad N A w' t.heap) A) [.ref (ad q), .int k0, .int k1, .int k2].toArray s 0 0 A) (F0 m 138 ls []) := by
    intro gn
    induction gn with
    | zero => intro x4 x5 S' w efr H locs ls hl he hL0 hL1 hL2 hL3 hL4 hL5 hP hS ho; exact ho.elim
    | succ gn ih =>
      intro x4 x5 S' w efr H locs ls hl he hL0 hL1 hL2 hL3 hL4 hL5 hP hS ho
      have ho : ((1024 : Int32) ≤ x5 → vp_in (0 : Int32) 3) ∧ ((1024 : Int32) ≤ x5 → vp_in (0 : Int32) 3) ∧ (¬ (1024 : Int32) ≤ x5 → vp_in (((1024 : Int32) * x4) + x5) 18432) ∧ (¬ (1024 : Int32) ≤ x5 → o_Mo_map_L138 S k0 k1 k2 gn x4 (x5 + (1 : Int32)) (S'.1, S'.2.1, S'.2.2.1, S'.2.2.2.1, (upd S'.2.2.2.2.1 (((1024 : Int32) * x4) + x5).toNatClampNeg (vp_nar .byte (0 : Int32))), S'.2.2.2.2.2)) := ho
      obtain ⟨hn1, fa2⟩ := hL0
      refine lv_iload hx hb d_Mo_map_138 (lv_at hl 2 rfl) ?_
      refine lv_sipush (v := (1024 : Int32)) hx hb d_Mo_map_140 (by decide) ?_
      refine lv_icmp_ge (tgt := 167) hx hb d_Mo_map_143 (by decide) (fun hc3 => ?_) (fun hc3 => ?_)
      · refine lv_aload_n hx hb d_Mo_map_167 rfl (lv_at hl 0 rfl) ?_
        refine g_get (ci := 7) (C := R_Mo) (T := F_Mo) (Nf := 16) (v := .ref (ad (q + 5))) hx hb hA in_Mo hown hK hP (k := q) (by omega) fa2 rfl 5 (by decide) (hA _ aw_565) (fun _ h9 => h9) rfl d_Mo_map_168 ?_
        refine lv_iconst (v := (0 : Int32)) hx hb d_Mo_map_171 (by decide) ?_
        refine lv_dup2_11 hx hb d_Mo_map_172 rfl rfl ?_
        obtain ⟨hn4, fa5⟩ := hL5
        refine g_iald hx hb hK hP (k := (q + 5)) (by omega) fa5 rfl (ho.1 hc3) d_Mo_map_173 ?_
        refine lv_iconst (v := (1 : Int32)) hx hb d_Mo_map_174 (by decide) ?_
        refine lv_iadd hx hb d_Mo_map_175 ?_
        refine g_iast hx hb hK hP hS (k := (q + 5)) (by omega) fa5 rfl (ho.2.1 hc3) d_Mo_map_176 (fun H locs w1 fa6 e1 hP hS => ?_)
        have fa7 := (e1 q (by omega)).trans fa2
        have at8 := cd_IaAt_keep hL1 (fun k h1 h2 => e1 k (by omega))
        have at9 := cd_IaAt_keep hL2 (fun k h1 h2 => e1 k (by omega))
        have at10 := cd_IaAt_keep hL3 (fun k h1 h2 => e1 k (by omega))
        have at11 := cd_ByAt_keep hL4 (fun k h1 h2 => e1 k (by omega))
        refine lv_iconst (v := (1 : Int32)) hx hb d_Mo_map_177 (by decide) ?_
        have hf12 : (f_Mo_map S k0 k1 k2) = ((1 : Int32), S'.1, S'.2.1, S'.2.2.1, S'.2.2.2.1, S'.2.2.2.2.1, (upd S'.2.2.2.2.2 (0 : Int32).toNatClampNeg ((S'.2.2.2.2.2 (0 : Int32).toNatClampNeg) + (1 : Int32)))) := by rw [he, f_Mo_map_L138, if_pos hc3]
        exact W.zret (ty := .boolean) (v := (1 : Int32)) hx hb hr rfl (fun tE ht _ => ⟨⟨_, w1, rfl, ⟨(by rw [hf12]), (Or.inr rfl), (by rw [hf12]; exact ⟨hn1, fa7⟩), (by rw [hf12]; exact at8), (by rw [hf12]; exact at9), (by rw [hf12]; exact at10), (by rw [hf12]; exact at11), (by rw [hf12]; exact ⟨hn4, fa6⟩), (fun k hk => ((e1 k (by omega)).trans (efr k (by omega))))⟩, cd_Pt ht hP⟩, hS.F ht⟩) hS.2.2 d_Mo_map_178
      · refine lv_aload_n hx hb d_Mo_map_146 rfl (lv_at hl 0 rfl) ?_
        refine g_get (ci := 7) (C := R_Mo) (T := F_Mo) (Nf := 16) (v := .ref (ad (q + 4))) hx hb hA in_Mo hown hK hP (k := q) (by omega) fa2 rfl 4 (by decide) (hA _ aw_564) (fun _ h9 => h9) rfl d_Mo_map_147 ?_
        refine lv_sipush (v := (1024 : Int32)) hx hb d_Mo_map_150 (by decide) ?_
        refine lv_iload hx hb d_Mo_map_153 (lv_at hl 1 rfl) ?_
        refine lv_imul hx hb d_Mo_map_155 ?_
        refine lv_iload hx hb d_Mo_map_156 (lv_at hl 2 rfl) ?_
        refine lv_iadd hx hb d_Mo_map_158 ?_
        refine lv_iconst (v := (0 : Int32)) hx hb d_Mo_map_159 (by decide) ?_
        obtain ⟨hn13, fa14⟩ := hL4
        refine g_bast hx hb hK hP hS (k := (q + 4)) (by omega) fa14 rfl (ho.2.2.1 hc3) d_Mo_map_160 (fun H locs w2 fa15 e2 hP hS => ?_)
        have fa16 := (e2 q (by omega)).trans fa2
        have at17 := cd_IaAt_keep hL1 (fun k h1 h2 => e2 k (by omega))
        have at18 := cd_IaAt_keep hL2 (fun k h1 h2 => e2 k (by omega))
        have at19 := cd_IaAt_keep hL3 (fun k h1 h2 => e2 k (by omega))
        have at20 := cd_IaAt_keep hL5 (fun k h1 h2 => e2 k (by omega))
        refine lv_iinc (k := 2) (v := (x5 + (1 : Int32))) (lv' := [(5, .int (x5 + (1 : Int32))), (0, .ref (ad q)), (4, .int x4)]) hx hb d_Mo_map_161 hl rfl (cd_inc _ _ _ (by decide)) (by decide) rfl (fun ls hl => ?_)
        refine lv_goto (tgt := 138) hx hb d_Mo_map_164 (by decide) ?_
        exact ih x4 (x5 + (1 : Int32)) (S'.1, S'.2.1, S'.2.2.1, S'.2.2.2.1, (upd S'.2.2.2.2.1 (((1024 : Int32) * x4) + x5).toNatClampNeg (vp_nar .byte (0 : Int32))), S'.2.2.2.2.2) w2 (fun k hk => ((e2 k (by omega)).trans (efr k (by omega)))) H locs ls (lv_sub hl [1, 2, 0] rfl) (show (f_Mo_map S k0 k1 k2) = f_Mo_map_L138 S k0 k1 k2 gn x4 (x5 + (1 : Int32)) (S'.1, S'.2.1, S'.2.2.1, S'.2.2.2.1, (upd S'.2.2.2.2.1 (((1024 : Int32) * x4) + x5).toNatClampNeg (vp_nar .byte (0 : Int32))), S'.2.2.2.2.2) by rw [he, f_Mo_map_L138, if_neg hc3]) (⟨hn1, fa16⟩) at17 at18 at19 (⟨hn13, fa15⟩) at20 hP hS (ho.2.2.2 hc3)
  have L68 : ∀ (gn : Nat) (x4 : Int32) (S' : cd_Mo × cd_Ia × cd_Ia × cd_Ia × cd_By × cd_Ia) (w : Nat → va_E) (efr : ∀ k : Nat, (k < q ∨ q + 1 ≤ k) ∧ (k < (q + 1) ∨ (q + 1) + 1 ≤ k) ∧ (k < (q + 2) ∨ (q + 2) + 1 ≤ k) ∧ (k < (q + 3) ∨ (q + 3) + 1 ≤ k) ∧ (k < (q + 4) ∨ (q + 4) + 1 ≤ k) ∧ (k < (q + 5) ∨ (q + 5) + 1 ≤ k) → w k = w0 k) (H : Heap) (locs : List Loc) (ls : Array Slot), lv_has ls 6 [(0, .ref (ad q)), (1, .int k0), (2, .int k1), (3, .int k2), (4, .int x4)] → (f_Mo_map S k0 k1 k2) = f_Mo_map_L68 S k0 k1 k2 gn x4 S' → cd_MoAt N tt ad w q S'.1 → cd_IaAt N tt ad w (q + 1) 18 S'.2.1 → cd_IaAt N tt ad w (q + 2) 18 S'.2.2.1 → cd_IaAt N tt ad w (q + 3) 18 S'.2.2.2.1 → cd_ByAt N tt ad w (q + 4) 18432 S'.2.2.2.2.1 → cd_IaAt N tt ad w (q + 5) 3 S'.2.2.2.2.2 → cd_P D ad N A w H → va_S A s.heap H locs → o_Mo_map_L68 S k0 k1 k2 gn x4 S' → W p l e (headSpec w_Mo_map ({ frames := 1, cells := 0, slots := 0, locals := 24 })).room s m [.ref (ad q), .int k0, .int k1, .int k2].toArray below meth c H locs 0 0 (MQ below (va_Qi (fun r w' => (f_Mo_map S k0 k1 k2).1 = r ∧ (r = 0 ∨ r = 1) ∧ cd_MoAt N tt ad w' q ((f_Mo_map S k0 k1 k2).2.1) ∧ cd_IaAt N tt ad w' (q + 1) 18 ((f_Mo_map S k0 k1 k2).2.2.1) ∧ cd_IaAt N tt ad w' (q + 2) 18 ((f_Mo_map S k0 k1 k2).2.2.2.1) ∧ cd_IaAt N tt ad w' (q + 3) 18 ((f_Mo_map S k0 k1 k2).2.2.2.2.1) ∧ cd_ByAt N tt ad w' (q + 4) 18432 ((f_Mo_map S k0 k1 k2).2.2.2.2.2.1) ∧ cd_IaAt N tt ad w' (q + 5) 3 ((f_Mo_map S k0 k1 k2).2.2.2.2.2.2) ∧ (∀ k : Nat, (k < q ∨ q + 1 ≤ k) ∧ (k < (q + 1) ∨ (q + 1) + 1 ≤ k) ∧ (k < (q + 2) ∨ (q + 2) + 1 ≤ k) ∧ (k < (q + 3) ∨ (q + 3) + 1 ≤ k) ∧ (k < (q + 4) ∨ (q + 4) + 1 ≤ k) ∧ (k < (q + 5) ∨ (q + 5) + 1 ≤ k) → w' k = w0 k)) (fun w' t => cd_P D ad N A w' t.heap) A) [.ref (ad q), .int k0, .int k1, .int k2].toArray s 0 0 A) (F0 m 68 ls []) := by
    intro gn
    induction gn with
    | zero => intro x4 S' w efr H locs ls hl he hL0 hL1 hL2 hL3 hL4 hL5 hP hS ho; exact ho.elim
    | succ gn ih =>
      intro x4 S' w efr H locs ls hl he hL0 hL1 hL2 hL3 hL4 hL5 hP hS ho
      have ho : (k1 ≤ x4 → vp_in (0 : Int32) 3) ∧ (k1 ≤ x4 → vp_in (S'.2.2.2.2.2 (0 : Int32).toNatClampNeg) 18) ∧ (k1 ≤ x4 → vp_in (S'.2.2.2.2.2 (0 : Int32).toNatClampNeg) 18) ∧ (k1 ≤ x4 → vp_in (S'.2.2.2.2.2 (0 : Int32).toNatClampNeg) 18) ∧ (k1 ≤ x4 → o_Mo_map_L138 S k0 k1 k2 1025 (S'.2.2.2.2.2 (0 : Int32).toNatClampNeg) (0 : Int32) (S'.1, (upd S'.2.1 (S'.2.2.2.2.2 (0 : Int32).toNatClampNeg).toNatClampNeg k0), (upd S'.2.2.1 (S'.2.2.2.2.2 (0 : Int32).toNatClampNeg).toNatClampNeg ((64 : Int32) * k1)), (upd S'.2.2.2.1 (S'.2.2.2.2.2 (0 : Int32).toNatClampNeg).toNatClampNeg k2), S'.2.2.2.2.1, S'.2.2.2.2.2)) ∧ (¬ k1 ≤ x4 → o_Mo_within S'.1 S'.2.1 S'.2.2.1 S'.2.2.2.2.2 (0 : Int32) (k0.toInt64 + ((64 : Int32) * x4).toInt64)) ∧ (¬ k1 ≤ x4 → (f_Mo_within S'.1 S'.2.1 S'.2.2.1 S'.2.2.2.2.2 (0 : Int32) (k0.toInt64 + ((64 : Int32) * x4).toInt64)) = (-1 : Int32) → o_Mo_map_L68 S k0 k1 k2 gn (x4 + (1 : Int32)) S') := ho
      obtain ⟨hn21, fa22⟩ := hL0
      refine lv_iload hx hb d_Mo_map_68 (lv_at hl 4 rfl) ?_
      refine lv_iload_n hx hb d_Mo_map_70 rfl (lv_at hl 2 rfl) ?_
      refine lv_icmp_ge (tgt := 100) hx hb d_Mo_map_71 (by decide) (fun hc23 => ?_) (fun hc23 => ?_)
      · refine lv_aload_n hx hb d_Mo_map_100 rfl (lv_at hl 0 rfl) ?_
        refine g_get (ci := 7) (C := R_Mo) (T := F_Mo) (Nf := 16) (v := .ref (ad (q + 5))) hx hb hA in_Mo hown hK hP (k := q) (by omega) fa22 rfl 5 (by decide) (hA _ aw_565) (fun _ h9 => h9) rfl d_Mo_map_101 ?_
        refine lv_iconst (v := (0 : Int32)) hx hb d_Mo_map_104 (by decide) ?_
        obtain ⟨hn24, fa25⟩ := hL5
        refine g_iald hx hb hK hP (k := (q + 5)) (by omega) fa25 rfl (ho.1 hc23) d_Mo_map_105 ?_
        refine lv_istore (lv' := [(4, .int (S'.2.2.2.2.2 (0 : Int32).toNatClampNeg)), (0, .ref (ad q)), (1, .int k0), (2, .int k1), (3, .int k2)]) hx hb d_Mo_map_106 hl (by decide) rfl (fun ls hl => ?_)
        refine lv_aload_n hx hb d_Mo_map_108 rfl (lv_at hl 1 rfl) ?_
        refine g_get (ci := 7) (C := R_Mo) (T := F_Mo) (Nf := 16) (v := .ref (ad (q + 1))) hx hb hA in_Mo hown hK hP (k := q) (by omega) fa22 rfl 1 (by decide) (hA _ aw_561) (fun _ h9 => h9) rfl d_Mo_map_109 ?_
        refine lv_iload hx hb d_Mo_map_112 (lv_at hl 0 rfl) ?_
        refine lv_iload_n hx hb d_Mo_map_114 rfl (lv_at hl 2 rfl) ?_
        obtain ⟨hn26, fa27⟩ := hL1
        refine g_iast hx hb hK hP hS (k := (q + 1)) (by omega) fa27 rfl (ho.2.1 hc23) d_Mo_map_115 (fun H locs w3 fa28 e3 hP hS => ?_)
        have fa29 := (e3 q (by omega)).trans fa22
        have at30 := cd_IaAt_keep hL2 (fun k h1 h2 => e3 k (by omega))
        have at31 := cd_IaAt_keep hL3 (fun k h1 h2 => e3 k (by omega))
        have at32 := cd_ByAt_keep hL4 (fun k h1 h2 => e3 k (by omega))
        have fa33 := (e3 (q + 5) (by omega)).trans fa25
        refine lv_aload_n hx hb d_Mo_map_116 rfl (lv_at hl 1 rfl) ?_
        refine g_get (ci := 7) (C := R_Mo) (T := F_Mo) (Nf := 16) (v := .ref (ad (q + 2))) hx hb hA in_Mo hown hK hP (k := q) (by omega) fa29 rfl 2 (by decide) (hA _ aw_562) (fun _ h9 => h9) rfl d_Mo_map_117 ?_
        refine lv_iload hx hb d_Mo_map_120 (lv_at hl 0 rfl) ?_
        refine lv_bipush (v := (64 : Int32)) hx hb d_Mo_map_122 (by decide) ?_
        refine lv_iload_n hx hb d_Mo_map_124 rfl (lv_at hl 3 rfl) ?_
        refine lv_imul hx hb d_Mo_map_125 ?_
        obtain ⟨hn34, fa35⟩ := at30
        refine g_iast hx hb hK hP hS (k := (q + 2)) (by omega) fa35 rfl (ho.2.2.1 hc23) d_Mo_map_126 (fun H locs w4 fa36 e4 hP hS => ?_)
        have fa37 := (e4 q (by omega)).trans fa29
        have fa38 := (e4 (q + 1) (by omega)).trans fa28
        have at39 := cd_IaAt_keep at31 (fun k h1 h2 => e4 k (by omega))
        have at40 := cd_ByAt_keep at32 (fun k h1 h2 => e4 k (by omega))
        have fa41 := (e4 (q + 5) (by omega)).trans fa33
        refine lv_aload_n hx hb d_Mo_map_127 rfl (lv_at hl 1 rfl) ?_
        refine g_get (ci := 7) (C := R_Mo) (T := F_Mo) (Nf := 16) (v := .ref (ad (q + 3))) hx hb hA in_Mo hown hK hP (k := q) (by omega) fa37 rfl 3 (by decide) (hA _ aw_563) (fun _ h9 => h9) rfl d_Mo_map_128 ?_
        refine lv_iload hx hb d_Mo_map_131 (lv_at hl 0 rfl) ?_
        refine lv_iload_n hx hb d_Mo_map_133 rfl (lv_at hl 4 rfl) ?_
        obtain ⟨hn42, fa43⟩ := at39
        refine g_iast hx hb hK hP hS (k := (q + 3)) (by omega) fa43 rfl (ho.2.2.2.1 hc23) d_Mo_map_134 (fun H locs w5 fa44 e5 hP hS => ?_)
        have fa45 := (e5 q (by omega)).trans fa37
        have fa46 := (e5 (q + 1) (by omega)).trans fa38
        have fa47 := (e5 (q + 2) (by omega)).trans fa36
        have at48 := cd_ByAt_keep at40 (fun k h1 h2 => e5 k (by omega))
        have fa49 := (e5 (q + 5) (by omega)).trans fa41
        refine lv_iconst (v := (0 : Int32)) hx hb d_Mo_map_135 (by decide) ?_
        refine lv_istore (lv' := [(5, .int (0 : Int32)), (4, .int (S'.2.2.2.2.2 (0 : Int32).toNatClampNeg)), (0, .ref (ad q)), (1, .int k0), (2, .int k1), (3, .int k2)]) hx hb d_Mo_map_136 hl (by decide) rfl (fun ls hl => ?_)
        exact L138 1025 (S'.2.2.2.2.2 (0 : Int32).toNatClampNeg) (0 : Int32) (S'.1, (upd S'.2.1 (S'.2.2.2.2.2 (0 : Int32).toNatClampNeg).toNatClampNeg k0), (upd S'.2.2.1 (S'.2.2.2.2.2 (0 : Int32).toNatClampNeg).toNatClampNeg ((64 : Int32) * k1)), (upd S'.2.2.2.1 (S'.2.2.2.2.2 (0 : Int32).toNatClampNeg).toNatClampNeg k2), S'.2.2.2.2.1, S'.2.2.2.2.2) w5 (fun k hk => ((e5 k (by omega)).trans ((e4 k (by omega)).trans ((e3 k (by omega)).trans (efr k (by omega)))))) H locs ls (lv_sub hl [2, 1, 0] rfl) (show (f_Mo_map S k0 k1 k2) = f_Mo_map_L138 S k0 k1 k2 1025 (S'.2.2.2.2.2 (0 : Int32).toNatClampNeg) (0 : Int32) (S'.1, (upd S'.2.1 (S'.2.2.2.2.2 (0 : Int32).toNatClampNeg).toNatClampNeg k0), (upd S'.2.2.1 (S'.2.2.2.2.2 (0 : Int32).toNatClampNeg).toNatClampNeg ((64 : Int32) * k1)), (upd S'.2.2.2.1 (S'.2.2.2.2.2 (0 : Int32).toNatClampNeg).toNatClampNeg k2), S'.2.2.2.2.1, S'.2.2.2.2.2) by rw [he, f_Mo_map_L68, if_pos hc23]) (⟨hn21, fa45⟩) (⟨hn26, fa46⟩) (⟨hn34, fa47⟩) (⟨hn42, fa44⟩) at48 (⟨hn24, fa49⟩) hP hS (ho.2.2.2.2.1 hc23)
      · refine lv_aload_n hx hb d_Mo_map_74 rfl (lv_at hl 0 rfl) ?_
        refine lv_iconst (v := (0 : Int32)) hx hb d_Mo_map_75 (by decide) ?_
        refine lv_iload_n hx hb d_Mo_map_76 rfl (lv_at hl 1 rfl) ?_
        refine lv_i2l hx hb d_Mo_map_77 rfl ?_
        refine lv_bipush (v := (64 : Int32)) hx hb d_Mo_map_78 (by decide) ?_
        refine lv_iload hx hb d_Mo_map_80 (lv_at hl 4 rfl) ?_
        refine lv_imul hx hb d_Mo_map_82 ?_
        refine lv_i2l hx hb d_Mo_map_83 rfl ?_
        refine lv_ladd hx hb d_Mo_map_84 ?_
        refine va_calli (va_runV (As := [.int (0 : Int32), .long (k0.toInt64 + ((64 : Int32) * x4).toInt64)]) (rest := []) ⟨hx, hb, hml, hown, hA⟩ (c_Mo_within l D tt ad N A zs w q S'.1 S'.2.1 S'.2.2.1 S'.2.2.2.2.2 (0 : Int32) (k0.toInt64 + ((64 : Int32) * x4).toInt64) (⟨hn21, fa22⟩) hL1 hL2 hL5 (ho.2.2.2.2.2.1 hc23)) (cwV 2 hA (cd_gV aw_601 aw_602 aw_784 aw_8 aw_603) rfl rfl rfl ⟨rfl, by decide, by decide, by decide +kernel⟩ ⟨Nat.le_of_ble_eq_true rfl, Nat.le_of_ble_eq_true rfl⟩) ⟨cd_blind, cd_recv hK hP (k := q) (by omega) fa22 rfl, fun U hU hW => ⟨rfl, cd_pre hK hP hZ hS U hU hW⟩⟩ rfl rfl hl.1 rfl (lv_room (Nat.le_of_ble_eq_true rfl)) d_Mo_map_85 ⟨Nat.zero_le _, Nat.zero_le _⟩) hS (fun _ _ h => h) (fun _ h => h) (fun r50 w6 tE H locs ht hvm hr51 hP hz1 hk1 hS => ?_)
        have hP := cd_Pf ht hP
        obtain ⟨rfl, rfl⟩ := hr51
        refine lv_iconst (v := (-1 : Int32)) hx hb d_Mo_map_88 (by decide) ?_
        refine lv_icmp_eq (tgt := 94) hx hb d_Mo_map_89 (by decide) (fun hc53 => ?_) (fun hc53 => ?_)
        · refine lv_iinc (k := 4) (v := (x4 + (1 : Int32))) (lv' := [(4, .int (x4 + (1 : Int32))), (0, .ref (ad q)), (1, .int k0), (2, .int k1), (3, .int k2)]) hx hb d_Mo_map_94 hl rfl (cd_inc _ _ _ (by decide)) (by decide) rfl (fun ls hl => ?_)
          refine lv_goto (tgt := 68) hx hb d_Mo_map_97 (by decide) ?_
          exact ih (x4 + (1 : Int32)) S' w (fun k hk => (efr k (by omega))) H locs ls (lv_sub hl [1, 2, 3, 4, 0] rfl) (show (f_Mo_map S k0 k1 k2) = f_Mo_map_L68 S k0 k1 k2 gn (x4 + (1 : Int32)) S' by rw [he, f_Mo_map_L68, if_neg hc23, if_pos hc53]) (⟨hn21, fa22⟩) hL1 hL2 hL3 hL4 hL5 hP hS (ho.2.2.2.2.2.2 hc23 hc53)
        · refine lv_iconst (v := (0 : Int32)) hx hb d_Mo_map_92 (by decide) ?_
          have hf54 : (f_Mo_map S k0 k1 k2) = ((0 : Int32), S'.1, S'.2.1, S'.2.2.1, S'.2.2.2.1, S'.2.2.2.2.1, S'.2.2.2.2.2) := by rw [he, f_Mo_map_L68, if_neg hc23, if_neg hc53]
          exact W.zret (ty := .boolean) (v := (0 : Int32)) hx hb hr rfl (fun tE ht _ => ⟨⟨_, w, rfl, ⟨(by rw [hf54]), (Or.inl rfl), (by rw [hf54]; exact ⟨hn21, fa22⟩), (by rw [hf54]; exact hL1), (by rw [hf54]; exact hL2), (by rw [hf54]; exact hL3), (by rw [hf54]; exact hL4), (by rw [hf54]; exact hL5), (fun k hk => (efr k (by omega)))⟩, cd_Pt ht hP⟩, hS.F ht⟩) hS.2.2 d_Mo_map_93
  have hS : va_S A s.heap s.heap [] := va_S.rf
  have hl := lv_entry ([.ref (ad q), .int k0, .int k1, .int k2]) (n := 6) (Nat.le_of_ble_eq_true rfl)
  rw [lg_entry_eq]
  generalize (lg_sl ([.ref (ad q), .int k0, .int k1, .int k2]) ++ List.replicate (6 - (lg_sl ([.ref (ad q), .int k0, .int k1, .int k2])).length) Slot.unset).toArray = ls at hl ⊢
  have hl : lv_has ls 6 [(0, .ref (ad q)), (1, .int k0), (2, .int k1), (3, .int k2)] := hl
  have ho : (¬ k0 < 0 → (k0 - k0 / (64 : Int32) * (64 : Int32)) = 0 → ¬ k1 < (1 : Int32) → ¬ (16 : Int32) < k1 → ¬ k2 < 0 → ¬ (7 : Int32) < k2 → vp_in (0 : Int32) 3) ∧ (¬ k0 < 0 → (k0 - k0 / (64 : Int32) * (64 : Int32)) = 0 → ¬ k1 < (1 : Int32) → ¬ (16 : Int32) < k1 → ¬ k2 < 0 → ¬ (7 : Int32) < k2 → ¬ (S.2.2.2.2.2 (0 : Int32).toNatClampNeg) = (6 : Int32) → (k0.toInt64 + ((64 : Int32) * k1).toInt64) ≤ (2147483648 : Int64) → o_Mo_map_L68 S k0 k1 k2 17 (0 : Int32) (((0 : Int32), S.1.2.1, S.1.2.2.1, S.1.2.2.2.1, S.1.2.2.2.2.1, S.1.2.2.2.2.2), S.2.1, S.2.2.1, S.2.2.2.1, S.2.2.2.2.1, S.2.2.2.2.2)) := ho
  obtain ⟨hn55, fa56⟩ := hR0
  refine lv_aload_n hx hb d_Mo_map_0 rfl (lv_at hl 0 rfl) ?_
  refine lv_iconst (v := (0 : Int32)) hx hb d_Mo_map_1 (by decide) ?_
  refine g_put (ci := 7) (C := R_Mo) (T := F_Mo) (Nf := 16) (v := .int (0 : Int32)) (ty := .int) hx hb hA in_Mo t_Mo t_Mo_ok n_Mo hown hK hP hS (k := q) (by omega) fa56 rfl 0 (by decide) (hA _ aw_560) (fun _ h9 => h9) rfl (by decide +kernel) rfl rfl (Nat.le_of_ble_eq_true rfl) d_Mo_map_2 (fun H locs w7 fa57 e7 hP hS => ?_)
  have fa57 : w7 q = .inr (7, [.int (0 : Int32), .ref (ad (q + 1)), .ref (ad (q + 2)), .ref (ad (q + 3)), .ref (ad (q + 4)), .ref (ad (q + 5)), .ref (ad (q + 6)), .ref (ad (q + 7)), .ref (ad (q + 8)), .ref (ad (q + 9)), .int S.1.2.1, .ref (ad (q + 10)), .int S.1.2.2.1, .int S.1.2.2.2.1, .int S.1.2.2.2.2.1, .int S.1.2.2.2.2.2]) := fa57
  have at58 := cd_IaAt_keep hR1 (fun k h1 h2 => e7 k (by omega))
  have at59 := cd_IaAt_keep hR2 (fun k h1 h2 => e7 k (by omega))
  have at60 := cd_IaAt_keep hR3 (fun k h1 h2 => e7 k (by omega))
  have at61 := cd_ByAt_keep hR4 (fun k h1 h2 => e7 k (by omega))
  have at62 := cd_IaAt_keep hR5 (fun k h1 h2 => e7 k (by omega))
  refine lv_iload_n hx hb d_Mo_map_5 rfl (lv_at hl 1 rfl) ?_
  refine lv_if_lt (tgt := 63) hx hb d_Mo_map_6 (by decide) (fun hc63 => ?_) (fun hc63 => ?_)
  · refine lv_iconst (v := (0 : Int32)) hx hb d_Mo_map_63 (by decide) ?_
    have hf64 : (f_Mo_map S k0 k1 k2) = ((0 : Int32), ((0 : Int32), S.1.2.1, S.1.2.2.1, S.1.2.2.2.1, S.1.2.2.2.2.1, S.1.2.2.2.2.2), S.2.1, S.2.2.1, S.2.2.2.1, S.2.2.2.2.1, S.2.2.2.2.2) := by rw [f_Mo_map, if_pos hc63]
    exact W.zret (ty := .boolean) (v := (0 : Int32)) hx hb hr rfl (fun tE ht _ => ⟨⟨_, w7, rfl, ⟨(by rw [hf64]), (Or.inl rfl), (by rw [hf64]; exact ⟨hn55, fa57⟩), (by rw [hf64]; exact at58), (by rw [hf64]; exact at59), (by rw [hf64]; exact at60), (by rw [hf64]; exact at61), (by rw [hf64]; exact at62), (fun k hk => (e7 k (by omega)))⟩, cd_Pt ht hP⟩, hS.F ht⟩) hS.2.2 d_Mo_map_64
  · refine lv_iload_n hx hb d_Mo_map_9 rfl (lv_at hl 1 rfl) ?_
    refine lv_bipush (v := (64 : Int32)) hx hb d_Mo_map_10 (by decide) ?_
    refine lv_irem hx hb d_Mo_map_12 (by decide) ?_
    refine lv_if_ne (tgt := 63) hx hb d_Mo_map_13 (by decide) (fun hc65 => ?_) (fun hc65 => ?_)
    · refine lv_iconst (v := (0 : Int32)) hx hb d_Mo_map_63 (by decide) ?_
      have hf66 : (f_Mo_map S k0 k1 k2) = ((0 : Int32), ((0 : Int32), S.1.2.1, S.1.2.2.1, S.1.2.2.2.1, S.1.2.2.2.2.1, S.1.2.2.2.2.2), S.2.1, S.2.2.1, S.2.2.2.1, S.2.2.2.2.1, S.2.2.2.2.2) := by rw [f_Mo_map, if_neg hc63, if_neg hc65]
      exact W.zret (ty := .boolean) (v := (0 : Int32)) hx hb hr rfl (fun tE ht _ => ⟨⟨_, w7, rfl, ⟨(by rw [hf66]), (Or.inl rfl), (by rw [hf66]; exact ⟨hn55, fa57⟩), (by rw [hf66]; exact at58), (by rw [hf66]; exact at59), (by rw [hf66]; exact at60), (by rw [hf66]; exact at61), (by rw [hf66]; exact at62), (fun k hk => (e7 k (by omega)))⟩, cd_Pt ht hP⟩, hS.F ht⟩) hS.2.2 d_Mo_map_64
    · refine lv_iload_n hx hb d_Mo_map_16 rfl (lv_at hl 2 rfl) ?_
      refine lv_iconst (v := (1 : Int32)) hx hb d_Mo_map_17 (by decide) ?_
      refine lv_icmp_lt (tgt := 63) hx hb d_Mo_map_18 (by decide) (fun hc67 => ?_) (fun hc67 => ?_)
      · refine lv_iconst (v := (0 : Int32)) hx hb d_Mo_map_63 (by decide) ?_
        have hf68 : (f_Mo_map S k0 k1 k2) = ((0 : Int32), ((0 : Int32), S.1.2.1, S.1.2.2.1, S.1.2.2.2.1, S.1.2.2.2.2.1, S.1.2.2.2.2.2), S.2.1, S.2.2.1, S.2.2.2.1, S.2.2.2.2.1, S.2.2.2.2.2) := by rw [f_Mo_map, if_neg hc63, if_pos hc65, if_pos hc67]
        exact W.zret (ty := .boolean) (v := (0 : Int32)) hx hb hr rfl (fun tE ht _ => ⟨⟨_, w7, rfl, ⟨(by rw [hf68]), (Or.inl rfl), (by rw [hf68]; exact ⟨hn55, fa57⟩), (by rw [hf68]; exact at58), (by rw [hf68]; exact at59), (by rw [hf68]; exact at60), (by rw [hf68]; exact at61), (by rw [hf68]; exact at62), (fun k hk => (e7 k (by omega)))⟩, cd_Pt ht hP⟩, hS.F ht⟩) hS.2.2 d_Mo_map_64
      · refine lv_iload_n hx hb d_Mo_map_21 rfl (lv_at hl 2 rfl) ?_
        refine lv_bipush (v := (16 : Int32)) hx hb d_Mo_map_22 (by decide) ?_
        refine lv_icmp_gt (tgt := 63) hx hb d_Mo_map_24 (by decide) (fun hc69 => ?_) (fun hc69 => ?_)
        · refine lv_iconst (v := (0 : Int32)) hx hb d_Mo_map_63 (by decide) ?_
          have hf70 : (f_Mo_map S k0 k1 k2) = ((0 : Int32), ((0 : Int32), S.1.2.1, S.1.2.2.1, S.1.2.2.2.1, S.1.2.2.2.2.1, S.1.2.2.2.2.2), S.2.1, S.2.2.1, S.2.2.2.1, S.2.2.2.2.1, S.2.2.2.2.2) := by rw [f_Mo_map, if_neg hc63, if_pos hc65, if_neg hc67, if_pos hc69]
          exact W.zret (ty := .boolean) (v := (0 : Int32)) hx hb hr rfl (fun tE ht _ => ⟨⟨_, w7, rfl, ⟨(by rw [hf70]), (Or.inl rfl), (by rw [hf70]; exact ⟨hn55, fa57⟩), (by rw [hf70]; exact at58), (by rw [hf70]; exact at59), (by rw [hf70]; exact at60), (by rw [hf70]; exact at61), (by rw [hf70]; exact at62), (fun k hk => (e7 k (by omega)))⟩, cd_Pt ht hP⟩, hS.F ht⟩) hS.2.2 d_Mo_map_64
        · refine lv_iload_n hx hb d_Mo_map_27 rfl (lv_at hl 3 rfl) ?_
          refine lv_if_lt (tgt := 63) hx hb d_Mo_map_28 (by decide) (fun hc71 => ?_) (fun hc71 => ?_)
          · refine lv_iconst (v := (0 : Int32)) hx hb d_Mo_map_63 (by decide) ?_
            have hf72 : (f_Mo_map S k0 k1 k2) = ((0 : Int32), ((0 : Int32), S.1.2.1, S.1.2.2.1, S.1.2.2.2.1, S.1.2.2.2.2.1, S.1.2.2.2.2.2), S.2.1, S.2.2.1, S.2.2.2.1, S.2.2.2.2.1, S.2.2.2.2.2) := by rw [f_Mo_map, if_neg hc63, if_pos hc65, if_neg hc67, if_neg hc69, if_pos hc71]
            exact W.zret (ty := .boolean) (v := (0 : Int32)) hx hb hr rfl (fun tE ht _ => ⟨⟨_, w7, rfl, ⟨(by rw [hf72]), (Or.inl rfl), (by rw [hf72]; exact ⟨hn55, fa57⟩), (by rw [hf72]; exact at58), (by rw [hf72]; exact at59), (by rw [hf72]; exact at60), (by rw [hf72]; exact at61), (by rw [hf72]; exact at62), (fun k hk => (e7 k (by omega)))⟩, cd_Pt ht hP⟩, hS.F ht⟩) hS.2.2 d_Mo_map_64
          · refine lv_iload_n hx hb d_Mo_map_31 rfl (lv_at hl 3 rfl) ?_
            refine lv_bipush (v := (7 : Int32)) hx hb d_Mo_map_32 (by decide) ?_
            refine lv_icmp_gt (tgt := 63) hx hb d_Mo_map_34 (by decide) (fun hc73 => ?_) (fun hc73 => ?_)
            · refine lv_iconst (v := (0 : Int32)) hx hb d_Mo_map_63 (by decide) ?_
              have hf74 : (f_Mo_map S k0 k1 k2) = ((0 : Int32), ((0 : Int32), S.1.2.1, S.1.2.2.1, S.1.2.2.2.1, S.1.2.2.2.2.1, S.1.2.2.2.2.2), S.2.1, S.2.2.1, S.2.2.2.1, S.2.2.2.2.1, S.2.2.2.2.2) := by rw [f_Mo_map, if_neg hc63, if_pos hc65, if_neg hc67, if_neg hc69, if_neg hc71, if_pos hc73]
              exact W.zret (ty := .boolean) (v := (0 : Int32)) hx hb hr rfl (fun tE ht _ => ⟨⟨_, w7, rfl, ⟨(by rw [hf74]), (Or.inl rfl), (by rw [hf74]; exact ⟨hn55, fa57⟩), (by rw [hf74]; exact at58), (by rw [hf74]; exact at59), (by rw [hf74]; exact at60), (by rw [hf74]; exact at61), (by rw [hf74]; exact at62), (fun k hk => (e7 k (by omega)))⟩, cd_Pt ht hP⟩, hS.F ht⟩) hS.2.2 d_Mo_map_64
            · refine lv_aload_n hx hb d_Mo_map_37 rfl (lv_at hl 0 rfl) ?_
              refine g_get (ci := 7) (C := R_Mo) (T := F_Mo) (Nf := 16) (v := .ref (ad (q + 5))) hx hb hA in_Mo hown hK hP (k := q) (by omega) fa57 rfl 5 (by decide) (hA _ aw_565) (fun _ h9 => h9) rfl d_Mo_map_38 ?_
              refine lv_iconst (v := (0 : Int32)) hx hb d_Mo_map_41 (by decide) ?_
              obtain ⟨hn75, fa76⟩ := at62
              refine g_iald hx hb hK hP (k := (q + 5)) (by omega) fa76 rfl (ho.1 hc63 hc65 hc67 hc69 hc71 hc73) d_Mo_map_42 ?_
              refine lv_bipush (v := (6 : Int32)) hx hb d_Mo_map_43 (by decide) ?_
              refine lv_icmp_eq (tgt := 63) hx hb d_Mo_map_45 (by decide) (fun hc77 => ?_) (fun hc77 => ?_)
              · refine lv_iconst (v := (0 : Int32)) hx hb d_Mo_map_63 (by decide) ?_
                have hf78 : (f_Mo_map S k0 k1 k2) = ((0 : Int32), ((0 : Int32), S.1.2.1, S.1.2.2.1, S.1.2.2.2.1, S.1.2.2.2.2.1, S.1.2.2.2.2.2), S.2.1, S.2.2.1, S.2.2.2.1, S.2.2.2.2.1, S.2.2.2.2.2) := by rw [f_Mo_map, if_neg hc63, if_pos hc65, if_neg hc67, if_neg hc69, if_neg hc71, if_neg hc73, if_pos hc77]
                exact W.zret (ty := .boolean) (v := (0 : Int32)) hx hb hr rfl (fun tE ht _ => ⟨⟨_, w7, rfl, ⟨(by rw [hf78]), (Or.inl rfl), (by rw [hf78]; exact ⟨hn55, fa57⟩), (by rw [hf78]; exact at58), (by rw [hf78]; exact at59), (by rw [hf78]; exact at60), (by rw [hf78]; exact at61), (by rw [hf78]; exact ⟨hn75, fa76⟩), (fun k hk => (e7 k (by omega)))⟩, cd_Pt ht hP⟩, hS.F ht⟩) hS.2.2 d_Mo_map_64
              · refine lv_iload_n hx hb d_Mo_map_48 rfl (lv_at hl 1 rfl) ?_
                refine lv_i2l hx hb d_Mo_map_49 rfl ?_
                refine lv_bipush (v := (64 : Int32)) hx hb d_Mo_map_50 (by decide) ?_
                refine lv_iload_n hx hb d_Mo_map_52 rfl (lv_at hl 2 rfl) ?_
                refine lv_imul hx hb d_Mo_map_53 ?_
                refine lv_i2l hx hb d_Mo_map_54 rfl ?_
                refine lv_ladd hx hb d_Mo_map_55 ?_
                refine lv_ldc2 (v := (2147483648 : Int64)) hx hb hown (hA _ aw_600) d_Mo_map_56 ?_
                refine g_lif_le (tgt := 65) hx hb d_Mo_map_59 d_Mo_map_60 (by decide) (fun hc79 => ?_) (fun hc79 => ?_)
                · refine lv_iconst (v := (0 : Int32)) hx hb d_Mo_map_65 (by decide) ?_
                  refine lv_istore (lv' := [(4, .int (0 : Int32)), (0, .ref (ad q)), (1, .int k0), (2, .int k1), (3, .int k2)]) hx hb d_Mo_map_66 hl (by decide) rfl (fun ls hl => ?_)
                  exact L68 17 (0 : Int32) (((0 : Int32), S.1.2.1, S.1.2.2.1, S.1.2.2.2.1, S.1.2.2.2.2.1, S.1.2.2.2.2.2), S.2.1, S.2.2.1, S.2.2.2.1, S.2.2.2.2.1, S.2.2.2.2.2) w7 (fun k hk => (e7 k (by omega))) H locs ls (lv_sub hl [1, 2, 3, 4, 0] rfl) (show (f_Mo_map S k0 k1 k2) = f_Mo_map_L68 S k0 k1 k2 17 (0 : Int32) (((0 : Int32), S.1.2.1, S.1.2.2.1, S.1.2.2.2.1, S.1.2.2.2.2.1, S.1.2.2.2.2.2), S.2.1, S.2.2.1, S.2.2.2.1, S.2.2.2.2.1, S.2.2.2.2.2) by rw [f_Mo_map, if_neg hc63, if_pos hc65, if_neg hc67, if_neg hc69, if_neg hc71, if_neg hc73, if_neg hc77, if_pos hc79]) (⟨hn55, fa57⟩) at58 at59 at60 at61 (⟨hn75, fa76⟩) hP hS (ho.2 hc63 hc65 hc67 hc69 hc71 hc73 hc77 hc79)
                · refine lv_iconst (v := (0 : Int32)) hx hb d_Mo_map_63 (by decide) ?_
                  have hf80 : (f_Mo_map S k0 k1 k2) = ((0 : Int32), ((0 : Int32), S.1.2.1, S.1.2.2.1, S.1.2.2.2.1, S.1.2.2.2.2.1, S.1.2.2.2.2.2), S.2.1, S.2.2.1, S.2.2.2.1, S.2.2.2.2.1, S.2.2.2.2.2) := by rw [f_Mo_map, if_neg hc63, if_pos hc65, if_neg hc67, if_neg hc69, if_neg hc71, if_neg hc73, if_neg hc77, if_neg hc79]
                  exact W.zret (ty := .boolean) (v := (0 : Int32)) hx hb hr rfl (fun tE ht _ => ⟨⟨_, w7, rfl, ⟨(by rw [hf80]), (Or.inl rfl), (by rw [hf80]; exact ⟨hn55, fa57⟩), (by rw [hf80]; exact at58), (by rw [hf80]; exact at59), (by rw [hf80]; exact at60), (by rw [hf80]; exact at61), (by rw [hf80]; exact ⟨hn75, fa76⟩), (fun k hk => (e7 k (by omega)))⟩, cd_Pt ht hP⟩, hS.F ht⟩) hS.2.2 d_Mo_map_64
def f_Mo_move_L38 (u : cd_Mo) (S : cd_Ia × cd_Ia × cd_Ia × cd_By) (k0 : Int32) (k1 : Int32) : Nat → Int32 → (cd_Ia × cd_Ia × cd_Ia × cd_By) → cd_Ia × cd_Ia × cd_Ia × cd_By
  | 0, _, _ => default
  | gn + 1, x3, S' => (if (1024 : Int32) ≤ x3 then (S'.1, S'.2.1, S'.2.2.1, S'.2.2.2) else (f_Mo_move_L38 u S k0 k1 gn (x3 + (1 : Int32)) (S'.1, S'.2.1, S'.2.2.1, (upd S'.2.2.2 (((1024 : Int32) * k1) + x3).toNatClampNeg (vp_nar .byte (S'.2.2.2 (((1024 : Int32) * k0) + x3).toNatClampNeg))))))
def f_Mo_move (u : cd_Mo) (S : cd_Ia × cd_Ia × cd_Ia × cd_By) (k0 : Int32) (k1 : Int32) : cd_Ia × cd_Ia × cd_Ia × cd_By := (f_Mo_move_L38 u S k0 k1 1025 (0 : Int32) ((upd S.1 k1.toNatClampNeg (S.1 k0.toNatClampNeg)), (upd S.2.1 k1.toNatClampNeg (S.2.1 k0.toNatClampNeg)), (upd S.2.2.1 k1.toNatClampNeg (S.2.2.1 k0.toNatClampNeg)), S.2.2.2))
def o_Mo_move_L38 (u : cd_Mo) (S : cd_Ia × cd_Ia × cd_Ia × cd_By) (k0 : Int32) (k1 : Int32) : Nat → Int32 → (cd_Ia × cd_Ia × cd_Ia × cd_By) → Prop
  | 0, _, _ => False
  | gn + 1, x3, S' => (¬ (1024 : Int32) ≤ x3 → vp_in (((1024 : Int32) * k0) + x3) 18432) ∧ (¬ (1024 : Int32) ≤ x3 → vp_in (((1024 : Int32) * k1) + x3) 18432) ∧ (¬ (1024 : Int32) ≤ x3 → o_Mo_move_L38 u S k0 k1 gn (x3 + (1 : Int32)) (S'.1, S'.2.1, S'.2.2.1, (upd S'.2.2.2 (((1024 : Int32) * k1) + x3).toNatClampNeg (vp_nar .byte (S'.2.2.2 (((1024 : Int32) * k0) + x3).toNatClampNeg)))))
def o_Mo_move (u : cd_Mo) (S : cd_Ia × cd_Ia × cd_Ia × cd_By) (k0 : Int32) (k1 : Int32) : Prop := (vp_in k0 18) ∧ (vp_in k1 18) ∧ (vp_in k0 18) ∧ (vp_in k1 18) ∧ (vp_in k0 18) ∧ (vp_in k1 18) ∧ (o_Mo_move_L38 u S k0 k1 1025 (0 : Int32) ((upd S.1 k1.toNatClampNeg (S.1 k0.toNatClampNeg)), (upd S.2.1 k1.toNatClampNeg (S.2.1 k0.toNatClampNeg)), (upd S.2.2.1 k1.toNatClampNeg (S.2.2.1 k0.toNatClampNeg)), S.2.2.2))
set_option maxHeartbeats 4000000 in
set_option maxRecDepth 100000 in
theorem c_Mo_move (l : Launch) (D : va_G) (tt : Nat → ClassId) (ad : Nat → Nat) (N : Nat) (A : Nat → Prop) (zs : Nat → Nat) (w0 : Nat → va_E) (q : Nat) (u : cd_Mo) (S : cd_Ia × cd_Ia × cd_Ia × cd_By) (k0 : Int32) (k1 : Int32) (hR0 : cd_MoAt N tt ad w0 q u) (hR1 : cd_IaAt N tt ad w0 (q + 1) 18 S.1) (hR2 : cd_IaAt N tt ad w0 (q + 2) 18 S.2.1) (hR3 : cd_IaAt N tt ad w0 (q + 3) 18 S.2.2.1) (hR4 : cd_ByAt N tt ad w0 (q + 4) 18432 S.2.2.2) (ho : o_Mo_move u S k0 k1) : Met l y_Mo_move w_Mo_move ({ frames := 0, cells := 0, slots := 0, locals := 0 }) (va_Pc [.ref (ad q), .int k0, .int k1] (cd_U D tt ad N A zs w0)) (va_Qv (fun w' => cd_IaAt N tt ad w' (q + 1) 18 ((f_Mo_move u S k0 k1).1) ∧ cd_IaAt N tt ad w' (q + 2) 18 ((f_Mo_move u S k0 k1).2.1) ∧ cd_IaAt N tt ad w' (q + 3) 18 ((f_Mo_move u S k0 k1).2.2.1) ∧ cd_ByAt N tt ad w' (q + 4) 18432 ((f_Mo_move u S k0 k1).2.2.2) ∧ (∀ k : Nat, (k < (q + 1) ∨ (q + 1) + 1 ≤ k) ∧ (k < (q + 2) ∨ (q + 2) + 1 ≤ k) ∧ (k < (q + 3) ∨ (q + 3) + 1 ≤ k) ∧ (k < (q + 4) ∨ (q + 4) + 1 ≤ k) → w' k = w0 k)) (fun w' t => cd_P D ad N A w' t.heap) A) 0 0 A := by
  refine Met.ofW (cc := b_Mo_move) (maxL := 4) (ret := none) (by decide) rfl ?_
  intro p e s m args below meth c s₁ B hml hv
  obtain ⟨rfl, hP, hK, hZ⟩ := hv
  have hx := B.exec
  have hb := B.bytes
  have hr := B.returns
  have hA : ∀ w ∈ cd_AW, w.before _ s = true := fun w h => atoms_spec (ws := w_Mo_move) B.pre w (List.mem_cons_of_mem _ h)
  have hown : s.vm.findClass R_Mo = some m.cls := findClass_of_methodNamed B.named
  have hlocks := B.notSynchronized
  have L38 : ∀ (gn : Nat) (x3 : Int32) (S' : cd_Ia × cd_Ia × cd_Ia × cd_By) (w : Nat → va_E) (efr : ∀ k : Nat, (k < (q + 1) ∨ (q + 1) + 1 ≤ k) ∧ (k < (q + 2) ∨ (q + 2) + 1 ≤ k) ∧ (k < (q + 3) ∨ (q + 3) + 1 ≤ k) ∧ (k < (q + 4) ∨ (q + 4) + 1 ≤ k) → w k = w0 k) (H : Heap) (locs : List Loc) (ls : Array Slot), lv_has ls 4 [(0, .ref (ad q)), (1, .int k0), (2, .int k1), (3, .int x3)] → (f_Mo_move u S k0 k1) = f_Mo_move_L38 u S k0 k1 gn x3 S' → cd_MoAt N tt ad w q u → cd_IaAt N tt ad w (q + 1) 18 S'.1 → cd_IaAt N tt ad w (q + 2) 18 S'.2.1 → cd_IaAt N tt ad w (q + 3) 18 S'.2.2.1 → cd_ByAt N tt ad w (q + 4) 18432 S'.2.2.2 → cd_P D ad N A w H → va_S A s.heap H locs → o_Mo_move_L38 u S k0 k1 gn x3 S' → W p l e (headSpec w_Mo_move ({ frames := 0, cells := 0, slots := 0, locals := 0 })).room s m [.ref (ad q), .int k0, .int k1].toArray below meth c H locs 0 0 (MQ below (va_Qv (fun w' => cd_IaAt N tt ad w' (q + 1) 18 ((f_Mo_move u S k0 k1).1) ∧ cd_IaAt N tt ad w' (q + 2) 18 ((f_Mo_move u S k0 k1).2.1) ∧ cd_IaAt N tt ad w' (q + 3) 18 ((f_Mo_move u S k0 k1).2.2.1) ∧ cd_ByAt N tt ad w' (q + 4) 18432 ((f_Mo_move u S k0 k1).2.2.2) ∧ (∀ k : Nat, (k < (q + 1) ∨ (q + 1) + 1 ≤ k) ∧ (k < (q + 2) ∨ (q + 2) + 1 ≤ k) ∧ (k < (q + 3) ∨ (q + 3) + 1 ≤ k) ∧ (k < (q + 4) ∨ (q + 4) + 1 ≤ k) → w' k = w0 k)) (fun w' t => cd_P D ad N A w' t.heap) A) [.ref (ad q), .int k0, .int k1].toArray s 0 0 A) (F0 m 38 ls []) := by
    intro gn
    induction gn with
    | zero => intro x3 S' w efr H locs ls hl he hL0 hL1 hL2 hL3 hL4 hP hS ho; exact ho.elim
    | succ gn ih =>
      intro x3 S' w efr H locs ls hl he hL0 hL1 hL2 hL3 hL4 hP hS ho
      have ho : (¬ (1024 : Int32) ≤ x3 → vp_in (((1024 : Int32) * k0) + x3) 18432) ∧ (¬ (1024 : Int32) ≤ x3 → vp_in (((1024 : Int32) * k1) + x3) 18432) ∧ (¬ (1024 : Int32) ≤ x3 → o_Mo_move_L38 u S k0 k1 gn (x3 + (1 : Int32)) (S'.1, S'.2.1, S'.2.2.1, (upd S'.2.2.2 (((1024 : Int32) * k1) + x3).toNatClampNeg (vp_nar .byte (S'.2.2.2 (((1024 : Int32) * k0) + x3).toNatClampNeg))))) := ho
      obtain ⟨hn1, fa2⟩ := hL0
      refine lv_iload_n hx hb d_Mo_move_38 rfl (lv_at hl 3 rfl) ?_
      refine lv_sipush (v := (1024 : Int32)) hx hb d_Mo_move_39 (by decide) ?_
      refine lv_icmp_ge (tgt := 75) hx hb d_Mo_move_42 (by decide) (fun hc3 => ?_) (fun hc3 => ?_)
      · have hf4 : (f_Mo_move u S k0 k1) = (S'.1, S'.2.1, S'.2.2.1, S'.2.2.2) := by rw [he, f_Mo_move_L38, if_pos hc3]
        exact W.vret hx hb hr (fun tE ht _ => ⟨⟨w, rfl, ⟨(by rw [hf4]; exact hL1), (by rw [hf4]; exact hL2), (by rw [hf4]; exact hL3), (by rw [hf4]; exact hL4), (fun k hk => (efr k (by omega)))⟩, cd_Pt ht hP⟩, hS.F ht⟩) hS.2.2 d_Mo_move_75
      · refine lv_aload_n hx hb d_Mo_move_45 rfl (lv_at hl 0 rfl) ?_
        refine g_get (ci := 7) (C := R_Mo) (T := F_Mo) (Nf := 16) (v := .ref (ad (q + 4))) hx hb hA in_Mo hown hK hP (k := q) (by omega) fa2 rfl 4 (by decide) (hA _ aw_564) (fun _ h9 => h9) rfl d_Mo_move_46 ?_
        refine lv_sipush (v := (1024 : Int32)) hx hb d_Mo_move_49 (by decide) ?_
        refine lv_iload_n hx hb d_Mo_move_52 rfl (lv_at hl 2 rfl) ?_
        refine lv_imul hx hb d_Mo_move_53 ?_
        refine lv_iload_n hx hb d_Mo_move_54 rfl (lv_at hl 3 rfl) ?_
        refine lv_iadd hx hb d_Mo_move_55 ?_
        refine lv_aload_n hx hb d_Mo_move_56 rfl (lv_at hl 0 rfl) ?_
        refine g_get (ci := 7) (C := R_Mo) (T := F_Mo) (Nf := 16) (v := .ref (ad (q + 4))) hx hb hA in_Mo hown hK hP (k := q) (by omega) fa2 rfl 4 (by decide) (hA _ aw_564) (fun _ h9 => h9) rfl d_Mo_move_57 ?_
        refine lv_sipush (v := (1024 : Int32)) hx hb d_Mo_move_60 (by decide) ?_
        refine lv_iload_n hx hb d_Mo_move_63 rfl (lv_at hl 1 rfl) ?_
        refine lv_imul hx hb d_Mo_move_64 ?_
        refine lv_iload_n hx hb d_Mo_move_65 rfl (lv_at hl 3 rfl) ?_
        refine lv_iadd hx hb d_Mo_move_66 ?_
        obtain ⟨hn5, fa6⟩ := hL4
        refine g_bald hx hb hK hP (k := (q + 4)) (by omega) fa6 rfl (ho.1 hc3) d_Mo_move_67 ?_
        refine g_bast hx hb hK hP hS (k := (q + 4)) (by omega) fa6 rfl (ho.2.1 hc3) d_Mo_move_68 (fun H locs w1 fa7 e1 hP hS => ?_)
        have fa8 := (e1 q (by omega)).trans fa2
        have at9 := cd_IaAt_keep hL1 (fun k h1 h2 => e1 k (by omega))
        have at10 := cd_IaAt_keep hL2 (fun k h1 h2 => e1 k (by omega))
        have at11 := cd_IaAt_keep hL3 (fun k h1 h2 => e1 k (by omega))
        refine lv_iinc (k := 3) (v := (x3 + (1 : Int32))) (lv' := [(3, .int (x3 + (1 : Int32))), (0, .ref (ad q)), (1, .int k0), (2, .int k1)]) hx hb d_Mo_move_69 hl rfl (cd_inc _ _ _ (by decide)) (by decide) rfl (fun ls hl => ?_)
        refine lv_goto (tgt := 38) hx hb d_Mo_move_72 (by decide) ?_
        exact ih (x3 + (1 : Int32)) (S'.1, S'.2.1, S'.2.2.1, (upd S'.2.2.2 (((1024 : Int32) * k1) + x3).toNatClampNeg (vp_nar .byte (S'.2.2.2 (((1024 : Int32) * k0) + x3).toNatClampNeg)))) w1 (fun k hk => ((e1 k (by omega)).trans (efr k (by omega)))) H locs ls (lv_sub hl [1, 2, 3, 0] rfl) (show (f_Mo_move u S k0 k1) = f_Mo_move_L38 u S k0 k1 gn (x3 + (1 : Int32)) (S'.1, S'.2.1, S'.2.2.1, (upd S'.2.2.2 (((1024 : Int32) * k1) + x3).toNatClampNeg (vp_nar .byte (S'.2.2.2 (((1024 : Int32) * k0) + x3).toNatClampNeg)))) by rw [he, f_Mo_move_L38, if_neg hc3]) (⟨hn1, fa8⟩) at9 at10 at11 (⟨hn5, fa7⟩) hP hS (ho.2.2 hc3)
  have hS : va_S A s.heap s.heap [] := va_S.rf
  have hl := lv_entry ([.ref (ad q), .int k0, .int k1]) (n := 4) (Nat.le_of_ble_eq_true rfl)
  rw [lg_entry_eq]
  generalize (lg_sl ([.ref (ad q), .int k0, .int k1]) ++ List.replicate (4 - (lg_sl ([.ref (ad q), .int k0, .int k1])).length) Slot.unset).toArray = ls at hl ⊢
  have hl : lv_has ls 4 [(0, .ref (ad q)), (1, .int k0), (2, .int k1)] := hl
  have ho : (vp_in k0 18) ∧ (vp_in k1 18) ∧ (vp_in k0 18) ∧ (vp_in k1 18) ∧ (vp_in k0 18) ∧ (vp_in k1 18) ∧ (o_Mo_move_L38 u S k0 k1 1025 (0 : Int32) ((upd S.1 k1.toNatClampNeg (S.1 k0.toNatClampNeg)), (upd S.2.1 k1.toNatClampNeg (S.2.1 k0.toNatClampNeg)), (upd S.2.2.1 k1.toNatClampNeg (S.2.2.1 k0.toNatClampNeg)), S.2.2.2)) := ho
  obtain ⟨hn12, fa13⟩ := hR0
  refine lv_aload_n hx hb d_Mo_move_0 rfl (lv_at hl 0 rfl) ?_
  refine g_get (ci := 7) (C := R_Mo) (T := F_Mo) (Nf := 16) (v := .ref (ad (q + 1))) hx hb hA in_Mo hown hK hP (k := q) (by omega) fa13 rfl 1 (by decide) (hA _ aw_561) (fun _ h9 => h9) rfl d_Mo_move_1 ?_
  refine lv_iload_n hx hb d_Mo_move_4 rfl (lv_at hl 2 rfl) ?_
  refine lv_aload_n hx hb d_Mo_move_5 rfl (lv_at hl 0 rfl) ?_
  refine g_get (ci := 7) (C := R_Mo) (T := F_Mo) (Nf := 16) (v := .ref (ad (q + 1))) hx hb hA in_Mo hown hK hP (k := q) (by omega) fa13 rfl 1 (by decide) (hA _ aw_561) (fun _ h9 => h9) rfl d_Mo_move_6 ?_
  refine lv_iload_n hx hb d_Mo_move_9 rfl (lv_at hl 1 rfl) ?_
  obtain ⟨hn14, fa15⟩ := hR1
  refine g_iald hx hb hK hP (k := (q + 1)) (by omega) fa15 rfl (ho.1) d_Mo_move_10 ?_
  refine g_iast hx hb hK hP hS (k := (q + 1)) (by omega) fa15 rfl (ho.2.1) d_Mo_move_11 (fun H locs w2 fa16 e2 hP hS => ?_)
  have fa17 := (e2 q (by omega)).trans fa13
  have at18 := cd_IaAt_keep hR2 (fun k h1 h2 => e2 k (by omega))
  have at19 := cd_IaAt_keep hR3 (fun k h1 h2 => e2 k (by omega))
  have at20 := cd_ByAt_keep hR4 (fun k h1 h2 => e2 k (by omega))
  refine lv_aload_n hx hb d_Mo_move_12 rfl (lv_at hl 0 rfl) ?_
  refine g_get (ci := 7) (C := R_Mo) (T := F_Mo) (Nf := 16) (v := .ref (ad (q + 2))) hx hb hA in_Mo hown hK hP (k := q) (by omega) fa17 rfl 2 (by decide) (hA _ aw_562) (fun _ h9 => h9) rfl d_Mo_move_13 ?_
  refine lv_iload_n hx hb d_Mo_move_16 rfl (lv_at hl 2 rfl) ?_
  refine lv_aload_n hx hb d_Mo_move_17 rfl (lv_at hl 0 rfl) ?_
  refine g_get (ci := 7) (C := R_Mo) (T := F_Mo) (Nf := 16) (v := .ref (ad (q + 2))) hx hb hA in_Mo hown hK hP (k := q) (by omega) fa17 rfl 2 (by decide) (hA _ aw_562) (fun _ h9 => h9) rfl d_Mo_move_18 ?_
  refine lv_iload_n hx hb d_Mo_move_21 rfl (lv_at hl 1 rfl) ?_
  obtain ⟨hn21, fa22⟩ := at18
  refine g_iald hx hb hK hP (k := (q + 2)) (by omega) fa22 rfl (ho.2.2.1) d_Mo_move_22 ?_
  refine g_iast hx hb hK hP hS (k := (q + 2)) (by omega) fa22 rfl (ho.2.2.2.1) d_Mo_move_23 (fun H locs w3 fa23 e3 hP hS => ?_)
  have fa24 := (e3 q (by omega)).trans fa17
  have fa25 := (e3 (q + 1) (by omega)).trans fa16
  have at26 := cd_IaAt_keep at19 (fun k h1 h2 => e3 k (by omega))
  have at27 := cd_ByAt_keep at20 (fun k h1 h2 => e3 k (by omega))
  refine lv_aload_n hx hb d_Mo_move_24 rfl (lv_at hl 0 rfl) ?_
  refine g_get (ci := 7) (C := R_Mo) (T := F_Mo) (Nf := 16) (v := .ref (ad (q + 3))) hx hb hA in_Mo hown hK hP (k := q) (by omega) fa24 rfl 3 (by decide) (hA _ aw_563) (fun _ h9 => h9) rfl d_Mo_move_25 ?_
  refine lv_iload_n hx hb d_Mo_move_28 rfl (lv_at hl 2 rfl) ?_
  refine lv_aload_n hx hb d_Mo_move_29 rfl (lv_at hl 0 rfl) ?_
  refine g_get (ci := 7) (C := R_Mo) (T := F_Mo) (Nf := 16) (v := .ref (ad (q + 3))) hx hb hA in_Mo hown hK hP (k := q) (by omega) fa24 rfl 3 (by decide) (hA _ aw_563) (fun _ h9 => h9) rfl d_Mo_move_30 ?_
  refine lv_iload_n hx hb d_Mo_move_33 rfl (lv_at hl 1 rfl) ?_
  obtain ⟨hn28, fa29⟩ := at26
  refine g_iald hx hb hK hP (k := (q + 3)) (by omega) fa29 rfl (ho.2.2.2.2.1) d_Mo_move_34 ?_
  refine g_iast hx hb hK hP hS (k := (q + 3)) (by omega) fa29 rfl (ho.2.2.2.2.2.1) d_Mo_move_35 (fun H locs w4 fa30 e4 hP hS => ?_)
  have fa31 := (e4 q (by omega)).trans fa24
  have fa32 := (e4 (q + 1) (by omega)).trans fa25
  have fa33 := (e4 (q + 2) (by omega)).trans fa23
  have at34 := cd_ByAt_keep at27 (fun k h1 h2 => e4 k (by omega))
  refine lv_iconst (v := (0 : Int32)) hx hb d_Mo_move_36 (by decide) ?_
  refine lv_istore_n (lv' := [(3, .int (0 : Int32)), (0, .ref (ad q)), (1, .int k0), (2, .int k1)]) hx hb d_Mo_move_37 rfl hl (by decide) rfl (fun ls hl => ?_)
  exact L38 1025 (0 : Int32) ((upd S.1 k1.toNatClampNeg (S.1 k0.toNatClampNeg)), (upd S.2.1 k1.toNatClampNeg (S.2.1 k0.toNatClampNeg)), (upd S.2.2.1 k1.toNatClampNeg (S.2.2.1 k0.toNatClampNeg)), S.2.2.2) w4 (fun k hk => ((e4 k (by omega)).trans ((e3 k (by omega)).trans (e2 k (by omega))))) H locs ls (lv_sub hl [1, 2, 3, 0] rfl) (show (f_Mo_move u S k0 k1) = f_Mo_move_L38 u S k0 k1 1025 (0 : Int32) ((upd S.1 k1.toNatClampNeg (S.1 k0.toNatClampNeg)), (upd S.2.1 k1.toNatClampNeg (S.2.1 k0.toNatClampNeg)), (upd S.2.2.1 k1.toNatClampNeg (S.2.2.1 k0.toNatClampNeg)), S.2.2.2) by rw [f_Mo_move]) (⟨hn12, fa31⟩) (⟨hn14, fa32⟩) (⟨hn21, fa33⟩) (⟨hn28, fa30⟩) at34 hP hS (ho.2.2.2.2.2.2)
def f_Mo_unmap_L42 (S : cd_Mo × cd_Ia × cd_Ia × cd_Ia × cd_By × cd_Ia) (k0 : Int32) : Nat → Int32 → (cd_Mo × cd_Ia × cd_Ia × cd_Ia × cd_By × cd_Ia) → Int32 × cd_Mo × cd_Ia × cd_Ia × cd_Ia × cd_By × cd_Ia
  | 0, _, _ => default
  | gn + 1, x3, S' => (if (S'.2.2.2.2.2 (0 : Int32).toNatClampNeg) ≤ x3 then ((1 : Int32), S'.1, S'.2.1, S'.2.2.1, S'.2.2.2.1, S'.2.2.2.2.1, S'.2.2.2.2.2) else (f_Mo_unmap_L42 S k0 gn (x3 + (1 : Int32)) (S'.1, (f_Mo_move S'.1 (S'.2.1, S'.2.2.1, S'.2.2.2.1, S'.2.2.2.2.1) (x3 + (1 : Int32)) x3).1, (f_Mo_move S'.1 (S'.2.1, S'.2.2.1, S'.2.2.2.1, S'.2.2.2.2.1) (x3 + (1 : Int32)) x3).2.1, (f_Mo_move S'.1 (S'.2.1, S'.2.2.1, S'.2.2.2.1, S'.2.2.2.2.1) (x3 + (1 : Int32)) x3).2.2.1, (f_Mo_move S'.1 (S'.2.1, S'.2.2.1, S'.2.2.2.1, S'.2.2.2.2.1) (x3 + (1 : Int32)) x3).2.2.2, S'.2.2.2.2.2)))
def f_Mo_unmap (S : cd_Mo × cd_Ia × cd_Ia × cd_Ia × cd_By × cd_Ia) (k0 : Int32) : Int32 × cd_Mo × cd_Ia × cd_Ia × cd_Ia × cd_By × cd_Ia := (if (f_Mo_within ((0 : Int32), S.1.2.1, S.1.2.2.1, S.1.2.2.2.1, S.1.2.2.2.2.1, S.1.2.2.2.2.2) S.2.1 S.2.2.1 S.2.2.2.2.2 (0 : Int32) k0.toInt64) = (-1 : Int32) then ((0 : Int32), ((0 : Int32), S.1.2.1, S.1.2.2.1, S.1.2.2.2.1, S.1.2.2.2.2.1, S.1.2.2.2.2.2), S.2.1, S.2.2.1, S.2.2.2.1, S.2.2.2.2.1, S.2.2.2.2.2) else (if (S.2.1 (f_Mo_within ((0 : Int32), S.1.2.1, S.1.2.2.1, S.1.2.2.2.1, S.1.2.2.2.2.1, S.1.2.2.2.2.2) S.2.1 S.2.2.1 S.2.2.2.2.2 (0 : Int32) k0.toInt64).toNatClampNeg) = k0 then (f_Mo_unmap_L42 S k0 7 (f_Mo_within ((0 : Int32), S.1.2.1, S.1.2.2.1, S.1.2.2.2.1, S.1.2.2.2.2.1, S.1.2.2.2.2.2) S.2.1 S.2.2.1 S.2.2.2.2.2 (0 : Int32) k0.toInt64) (((0 : Int32), S.1.2.1, S.1.2.2.1, S.1.2.2.2.1, S.1.2.2.2.2.1, S.1.2.2.2.2.2), S.2.1, S.2.2.1, S.2.2.2.1, S.2.2.2.2.1, (upd S.2.2.2.2.2 (0 : Int32).toNatClampNeg ((S.2.2.2.2.2 (0 : Int32).toNatClampNeg) - (1 : Int32))))) else ((0 : Int32), ((0 : Int32), S.1.2.1, S.1.2.2.1, S.1.2.2.2.1, S.1.2.2.2.2.1, S.1.2.2.2.2.2), S.2.1, S.2.2.1, S.2.2.2.1, S.2.2.2.2.1, S.2.2.2.2.2)))
def o_Mo_unmap_L42 (S : cd_Mo × cd_Ia × cd_Ia × cd_Ia × cd_By × cd_Ia) (k0 : Int32) : Nat → Int32 → (cd_Mo × cd_Ia × cd_Ia × cd_Ia × cd_By × cd_Ia) → Prop
  | 0, _, _ => False
  | gn + 1, x3, S' => (vp_in (0 : Int32) 3) ∧ (¬ (S'.2.2.2.2.2 (0 : Int32).toNatClampNeg) ≤ x3 → o_Mo_move S'.1 (S'.2.1, S'.2.2.1, S'.2.2.2.1, S'.2.2.2.2.1) (x3 + (1 : Int32)) x3) ∧ (¬ (S'.2.2.2.2.2 (0 : Int32).toNatClampNeg) ≤ x3 → o_Mo_unmap_L42 S k0 gn (x3 + (1 : Int32)) (S'.1, (f_Mo_move S'.1 (S'.2.1, S'.2.2.1, S'.2.2.2.1, S'.2.2.2.2.1) (x3 + (1 : Int32)) x3).1, (f_Mo_move S'.1 (S'.2.1, S'.2.2.1, S'.2.2.2.1, S'.2.2.2.2.1) (x3 + (1 : Int32)) x3).2.1, (f_Mo_move S'.1 (S'.2.1, S'.2.2.1, S'.2.2.2.1, S'.2.2.2.2.1) (x3 + (1 : Int32)) x3).2.2.1, (f_Mo_move S'.1 (S'.2.1, S'.2.2.1, S'.2.2.2.1, S'.2.2.2.2.1) (x3 + (1 : Int32)) x3).2.2.2, S'.2.2.2.2.2))
def o_Mo_unmap (S : cd_Mo × cd_Ia × cd_Ia × cd_Ia × cd_By × cd_Ia) (k0 : Int32) : Prop := (o_Mo_within ((0 : Int32), S.1.2.1, S.1.2.2.1, S.1.2.2.2.1, S.1.2.2.2.2.1, S.1.2.2.2.2.2) S.2.1 S.2.2.1 S.2.2.2.2.2 (0 : Int32) k0.toInt64) ∧ (¬ (f_Mo_within ((0 : Int32), S.1.2.1, S.1.2.2.1, S.1.2.2.2.1, S.1.2.2.2.2.1, S.1.2.2.2.2.2) S.2.1 S.2.2.1 S.2.2.2.2.2 (0 : Int32) k0.toInt64) = (-1 : Int32) → vp_in (f_Mo_within ((0 : Int32), S.1.2.1, S.1.2.2.1, S.1.2.2.2.1, S.1.2.2.2.2.1, S.1.2.2.2.2.2) S.2.1 S.2.2.1 S.2.2.2.2.2 (0 : Int32) k0.toInt64) 18) ∧ (¬ (f_Mo_within ((0 : Int32), S.1.2.1, S.1.2.2.1, S.1.2.2.2.1, S.1.2.2.2.2.1, S.1.2.2.2.2.2) S.2.1 S.2.2.1 S.2.2.2.2.2 (0 : Int32) k0.toInt64) = (-1 : Int32) → (S.2.1 (f_Mo_within ((0 : Int32), S.1.2.1, S.1.2.2.1, S.1.2.2.2.1, S.1.2.2.2.2.1, S.1.2.2.2.2.2) S.2.1 S.2.2.1 S.2.2.2.2.2 (0 : Int32) k0.toInt64).toNatClampNeg) = k0 → vp_in (0 : Int32) 3) ∧ (¬ (f_Mo_within ((0 : Int32), S.1.2.1, S.1.2.2.1, S.1.2.2.2.1, S.1.2.2.2.2.1, S.1.2.2.2.2.2) S.2.1 S.2.2.1 S.2.2.2.2.2 (0 : Int32) k0.toInt64) = (-1 : Int32) → (S.2.1 (f_Mo_within ((0 : Int32), S.1.2.1, S.1.2.2.1, S.1.2.2.2.1, S.1.2.2.2.2.1, S.1.2.2.2.2.2) S.2.1 S.2.2.1 S.2.2.2.2.2 (0 : Int32) k0.toInt64).toNatClampNeg) = k0 → vp_in (0 : Int32) 3) ∧ (¬ (f_Mo_within ((0 : Int32), S.1.2.1, S.1.2.2.1, S.1.2.2.2.1, S.1.2.2.2.2.1, S.1.2.2.2.2.2) S.2.1 S.2.2.1 S.2.2.2.2.2 (0 : Int32) k0.toInt64) = (-1 : Int32) → (S.2.1 (f_Mo_within ((0 : Int32), S.1.2.1, S.1.2.2.1, S.1.2.2.2.1, S.1.2.2.2.2.1, S.1.2.2.2.2.2) S.2.1 S.2.2.1 S.2.2.2.2.2 (0 : Int32) k0.toInt64).toNatClampNeg) = k0 → o_Mo_unmap_L42 S k0 7 (f_Mo_within ((0 : Int32), S.1.2.1, S.1.2.2.1, S.1.2.2.2.1, S.1.2.2.2.2.1, S.1.2.2.2.2.2) S.2.1 S.2.2.1 S.2.2.2.2.2 (0 : Int32) k0.toInt64) (((0 : Int32), S.1.2.1, S.1.2.2.1, S.1.2.2.2.1, S.1.2.2.2.2.1, S.1.2.2.2.2.2), S.2.1, S.2.2.1, S.2.2.2.1, S.2.2.2.2.1, (upd S.2.2.2.2.2 (0 : Int32).toNatClampNeg ((S.2.2.2.2.2 (0 : Int32).toNatClampNeg) - (1 : Int32)))))
set_option maxHeartbeats 4000000 in
set_option maxRecDepth 100000 in
theorem c_Mo_unmap (l : Launch) (D : va_G) (tt : Nat → ClassId) (ad : Nat → Nat) (N : Nat) (A : Nat → Prop) (zs : Nat → Nat) (w0 : Nat → va_E) (q : Nat) (S : cd_Mo × cd_Ia × cd_Ia × cd_Ia × cd_By × cd_Ia) (k0 : Int32) (hR0 : cd_MoAt N tt ad w0 q S.1) (hR1 : cd_IaAt N tt ad w0 (q + 1) 18 S.2.1) (hR2 : cd_IaAt N tt ad w0 (q + 2) 18 S.2.2.1) (hR3 : cd_IaAt N tt ad w0 (q + 3) 18 S.2.2.2.1) (hR4 : cd_ByAt N tt ad w0 (q + 4) 18432 S.2.2.2.2.1) (hR5 : cd_IaAt N tt ad w0 (q + 5) 3 S.2.2.2.2.2) (ho : o_Mo_unmap S k0) : Met l y_Mo_unmap w_Mo_unmap ({ frames := 1, cells := 0, slots := 0, locals := 24 }) (va_Pc [.ref (ad q), .int k0] (cd_U D tt ad N A zs w0)) (va_Qi (fun r w' => (f_Mo_unmap S k0).1 = r ∧ (r = 0 ∨ r = 1) ∧ cd_MoAt N tt ad w' q ((f_Mo_unmap S k0).2.1) ∧ cd_IaAt N tt ad w' (q + 1) 18 ((f_Mo_unmap S k0).2.2.1) ∧ cd_IaAt N tt ad w' (q + 2) 18 ((f_Mo_unmap S k0).2.2.2.1) ∧ cd_IaAt N tt ad w' (q + 3) 18 ((f_Mo_unmap S k0).2.2.2.2.1) ∧ cd_ByAt N tt ad w' (q + 4) 18432 ((f_Mo_unmap S k0).2.2.2.2.2.1) ∧ cd_IaAt N tt ad w' (q + 5) 3 ((f_Mo_unmap S k0).2.2.2.2.2.2) ∧ (∀ k : Nat, (k < q ∨ q + 1 ≤ k) ∧ (k < (q + 1) ∨ (q + 1) + 1 ≤ k) ∧ (k < (q + 2) ∨ (q + 2) + 1 ≤ k) ∧ (k < (q + 3) ∨ (q + 3) + 1 ≤ k) ∧ (k < (q + 4) ∨ (q + 4) + 1 ≤ k) ∧ (k < (q + 5) ∨ (q + 5) + 1 ≤ k) → w' k = w0 k)) (fun w' t => cd_P D ad N A w' t.heap) A) 0 0 A := by
  refine Met.ofW (cc := b_Mo_unmap) (maxL := 4) (ret := (some .boolean)) (by decide) rfl ?_
  intro p e s m args below meth c s₁ B hml hv
  obtain ⟨rfl, hP, hK, hZ⟩ := hv
  have hx := B.exec
  have hb := B.bytes
  have hr := B.returns
  have hA : ∀ w ∈ cd_AW, w.before _ s = true := fun w h => atoms_spec (ws := w_Mo_unmap) B.pre w (List.mem_cons_of_mem _ h)
  have hown : s.vm.findClass R_Mo = some m.cls := findClass_of_methodNamed B.named
  have hlocks := B.notSynchronized
  have L42 : ∀ (gn : Nat) (x3 : Int32) (S' : cd_Mo × cd_Ia × cd_Ia × cd_Ia × cd_By × cd_Ia) (w : Nat → va_E) (efr : ∀ k : Nat, (k < q ∨ q + 1 ≤ k) ∧ (k < (q + 1) ∨ (q + 1) + 1 ≤ k) ∧ (k < (q + 2) ∨ (q + 2) + 1 ≤ k) ∧ (k < (q + 3) ∨ (q + 3) + 1 ≤ k) ∧ (k < (q + 4) ∨ (q + 4) + 1 ≤ k) ∧ (k < (q + 5) ∨ (q + 5) + 1 ≤ k) → w k = w0 k) (H : Heap) (locs : List Loc) (ls : Array Slot), lv_has ls 4 [(0, .ref (ad q)), (3, .int x3)] → (f_Mo_unmap S k0) = f_Mo_unmap_L42 S k0 gn x3 S' → cd_MoAt N tt ad w q S'.1 → cd_IaAt N tt ad w (q + 1) 18 S'.2.1 → cd_IaAt N tt ad w (q + 2) 18 S'.2.2.1 → cd_IaAt N tt ad w (q + 3) 18 S'.2.2.2.1 → cd_ByAt N tt ad w (q + 4) 18432 S'.2.2.2.2.1 → cd_IaAt N tt ad w (q + 5) 3 S'.2.2.2.2.2 → cd_P D ad N A w H → va_S A s.heap H locs → o_Mo_unmap_L42 S k0 gn x3 S' → W p l e (headSpec w_Mo_unmap ({ frames := 1, cells := 0, slots := 0, locals := 24 })).room s m [.ref (ad q), .int k0].toArray below meth c H locs 0 0 (MQ below (va_Qi (fun r w' => (f_Mo_unmap S k0).1 = r ∧ (r = 0 ∨ r = 1) ∧ cd_MoAt N tt ad w' q ((f_Mo_unmap S k0).2.1) ∧ cd_IaAt N tt ad w' (q + 1) 18 ((f_Mo_unmap S k0).2.2.1) ∧ cd_IaAt N tt ad w' (q + 2) 18 ((f_Mo_unmap S k0).2.2.2.1) ∧ cd_IaAt N tt ad w' (q + 3) 18 ((f_Mo_unmap S k0).2.2.2.2.1) ∧ cd_ByAt N tt ad w' (q + 4) 18432 ((f_Mo_unmap S k0).2.2.2.2.2.1) ∧ cd_IaAt N tt ad w' (q + 5) 3 ((f_Mo_unmap S k0).2.2.2.2.2.2) ∧ (∀ k : Nat, (k < q ∨ q + 1 ≤ k) ∧ (k < (q + 1) ∨ (q + 1) + 1 ≤ k) ∧ (k < (q + 2) ∨ (q + 2) + 1 ≤ k) ∧ (k < (q + 3) ∨ (q + 3) + 1 ≤ k) ∧ (k < (q + 4) ∨ (q + 4) + 1 ≤ k) ∧ (k < (q + 5) ∨ (q + 5) + 1 ≤ k) → w' k = w0 k)) (fun w' t => cd_P D ad N A w' t.heap) A) [.ref (ad q), .int k0].toArray s 0 0 A) (F0 m 42 ls []) := by
    intro gn
    induction gn with
    | zero => intro x3 S' w efr H locs ls hl he hL0 hL1 hL2 hL3 hL4 hL5 hP hS ho; exact ho.elim
    | succ gn ih =>
      intro x3 S' w efr H locs ls hl he hL0 hL1 hL2 hL3 hL4 hL5 hP hS ho
      have ho : (vp_in (0 : Int32) 3) ∧ (¬ (S'.2.2.2.2.2 (0 : Int32).toNatClampNeg) ≤ x3 → o_Mo_move S'.1 (S'.2.1, S'.2.2.1, S'.2.2.2.1, S'.2.2.2.2.1) (x3 + (1 : Int32)) x3) ∧ (¬ (S'.2.2.2.2.2 (0 : Int32).toNatClampNeg) ≤ x3 → o_Mo_unmap_L42 S k0 gn (x3 + (1 : Int32)) (S'.1, (f_Mo_move S'.1 (S'.2.1, S'.2.2.1, S'.2.2.2.1, S'.2.2.2.2.1) (x3 + (1 : Int32)) x3).1, (f_Mo_move S'.1 (S'.2.1, S'.2.2.1, S'.2.2.2.1, S'.2.2.2.2.1) (x3 + (1 : Int32)) x3).2.1, (f_Mo_move S'.1 (S'.2.1, S'.2.2.1, S'.2.2.2.1, S'.2.2.2.2.1) (x3 + (1 : Int32)) x3).2.2.1, (f_Mo_move S'.1 (S'.2.1, S'.2.2.1, S'.2.2.2.1, S'.2.2.2.2.1) (x3 + (1 : Int32)) x3).2.2.2, S'.2.2.2.2.2)) := ho
      obtain ⟨hn1, fa2⟩ := hL0
      refine lv_iload_n hx hb d_Mo_unmap_42 rfl (lv_at hl 1 rfl) ?_
      refine lv_aload_n hx hb d_Mo_unmap_43 rfl (lv_at hl 0 rfl) ?_
      refine g_get (ci := 7) (C := R_Mo) (T := F_Mo) (Nf := 16) (v := .ref (ad (q + 5))) hx hb hA in_Mo hown hK hP (k := q) (by omega) fa2 rfl 5 (by decide) (hA _ aw_565) (fun _ h9 => h9) rfl d_Mo_unmap_44 ?_
      refine lv_iconst (v := (0 : Int32)) hx hb d_Mo_unmap_47 (by decide) ?_
      obtain ⟨hn3, fa4⟩ := hL5
      refine g_iald hx hb hK hP (k := (q + 5)) (by omega) fa4 rfl (ho.1) d_Mo_unmap_48 ?_
      refine lv_icmp_ge (tgt := 66) hx hb d_Mo_unmap_49 (by decide) (fun hc5 => ?_) (fun hc5 => ?_)
      · refine lv_iconst (v := (1 : Int32)) hx hb d_Mo_unmap_66 (by decide) ?_
        have hf6 : (f_Mo_unmap S k0) = ((1 : Int32), S'.1, S'.2.1, S'.2.2.1, S'.2.2.2.1, S'.2.2.2.2.1, S'.2.2.2.2.2) := by rw [he, f_Mo_unmap_L42, if_pos hc5]
        exact W.zret (ty := .boolean) (v := (1 : Int32)) hx hb hr rfl (fun tE ht _ => ⟨⟨_, w, rfl, ⟨(by rw [hf6]), (Or.inr rfl), (by rw [hf6]; exact ⟨hn1, fa2⟩), (by rw [hf6]; exact hL1), (by rw [hf6]; exact hL2), (by rw [hf6]; exact hL3), (by rw [hf6]; exact hL4), (by rw [hf6]; exact ⟨hn3, fa4⟩), (fun k hk => (efr k (by omega)))⟩, cd_Pt ht hP⟩, hS.F ht⟩) hS.2.2 d_Mo_unmap_67
      · refine lv_aload_n hx hb d_Mo_unmap_52 rfl (lv_at hl 0 rfl) ?_
        refine lv_iload_n hx hb d_Mo_unmap_53 rfl (lv_at hl 1 rfl) ?_
        refine lv_iconst (v := (1 : Int32)) hx hb d_Mo_unmap_54 (by decide) ?_
        refine lv_iadd hx hb d_Mo_unmap_55 ?_
        refine lv_iload_n hx hb d_Mo_unmap_56 rfl (lv_at hl 1 rfl) ?_
        refine va_callv (va_runV (As := [.int (x3 + (1 : Int32)), .int x3]) (rest := []) ⟨hx, hb, hml, hown, hA⟩ (c_Mo_move l D tt ad N A zs w q S'.1 (S'.2.1, S'.2.2.1, S'.2.2.2.1, S'.2.2.2.2.1) (x3 + (1 : Int32)) x3 (⟨hn1, fa2⟩) hL1 hL2 hL3 hL4 (ho.2.1 hc5)) (cwV 2 hA (cd_gV aw_608 aw_609 aw_785 aw_8 aw_610) rfl rfl rfl ⟨rfl, by decide, by decide, by decide +kernel⟩ ⟨Nat.le_of_ble_eq_true rfl, Nat.le_of_ble_eq_true rfl⟩) ⟨cd_blind, cd_recv hK hP (k := q) (by omega) fa2 rfl, fun U hU hW => ⟨rfl, cd_pre hK hP hZ hS U hU hW⟩⟩ rfl rfl hl.1 rfl (lv_room (Nat.le_of_ble_eq_true rfl)) d_Mo_unmap_57 ⟨Nat.zero_le _, Nat.zero_le _⟩) hS (fun _ _ h => h) (fun _ h => h) (fun w1 tE H locs ht hvm hr8 hP hz1 hk1 hS => ?_)
        have hP := cd_Pf ht hP
        obtain ⟨at10, at11, at12, at13, e1⟩ := hr8
        have fa14 := (e1 q (by omega)).trans fa2
        have fa15 := (e1 (q + 5) (by omega)).trans fa4
        refine lv_iinc (k := 1) (v := (x3 + (1 : Int32))) (lv' := [(3, .int (x3 + (1 : Int32))), (0, .ref (ad q))]) hx hb d_Mo_unmap_60 hl rfl (cd_inc _ _ _ (by decide)) (by decide) rfl (fun ls hl => ?_)
        refine lv_goto (tgt := 42) hx hb d_Mo_unmap_63 (by decide) ?_
        exact ih (x3 + (1 : Int32)) (S'.1, (f_Mo_move S'.1 (S'.2.1, S'.2.2.1, S'.2.2.2.1, S'.2.2.2.2.1) (x3 + (1 : Int32)) x3).1, (f_Mo_move S'.1 (S'.2.1, S'.2.2.1, S'.2.2.2.1, S'.2.2.2.2.1) (x3 + (1 : Int32)) x3).2.1, (f_Mo_move S'.1 (S'.2.1, S'.2.2.1, S'.2.2.2.1, S'.2.2.2.2.1) (x3 + (1 : Int32)) x3).2.2.1, (f_Mo_move S'.1 (S'.2.1, S'.2.2.1, S'.2.2.2.1, S'.2.2.2.2.1) (x3 + (1 : Int32)) x3).2.2.2, S'.2.2.2.2.2) w1 (fun k hk => ((e1 k (by omega)).trans (efr k (by omega)))) H locs ls (lv_sub hl [1, 0] rfl) (show (f_Mo_unmap S k0) = f_Mo_unmap_L42 S k0 gn (x3 + (1 : Int32)) (S'.1, (f_Mo_move S'.1 (S'.2.1, S'.2.2.1, S'.2.2.2.1, S'.2.2.2.2.1) (x3 + (1 : Int32)) x3).1, (f_Mo_move S'.1 (S'.2.1, S'.2.2.1, S'.2.2.2.1, S'.2.2.2.2.1) (x3 + (1 : Int32)) x3).2.1, (f_Mo_move S'.1 (S'.2.1, S'.2.2.1, S'.2.2.2.1, S'.2.2.2.2.1) (x3 + (1 : Int32)) x3).2.2.1, (f_Mo_move S'.1 (S'.2.1, S'.2.2.1, S'.2.2.2.1, S'.2.2.2.2.1) (x3 + (1 : Int32)) x3).2.2.2, S'.2.2.2.2.2) by rw [he, f_Mo_unmap_L42, if_neg hc5]) (⟨hn1, fa14⟩) at10 at11 at12 at13 (⟨hn3, fa15⟩) hP hS (ho.2.2 hc5)
  have hS : va_S A s.heap s.heap [] := va_S.rf
  have hl := lv_entry ([.ref (ad q), .int k0]) (n := 4) (Nat.le_of_ble_eq_true rfl)
  rw [lg_entry_eq]
  generalize (lg_sl ([.ref (ad q), .int k0]) ++ List.replicate (4 - (lg_sl ([.ref (ad q), .int k0])).length) Slot.unset).toArray = ls at hl ⊢
  have hl : lv_has ls 4 [(0, .ref (ad q)), (1, .int k0)] := hl
  have ho : (o_Mo_within ((0 : Int32), S.1.2.1, S.1.2.2.1, S.1.2.2.2.1, S.1.2.2.2.2.1, S.1.2.2.2.2.2) S.2.1 S.2.2.1 S.2.2.2.2.2 (0 : Int32) k0.toInt64) ∧ (¬ (f_Mo_within ((0 : Int32), S.1.2.1, S.1.2.2.1, S.1.2.2.2.1, S.1.2.2.2.2.1, S.1.2.2.2.2.2) S.2.1 S.2.2.1 S.2.2.2.2.2 (0 : Int32) k0.toInt64) = (-1 : Int32) → vp_in (f_Mo_within ((0 : Int32), S.1.2.1, S.1.2.2.1, S.1.2.2.2.1, S.1.2.2.2.2.1, S.1.2.2.2.2.2) S.2.1 S.2.2.1 S.2.2.2.2.2 (0 : Int32) k0.toInt64) 18) ∧ (¬ (f_Mo_within ((0 : Int32), S.1.2.1, S.1.2.2.1, S.1.2.2.2.1, S.1.2.2.2.2.1, S.1.2.2.2.2.2) S.2.1 S.2.2.1 S.2.2.2.2.2 (0 : Int32) k0.toInt64) = (-1 : Int32) → (S.2.1 (f_Mo_within ((0 : Int32), S.1.2.1, S.1.2.2.1, S.1.2.2.2.1, S.1.2.2.2.2.1, S.1.2.2.2.2.2) S.2.1 S.2.2.1 S.2.2.2.2.2 (0 : Int32) k0.toInt64).toNatClampNeg) = k0 → vp_in (0 : Int32) 3) ∧ (¬ (f_Mo_within ((0 : Int32), S.1.2.1, S.1.2.2.1, S.1.2.2.2.1, S.1.2.2.2.2.1, S.1.2.2.2.2.2) S.2.1 S.2.2.1 S.2.2.2.2.2 (0 : Int32) k0.toInt64) = (-1 : Int32) → (S.2.1 (f_Mo_within ((0 : Int32), S.1.2.1, S.1.2.2.1, S.1.2.2.2.1, S.1.2.2.2.2.1, S.1.2.2.2.2.2) S.2.1 S.2.2.1 S.2.2.2.2.2 (0 : Int32) k0.toInt64).toNatClampNeg) = k0 → vp_in (0 : Int32) 3) ∧ (¬ (f_Mo_within ((0 : Int32), S.1.2.1, S.1.2.2.1, S.1.2.2.2.1, S.1.2.2.2.2.1, S.1.2.2.2.2.2) S.2.1 S.2.2.1 S.2.2.2.2.2 (0 : Int32) k0.toInt64) = (-1 : Int32) → (S.2.1 (f_Mo_within ((0 : Int32), S.1.2.1, S.1.2.2.1, S.1.2.2.2.1, S.1.2.2.2.2.1, S.1.2.2.2.2.2) S.2.1 S.2.2.1 S.2.2.2.2.2 (0 : Int32) k0.toInt64).toNatClampNeg) = k0 → o_Mo_unmap_L42 S k0 7 (f_Mo_within ((0 : Int32), S.1.2.1, S.1.2.2.1, S.1.2.2.2.1, S.1.2.2.2.2.1, S.1.2.2.2.2.2) S.2.1 S.2.2.1 S.2.2.2.2.2 (0 : Int32) k0.toInt64) (((0 : Int32), S.1.2.1, S.1.2.2.1, S.1.2.2.2.1, S.1.2.2.2.2.1, S.1.2.2.2.2.2), S.2.1, S.2.2.1, S.2.2.2.1, S.2.2.2.2.1, (upd S.2.2.2.2.2 (0 : Int32).toNatClampNeg ((S.2.2.2.2.2 (0 : Int32).toNatClampNeg) - (1 : Int32))))) := ho
  obtain ⟨hn16, fa17⟩ := hR0
  refine lv_aload_n hx hb d_Mo_unmap_0 rfl (lv_at hl 0 rfl) ?_
  refine lv_iconst (v := (0 : Int32)) hx hb d_Mo_unmap_1 (by decide) ?_
  refine g_put (ci := 7) (C := R_Mo) (T := F_Mo) (Nf := 16) (v := .int (0 : Int32)) (ty := .int) hx hb hA in_Mo t_Mo t_Mo_ok n_Mo hown hK hP hS (k := q) (by omega) fa17 rfl 0 (by decide) (hA _ aw_560) (fun _ h9 => h9) rfl (by decide +kernel) rfl rfl (Nat.le_of_ble_eq_true rfl) d_Mo_unmap_2 (fun H locs w2 fa18 e2 hP hS => ?_)
  have fa18 : w2 q = .inr (7, [.int (0 : Int32), .ref (ad (q + 1)), .ref (ad (q + 2)), .ref (ad (q + 3)), .ref (ad (q + 4)), .ref (ad (q + 5)), .ref (ad (q + 6)), .ref (ad (q + 7)), .ref (ad (q + 8)), .ref (ad (q + 9)), .int S.1.2.1, .ref (ad (q + 10)), .int S.1.2.2.1, .int S.1.2.2.2.1, .int S.1.2.2.2.2.1, .int S.1.2.2.2.2.2]) := fa18
  have at19 := cd_IaAt_keep hR1 (fun k h1 h2 => e2 k (by omega))
  have at20 := cd_IaAt_keep hR2 (fun k h1 h2 => e2 k (by omega))
  have at21 := cd_IaAt_keep hR3 (fun k h1 h2 => e2 k (by omega))
  have at22 := cd_ByAt_keep hR4 (fun k h1 h2 => e2 k (by omega))
  have at23 := cd_IaAt_keep hR5 (fun k h1 h2 => e2 k (by omega))
  refine lv_aload_n hx hb d_Mo_unmap_5 rfl (lv_at hl 0 rfl) ?_
  refine lv_iconst (v := (0 : Int32)) hx hb d_Mo_unmap_6 (by decide) ?_
  refine lv_iload_n hx hb d_Mo_unmap_7 rfl (lv_at hl 1 rfl) ?_
  refine lv_i2l hx hb d_Mo_unmap_8 rfl ?_
  refine va_calli (va_runV (As := [.int (0 : Int32), .long k0.toInt64]) (rest := []) ⟨hx, hb, hml, hown, hA⟩ (c_Mo_within l D tt ad N A zs w2 q ((0 : Int32), S.1.2.1, S.1.2.2.1, S.1.2.2.2.1, S.1.2.2.2.2.1, S.1.2.2.2.2.2) S.2.1 S.2.2.1 S.2.2.2.2.2 (0 : Int32) k0.toInt64 (⟨hn16, fa18⟩) at19 at20 at23 (ho.1)) (cwV 2 hA (cd_gV aw_601 aw_602 aw_784 aw_8 aw_603) rfl rfl rfl ⟨rfl, by decide, by decide, by decide +kernel⟩ ⟨Nat.le_of_ble_eq_true rfl, Nat.le_of_ble_eq_true rfl⟩) ⟨cd_blind, cd_recv hK hP (k := q) (by omega) fa18 rfl, fun U hU hW => ⟨rfl, cd_pre hK hP hZ hS U hU hW⟩⟩ rfl rfl hl.1 rfl (lv_room (Nat.le_of_ble_eq_true rfl)) d_Mo_unmap_9 ⟨Nat.zero_le _, Nat.zero_le _⟩) hS (fun _ _ h => h) (fun _ h => h) (fun r24 w3 tE H locs ht hvm hr25 hP hz1 hk1 hS => ?_)
  have hP := cd_Pf ht hP
  obtain ⟨rfl, rfl⟩ := hr25
  refine lv_istore_n (lv' := [(2, .int (f_Mo_within ((0 : Int32), S.1.2.1, S.1.2.2.1, S.1.2.2.2.1, S.1.2.2.2.2.1, S.1.2.2.2.2.2) S.2.1 S.2.2.1 S.2.2.2.2.2 (0 : Int32) k0.toInt64)), (0, .ref (ad q)), (1, .int k0)]) hx hb d_Mo_unmap_12 rfl hl (by decide) rfl (fun ls hl => ?_)
  refine lv_iload_n hx hb d_Mo_unmap_13 rfl (lv_at hl 0 rfl) ?_
  refine lv_iconst (v := (-1 : Int32)) hx hb d_Mo_unmap_14 (by decide) ?_
  refine lv_icmp_eq (tgt := 28) hx hb d_Mo_unmap_15 (by decide) (fun hc27 => ?_) (fun hc27 => ?_)
  · refine lv_iconst (v := (0 : Int32)) hx hb d_Mo_unmap_28 (by decide) ?_
    have hf28 : (f_Mo_unmap S k0) = ((0 : Int32), ((0 : Int32), S.1.2.1, S.1.2.2.1, S.1.2.2.2.1, S.1.2.2.2.2.1, S.1.2.2.2.2.2), S.2.1, S.2.2.1, S.2.2.2.1, S.2.2.2.2.1, S.2.2.2.2.2) := by rw [f_Mo_unmap, if_pos hc27]
    exact W.zret (ty := .boolean) (v := (0 : Int32)) hx hb hr rfl (fun tE ht _ => ⟨⟨_, w2, rfl, ⟨(by rw [hf28]), (Or.inl rfl), (by rw [hf28]; exact ⟨hn16, fa18⟩), (by rw [hf28]; exact at19), (by rw [hf28]; exact at20), (by rw [hf28]; exact at21), (by rw [hf28]; exact at22), (by rw [hf28]; exact at23), (fun k hk => (e2 k (by omega)))⟩, cd_Pt ht hP⟩, hS.F ht⟩) hS.2.2 d_Mo_unmap_29
  · refine lv_aload_n hx hb d_Mo_unmap_18 rfl (lv_at hl 1 rfl) ?_
    refine g_get (ci := 7) (C := R_Mo) (T := F_Mo) (Nf := 16) (v := .ref (ad (q + 1))) hx hb hA in_Mo hown hK hP (k := q) (by omega) fa18 rfl 1 (by decide) (hA _ aw_561) (fun _ h9 => h9) rfl d_Mo_unmap_19 ?_
    refine lv_iload_n hx hb d_Mo_unmap_22 rfl (lv_at hl 0 rfl) ?_
    obtain ⟨hn29, fa30⟩ := at19
    refine g_iald hx hb hK hP (k := (q + 1)) (by omega) fa30 rfl (ho.2.1 hc27) d_Mo_unmap_23 ?_
    refine lv_iload_n hx hb d_Mo_unmap_24 rfl (lv_at hl 2 rfl) ?_
    refine lv_icmp_eq (tgt := 30) hx hb d_Mo_unmap_25 (by decide) (fun hc31 => ?_) (fun hc31 => ?_)
    · refine lv_aload_n hx hb d_Mo_unmap_30 rfl (lv_at hl 1 rfl) ?_
      refine g_get (ci := 7) (C := R_Mo) (T := F_Mo) (Nf := 16) (v := .ref (ad (q + 5))) hx hb hA in_Mo hown hK hP (k := q) (by omega) fa18 rfl 5 (by decide) (hA _ aw_565) (fun _ h9 => h9) rfl d_Mo_unmap_31 ?_
      refine lv_iconst (v := (0 : Int32)) hx hb d_Mo_unmap_34 (by decide) ?_
      refine lv_dup2_11 hx hb d_Mo_unmap_35 rfl rfl ?_
      obtain ⟨hn32, fa33⟩ := at23
      refine g_iald hx hb hK hP (k := (q + 5)) (by omega) fa33 rfl (ho.2.2.1 hc27 hc31) d_Mo_unmap_36 ?_
      refine lv_iconst (v := (1 : Int32)) hx hb d_Mo_unmap_37 (by decide) ?_
      refine lv_isub hx hb d_Mo_unmap_38 ?_
      refine g_iast hx hb hK hP hS (k := (q + 5)) (by omega) fa33 rfl (ho.2.2.2.1 hc27 hc31) d_Mo_unmap_39 (fun H locs w4 fa34 e4 hP hS => ?_)
      have fa35 := (e4 q (by omega)).trans fa18
      have fa36 := (e4 (q + 1) (by omega)).trans fa30
      have at37 := cd_IaAt_keep at20 (fun k h1 h2 => e4 k (by omega))
      have at38 := cd_IaAt_keep at21 (fun k h1 h2 => e4 k (by omega))
      have at39 := cd_ByAt_keep at22 (fun k h1 h2 => e4 k (by omega))
      refine lv_iload_n hx hb d_Mo_unmap_40 rfl (lv_at hl 0 rfl) ?_
      refine lv_istore_n (lv' := [(3, .int (f_Mo_within ((0 : Int32), S.1.2.1, S.1.2.2.1, S.1.2.2.2.1, S.1.2.2.2.2.1, S.1.2.2.2.2.2) S.2.1 S.2.2.1 S.2.2.2.2.2 (0 : Int32) k0.toInt64)), (2, .int (f_Mo_within ((0 : Int32), S.1.2.1, S.1.2.2.1, S.1.2.2.2.1, S.1.2.2.2.2.1, S.1.2.2.2.2.2) S.2.1 S.2.2.1 S.2.2.2.2.2 (0 : Int32) k0.toInt64)), (0, .ref (ad q)), (1, .int k0)]) hx hb d_Mo_unmap_41 rfl hl (by decide) rfl (fun ls hl => ?_)
      exact L42 7 (f_Mo_within ((0 : Int32), S.1.2.1, S.1.2.2.1, S.1.2.2.2.1, S.1.2.2.2.2.1, S.1.2.2.2.2.2) S.2.1 S.2.2.1 S.2.2.2.2.2 (0 : Int32) k0.toInt64) (((0 : Int32), S.1.2.1, S.1.2.2.1, S.1.2.2.2.1, S.1.2.2.2.2.1, S.1.2.2.2.2.2), S.2.1, S.2.2.1, S.2.2.2.1, S.2.2.2.2.1, (upd S.2.2.2.2.2 (0 : Int32).toNatClampNeg ((S.2.2.2.2.2 (0 : Int32).toNatClampNeg) - (1 : Int32)))) w4 (fun k hk => ((e4 k (by omega)).trans (e2 k (by omega)))) H locs ls (lv_sub hl [2, 0] rfl) (show (f_Mo_unmap S k0) = f_Mo_unmap_L42 S k0 7 (f_Mo_within ((0 : Int32), S.1.2.1, S.1.2.2.1, S.1.2.2.2.1, S.1.2.2.2.2.1, S.1.2.2.2.2.2) S.2.1 S.2.2.1 S.2.2.2.2.2 (0 : Int32) k0.toInt64) (((0 : Int32), S.1.2.1, S.1.2.2.1, S.1.2.2.2.1, S.1.2.2.2.2.1, S.1.2.2.2.2.2), S.2.1, S.2.2.1, S.2.2.2.1, S.2.2.2.2.1, (upd S.2.2.2.2.2 (0 : Int32).toNatClampNeg ((S.2.2.2.2.2 (0 : Int32).toNatClampNeg) - (1 : Int32)))) by rw [f_Mo_unmap, if_neg hc27, if_pos hc31]) (⟨hn16, fa35⟩) (⟨hn29, fa36⟩) at37 at38 at39 (⟨hn32, fa34⟩) hP hS (ho.2.2.2.2 hc27 hc31)
    · refine lv_iconst (v := (0 : Int32)) hx hb d_Mo_unmap_28 (by decide) ?_
      have hf40 : (f_Mo_unmap S k0) = ((0 : Int32), ((0 : Int32), S.1.2.1, S.1.2.2.1, S.1.2.2.2.1, S.1.2.2.2.2.1, S.1.2.2.2.2.2), S.2.1, S.2.2.1, S.2.2.2.1, S.2.2.2.2.1, S.2.2.2.2.2) := by rw [f_Mo_unmap, if_neg hc27, if_neg hc31]
      exact W.zret (ty := .boolean) (v := (0 : Int32)) hx hb hr rfl (fun tE ht _ => ⟨⟨_, w2, rfl, ⟨(by rw [hf40]), (Or.inl rfl), (by rw [hf40]; exact ⟨hn16, fa18⟩), (by rw [hf40]; exact ⟨hn29, fa30⟩), (by rw [hf40]; exact at20), (by rw [hf40]; exact at21), (by rw [hf40]; exact at22), (by rw [hf40]; exact at23), (fun k hk => (e2 k (by omega)))⟩, cd_Pt ht hP⟩, hS.F ht⟩) hS.2.2 d_Mo_unmap_29
def f_Mo_poke (S : cd_Mo × cd_By) (ma : cd_Ia) (ms : cd_Ia) (mr : cd_Ia) (k0 : Int32) (k1 : Int32) : Int32 × cd_Mo × cd_By := (if (f_Mo_within ((0 : Int32), S.1.2.1, S.1.2.2.1, S.1.2.2.2.1, S.1.2.2.2.2.1, S.1.2.2.2.2.2) ma ms mr (0 : Int32) k0.toInt64) = (-1 : Int32) then ((0 : Int32), ((0 : Int32), S.1.2.1, S.1.2.2.1, S.1.2.2.2.1, S.1.2.2.2.2.1, S.1.2.2.2.2.2), S.2) else ((1 : Int32), ((0 : Int32), S.1.2.1, S.1.2.2.1, S.1.2.2.2.1, S.1.2.2.2.2.1, S.1.2.2.2.2.2), (upd S.2 ((((1024 : Int32) * (f_Mo_within ((0 : Int32), S.1.2.1, S.1.2.2.1, S.1.2.2.2.1, S.1.2.2.2.2.1, S.1.2.2.2.2.2) ma ms mr (0 : Int32) k0.toInt64)) + k0) - (ma (f_Mo_within ((0 : Int32), S.1.2.1, S.1.2.2.1, S.1.2.2.2.1, S.1.2.2.2.2.1, S.1.2.2.2.2.2) ma ms mr (0 : Int32) k0.toInt64).toNatClampNeg)).toNatClampNeg (vp_nar .byte k1.toInt8.toInt32))))
def o_Mo_poke (S : cd_Mo × cd_By) (ma : cd_Ia) (ms : cd_Ia) (mr : cd_Ia) (k0 : Int32) (k1 : Int32) : Prop := (o_Mo_within ((0 : Int32), S.1.2.1, S.1.2.2.1, S.1.2.2.2.1, S.1.2.2.2.2.1, S.1.2.2.2.2.2) ma ms mr (0 : Int32) k0.toInt64) ∧ (¬ (f_Mo_within ((0 : Int32), S.1.2.1, S.1.2.2.1, S.1.2.2.2.1, S.1.2.2.2.2.1, S.1.2.2.2.2.2) ma ms mr (0 : Int32) k0.toInt64) = (-1 : Int32) → vp_in (f_Mo_within ((0 : Int32), S.1.2.1, S.1.2.2.1, S.1.2.2.2.1, S.1.2.2.2.2.1, S.1.2.2.2.2.2) ma ms mr (0 : Int32) k0.toInt64) 18) ∧ (¬ (f_Mo_within ((0 : Int32), S.1.2.1, S.1.2.2.1, S.1.2.2.2.1, S.1.2.2.2.2.1, S.1.2.2.2.2.2) ma ms mr (0 : Int32) k0.toInt64) = (-1 : Int32) → vp_in ((((1024 : Int32) * (f_Mo_within ((0 : Int32), S.1.2.1, S.1.2.2.1, S.1.2.2.2.1, S.1.2.2.2.2.1, S.1.2.2.2.2.2) ma ms mr (0 : Int32) k0.toInt64)) + k0) - (ma (f_Mo_within ((0 : Int32), S.1.2.1, S.1.2.2.1, S.1.2.2.2.1, S.1.2.2.2.2.1, S.1.2.2.2.2.2) ma ms mr (0 : Int32) k0.toInt64).toNatClampNeg)) 18432)
set_option maxHeartbeats 4000000 in
set_option maxRecDepth 100000 in
theorem c_Mo_poke (l : Launch) (D : va_G) (tt : Nat → ClassId) (ad : Nat → Nat) (N : Nat) (A : Nat → Prop) (zs : Nat → Nat) (w0 : Nat → va_E) (q : Nat) (S : cd_Mo × cd_By) (ma : cd_Ia) (ms : cd_Ia) (mr : cd_Ia) (k0 : Int32) (k1 : Int32) (hR0 : cd_MoAt N tt ad w0 q S.1) (hR1 : cd_IaAt N tt ad w0 (q + 1) 18 ma) (hR2 : cd_IaAt N tt ad w0 (q + 2) 18 ms) (hR3 : cd_ByAt N tt ad w0 (q + 4) 18432 S.2) (hR4 : cd_IaAt N tt ad w0 (q + 5) 3 mr) (ho : o_Mo_poke S ma ms mr k0 k1) : Met l y_Mo_poke w_Mo_poke ({ frames := 1, cells := 0, slots := 0, locals := 24 }) (va_Pc [.ref (ad q), .int k0, .int k1] (cd_U D tt ad N A zs w0)) (va_Qi (fun r w' => (f_Mo_poke S ma ms mr k0 k1).1 = r ∧ (r = 0 ∨ r = 1) ∧ cd_MoAt N tt ad w' q ((f_Mo_poke S ma ms mr k0 k1).2.1) ∧ cd_ByAt N tt ad w' (q + 4) 18432 ((f_Mo_poke S ma ms mr k0 k1).2.2) ∧ (∀ k : Nat, (k < q ∨ q + 1 ≤ k) ∧ (k < (q + 4) ∨ (q + 4) + 1 ≤ k) → w' k = w0 k)) (fun w' t => cd_P D ad N A w' t.heap) A) 0 0 A := by
  refine Met.ofW (cc := b_Mo_poke) (maxL := 4) (ret := (some .boolean)) (by decide) rfl ?_
  intro p e s m args below meth c s₁ B hml hv
  obtain ⟨rfl, hP, hK, hZ⟩ := hv
  have hx := B.exec
  have hb := B.bytes
  have hr := B.returns
  have hA : ∀ w ∈ cd_AW, w.before _ s = true := fun w h => atoms_spec (ws := w_Mo_poke) B.pre w (List.mem_cons_of_mem _ h)
  have hown : s.vm.findClass R_Mo = some m.cls := findClass_of_methodNamed B.named
  have hlocks := B.notSynchronized
  have hS : va_S A s.heap s.heap [] := va_S.rf
  have hl := lv_entry ([.ref (ad q), .int k0, .int k1]) (n := 4) (Nat.le_of_ble_eq_true rfl)
  rw [lg_entry_eq]
  generalize (lg_sl ([.ref (ad q), .int k0, .int k1]) ++ List.replicate (4 - (lg_sl ([.ref (ad q), .int k0, .int k1])).length) Slot.unset).toArray = ls at hl ⊢
  have hl : lv_has ls 4 [(0, .ref (ad q)), (1, .int k0), (2, .int k1)] := hl
  have ho : (o_Mo_within ((0 : Int32), S.1.2.1, S.1.2.2.1, S.1.2.2.2.1, S.1.2.2.2.2.1, S.1.2.2.2.2.2) ma ms mr (0 : Int32) k0.toInt64) ∧ (¬ (f_Mo_within ((0 : Int32), S.1.2.1, S.1.2.2.1, S.1.2.2.2.1, S.1.2.2.2.2.1, S.1.2.2.2.2.2) ma ms mr (0 : Int32) k0.toInt64) = (-1 : Int32) → vp_in (f_Mo_within ((0 : Int32), S.1.2.1, S.1.2.2.1, S.1.2.2.2.1, S.1.2.2.2.2.1, S.1.2.2.2.2.2) ma ms mr (0 : Int32) k0.toInt64) 18) ∧ (¬ (f_Mo_within ((0 : Int32), S.1.2.1, S.1.2.2.1, S.1.2.2.2.1, S.1.2.2.2.2.1, S.1.2.2.2.2.2) ma ms mr (0 : Int32) k0.toInt64) = (-1 : Int32) → vp_in ((((1024 : Int32) * (f_Mo_within ((0 : Int32), S.1.2.1, S.1.2.2.1, S.1.2.2.2.1, S.1.2.2.2.2.1, S.1.2.2.2.2.2) ma ms mr (0 : Int32) k0.toInt64)) + k0) - (ma (f_Mo_within ((0 : Int32), S.1.2.1, S.1.2.2.1, S.1.2.2.2.1, S.1.2.2.2.2.1, S.1.2.2.2.2.2) ma ms mr (0 : Int32) k0.toInt64).toNatClampNeg)) 18432) := ho
  obtain ⟨hn1, fa2⟩ := hR0
  refine lv_aload_n hx hb d_Mo_poke_0 rfl (lv_at hl 0 rfl) ?_
  refine lv_iconst (v := (0 : Int32)) hx hb d_Mo_poke_1 (by decide) ?_
  refine g_put (ci := 7) (C := R_Mo) (T := F_Mo) (Nf := 16) (v := .int (0 : Int32)) (ty := .int) hx hb hA in_Mo t_Mo t_Mo_ok n_Mo hown hK hP hS (k := q) (by omega) fa2 rfl 0 (by decide) (hA _ aw_560) (fun _ h9 => h9) rfl (by decide +kernel) rfl rfl (Nat.le_of_ble_eq_true rfl) d_Mo_poke_2 (fun H locs w1 fa3 e1 hP hS => ?_)
  have fa3 : w1 q = .inr (7, [.int (0 : Int32), .ref (ad (q + 1)), .ref (ad (q + 2)), .ref (ad (q + 3)), .ref (ad (q + 4)), .ref (ad (q + 5)), .ref (ad (q + 6)), .ref (ad (q + 7)), .ref (ad (q + 8)), .ref (ad (q + 9)), .int S.1.2.1, .ref (ad (q + 10)), .int S.1.2.2.1, .int S.1.2.2.2.1, .int S.1.2.2.2.2.1, .int S.1.2.2.2.2.2]) := fa3
  have at4 := cd_IaAt_keep hR1 (fun k h1 h2 => e1 k (by omega))
  have at5 := cd_IaAt_keep hR2 (fun k h1 h2 => e1 k (by omega))
  have at6 := cd_ByAt_keep hR3 (fun k h1 h2 => e1 k (by omega))
  have at7 := cd_IaAt_keep hR4 (fun k h1 h2 => e1 k (by omega))
  refine lv_aload_n hx hb d_Mo_poke_5 rfl (lv_at hl 0 rfl) ?_
  refine lv_iconst (v := (0 : Int32)) hx hb d_Mo_poke_6 (by decide) ?_
  refine lv_iload_n hx hb d_Mo_poke_7 rfl (lv_at hl 1 rfl) ?_
  refine lv_i2l hx hb d_Mo_poke_8 rfl ?_
  refine va_calli (va_runV (As := [.int (0 : Int32), .long k0.toInt64]) (rest := []) ⟨hx, hb, hml, hown, hA⟩ (c_Mo_within l D tt ad N A zs w1 q ((0 : Int32), S.1.2.1, S.1.2.2.1, S.1.2.2.2.1, S.1.2.2.2.2.1, S.1.2.2.2.2.2) ma ms mr (0 : Int32) k0.toInt64 (⟨hn1, fa3⟩) at4 at5 at7 (ho.1)) (cwV 2 hA (cd_gV aw_601 aw_602 aw_784 aw_8 aw_603) rfl rfl rfl ⟨rfl, by decide, by decide, by decide +kernel⟩ ⟨Nat.le_of_ble_eq_true rfl, Nat.le_of_ble_eq_true rfl⟩) ⟨cd_blind, cd_recv hK hP (k := q) (by omega) fa3 rfl, fun U hU hW => ⟨rfl, cd_pre hK hP hZ hS U hU hW⟩⟩ rfl rfl hl.1 rfl (lv_room (Nat.le_of_ble_eq_true rfl)) d_Mo_poke_9 ⟨Nat.zero_le _, Nat.zero_le _⟩) hS (fun _ _ h => h) (fun _ h => h) (fun r8 w2 tE H locs ht hvm hr9 hP hz1 hk1 hS => ?_)
  have hP := cd_Pf ht hP
  obtain ⟨rfl, rfl⟩ := hr9
  refine lv_istore_n (lv' := [(3, .int (f_Mo_within ((0 : Int32), S.1.2.1, S.1.2.2.1, S.1.2.2.2.1, S.1.2.2.2.2.1, S.1.2.2.2.2.2) ma ms mr (0 : Int32) k0.toInt64)), (0, .ref (ad q)), (1, .int k0), (2, .int k1)]) hx hb d_Mo_poke_12 rfl hl (by decide) rfl (fun ls hl => ?_)
  refine lv_iload_n hx hb d_Mo_poke_13 rfl (lv_at hl 0 rfl) ?_
  refine lv_iconst (v := (-1 : Int32)) hx hb d_Mo_poke_14 (by decide) ?_
  refine lv_icmp_ne (tgt := 20) hx hb d_Mo_poke_15 (by decide) (fun hc11 => ?_) (fun hc11 => ?_)
  · refine lv_aload_n hx hb d_Mo_poke_20 rfl (lv_at hl 1 rfl) ?_
    refine g_get (ci := 7) (C := R_Mo) (T := F_Mo) (Nf := 16) (v := .ref (ad (q + 4))) hx hb hA in_Mo hown hK hP (k := q) (by omega) fa3 rfl 4 (by decide) (hA _ aw_564) (fun _ h9 => h9) rfl d_Mo_poke_21 ?_
    refine lv_sipush (v := (1024 : Int32)) hx hb d_Mo_poke_24 (by decide) ?_
    refine lv_iload_n hx hb d_Mo_poke_27 rfl (lv_at hl 0 rfl) ?_
    refine lv_imul hx hb d_Mo_poke_28 ?_
    refine lv_iload_n hx hb d_Mo_poke_29 rfl (lv_at hl 2 rfl) ?_
    refine lv_iadd hx hb d_Mo_poke_30 ?_
    refine lv_aload_n hx hb d_Mo_poke_31 rfl (lv_at hl 1 rfl) ?_
    refine g_get (ci := 7) (C := R_Mo) (T := F_Mo) (Nf := 16) (v := .ref (ad (q + 1))) hx hb hA in_Mo hown hK hP (k := q) (by omega) fa3 rfl 1 (by decide) (hA _ aw_561) (fun _ h9 => h9) rfl d_Mo_poke_32 ?_
    refine lv_iload_n hx hb d_Mo_poke_35 rfl (lv_at hl 0 rfl) ?_
    obtain ⟨hn12, fa13⟩ := at4
    refine g_iald hx hb hK hP (k := (q + 1)) (by omega) fa13 rfl (ho.2.1 hc11) d_Mo_poke_36 ?_
    refine lv_isub hx hb d_Mo_poke_37 ?_
    refine lv_iload_n hx hb d_Mo_poke_38 rfl (lv_at hl 3 rfl) ?_
    refine lv_i2b hx hb d_Mo_poke_39 rfl ?_
    obtain ⟨hn14, fa15⟩ := at6
    refine g_bast hx hb hK hP hS (k := (q + 4)) (by omega) fa15 rfl (ho.2.2 hc11) d_Mo_poke_40 (fun H locs w3 fa16 e3 hP hS => ?_)
    have fa17 := (e3 q (by omega)).trans fa3
    have fa18 := (e3 (q + 1) (by omega)).trans fa13
    have at19 := cd_IaAt_keep at5 (fun k h1 h2 => e3 k (by omega))
    have at20 := cd_IaAt_keep at7 (fun k h1 h2 => e3 k (by omega))
    refine lv_iconst (v := (1 : Int32)) hx hb d_Mo_poke_41 (by decide) ?_
    have hf21 : (f_Mo_poke S ma ms mr k0 k1) = ((1 : Int32), ((0 : Int32), S.1.2.1, S.1.2.2.1, S.1.2.2.2.1, S.1.2.2.2.2.1, S.1.2.2.2.2.2), (upd S.2 ((((1024 : Int32) * (f_Mo_within ((0 : Int32), S.1.2.1, S.1.2.2.1, S.1.2.2.2.1, S.1.2.2.2.2.1, S.1.2.2.2.2.2) ma ms mr (0 : Int32) k0.toInt64)) + k0) - (ma (f_Mo_within ((0 : Int32), S.1.2.1, S.1.2.2.1, S.1.2.2.2.1, S.1.2.2.2.2.1, S.1.2.2.2.2.2) ma ms mr (0 : Int32) k0.toInt64).toNatClampNeg)).toNatClampNeg (vp_nar .byte k1.toInt8.toInt32))) := by rw [f_Mo_poke, if_neg hc11]
    exact W.zret (ty := .boolean) (v := (1 : Int32)) hx hb hr rfl (fun tE ht _ => ⟨⟨_, w3, rfl, ⟨(by rw [hf21]), (Or.inr rfl), (by rw [hf21]; exact ⟨hn1, fa17⟩), (by rw [hf21]; exact ⟨hn14, fa16⟩), (fun k hk => ((e3 k (by omega)).trans (e1 k (by omega))))⟩, cd_Pt ht hP⟩, hS.F ht⟩) hS.2.2 d_Mo_poke_42
  · refine lv_iconst (v := (0 : Int32)) hx hb d_Mo_poke_18 (by decide) ?_
    have hf22 : (f_Mo_poke S ma ms mr k0 k1) = ((0 : Int32), ((0 : Int32), S.1.2.1, S.1.2.2.1, S.1.2.2.2.1, S.1.2.2.2.2.1, S.1.2.2.2.2.2), S.2) := by rw [f_Mo_poke, if_pos hc11]
    exact W.zret (ty := .boolean) (v := (0 : Int32)) hx hb hr rfl (fun tE ht _ => ⟨⟨_, w1, rfl, ⟨(by rw [hf22]), (Or.inl rfl), (by rw [hf22]; exact ⟨hn1, fa3⟩), (by rw [hf22]; exact at6), (fun k hk => (e1 k (by omega)))⟩, cd_Pt ht hP⟩, hS.F ht⟩) hS.2.2 d_Mo_poke_19
def f_Mo_pokeFour_L36 (S : cd_Mo × cd_By) (ma : cd_Ia) (ms : cd_Ia) (mr : cd_Ia) (k0 : Int32) (k1 : Int32) : Nat → Int32 → (cd_Mo × cd_By) → Int32 × cd_Mo × cd_By
  | 0, _, _ => default
  | gn + 1, x3, S' => (if (4 : Int32) ≤ x3 then ((1 : Int32), S'.1, S'.2) else (f_Mo_pokeFour_L36 S ma ms mr k0 k1 gn (x3 + (1 : Int32)) (S'.1, (upd S'.2 (((((1024 : Int32) * (f_Mo_within S'.1 ma ms mr (0 : Int32) (k0.toInt64 + x3.toInt64))) + k0) + x3) - (ma (f_Mo_within S'.1 ma ms mr (0 : Int32) (k0.toInt64 + x3.toInt64)).toNatClampNeg)).toNatClampNeg (vp_nar .byte ((k1 >>> (((8 : Int32) * x3) &&& 31)).toInt8.toInt32))))))
def f_Mo_pokeFour_L7 (S : cd_Mo × cd_By) (ma : cd_Ia) (ms : cd_Ia) (mr : cd_Ia) (k0 : Int32) (k1 : Int32) : Nat → Int32 → (cd_Mo × cd_By) → Int32 × cd_Mo × cd_By
  | 0, _, _ => default
  | gn + 1, x3, S' => (if (4 : Int32) ≤ x3 then (f_Mo_pokeFour_L36 S ma ms mr k0 k1 5 (0 : Int32) S') else (if (f_Mo_within S'.1 ma ms mr (0 : Int32) (k0.toInt64 + x3.toInt64)) = (-1 : Int32) then ((0 : Int32), S'.1, S'.2) else (f_Mo_pokeFour_L7 S ma ms mr k0 k1 gn (x3 + (1 : Int32)) S')))
def f_Mo_pokeFour (S : cd_Mo × cd_By) (ma : cd_Ia) (ms : cd_Ia) (mr : cd_Ia) (k0 : Int32) (k1 : Int32) : Int32 × cd_Mo × cd_By := (f_Mo_pokeFour_L7 S ma ms mr k0 k1 5 (0 : Int32) (((0 : Int32), S.1.2.1, S.1.2.2.1, S.1.2.2.2.1, S.1.2.2.2.2.1, S.1.2.2.2.2.2), S.2))
def o_Mo_pokeFour_L36 (S : cd_Mo × cd_By) (ma : cd_Ia) (ms : cd_Ia) (mr : cd_Ia) (k0 : Int32) (k1 : Int32) : Nat → Int32 → (cd_Mo × cd_By) → Prop
  | 0, _, _ => False
  | gn + 1, x3, S' => (¬ (4 : Int32) ≤ x3 → o_Mo_within S'.1 ma ms mr (0 : Int32) (k0.toInt64 + x3.toInt64)) ∧ (¬ (4 : Int32) ≤ x3 → vp_in (f_Mo_within S'.1 ma ms mr (0 : Int32) (k0.toInt64 + x3.toInt64)) 18) ∧ (¬ (4 : Int32) ≤ x3 → vp_in (((((1024 : Int32) * (f_Mo_within S'.1 ma ms mr (0 : Int32) (k0.toInt64 + x3.toInt64))) + k0) + x3) - (ma (f_Mo_within S'.1 ma ms mr (0 : Int32) (k0.toInt64 + x3.toInt64)).toNatClampNeg)) 18432) ∧ (¬ (4 : Int32) ≤ x3 → o_Mo_pokeFour_L36 S ma ms mr k0 k1 gn (x3 + (1 : Int32)) (S'.1, (upd S'.2 (((((1024 : Int32) * (f_Mo_within S'.1 ma ms mr (0 : Int32) (k0.toInt64 + x3.toInt64))) + k0) + x3) - (ma (f_Mo_within S'.1 ma ms mr (0 : Int32) (k0.toInt64 + x3.toInt64)).toNatClampNeg)).toNatClampNeg (vp_nar .byte ((k1 >>> (((8 : Int32) * x3) &&& 31)).toInt8.toInt32)))))
def o_Mo_pokeFour_L7 (S : cd_Mo × cd_By) (ma : cd_Ia) (ms : cd_Ia) (mr : cd_Ia) (k0 : Int32) (k1 : Int32) : Nat → Int32 → (cd_Mo × cd_By) → Prop
  | 0, _, _ => False
  | gn + 1, x3, S' => ((4 : Int32) ≤ x3 → o_Mo_pokeFour_L36 S ma ms mr k0 k1 5 (0 : Int32) S') ∧ (¬ (4 : Int32) ≤ x3 → o_Mo_within S'.1 ma ms mr (0 : Int32) (k0.toInt64 + x3.toInt64)) ∧ (¬ (4 : Int32) ≤ x3 → ¬ (f_Mo_within S'.1 ma ms mr (0 : Int32) (k0.toInt64 + x3.toInt64)) = (-1 : Int32) → o_Mo_pokeFour_L7 S ma ms mr k0 k1 gn (x3 + (1 : Int32)) S')
def o_Mo_pokeFour (S : cd_Mo × cd_By) (ma : cd_Ia) (ms : cd_Ia) (mr : cd_Ia) (k0 : Int32) (k1 : Int32) : Prop := (o_Mo_pokeFour_L7 S ma ms mr k0 k1 5 (0 : Int32) (((0 : Int32), S.1.2.1, S.1.2.2.1, S.1.2.2.2.1, S.1.2.2.2.2.1, S.1.2.2.2.2.2), S.2))
set_option maxHeartbeats 4000000 in
set_option maxRecDepth 100000 in
theorem c_Mo_pokeFour (l : Launch) (D : va_G) (tt : Nat → ClassId) (ad : Nat → Nat) (N : Nat) (A : Nat → Prop) (zs : Nat → Nat) (w0 : Nat → va_E) (q : Nat) (S : cd_Mo × cd_By) (ma : cd_Ia) (ms : cd_Ia) (mr : cd_Ia) (k0 : Int32) (k1 : Int32) (hR0 : cd_MoAt N tt ad w0 q S.1) (hR1 : cd_IaAt N tt ad w0 (q + 1) 18 ma) (hR2 : cd_IaAt N tt ad w0 (q + 2) 18 ms) (hR3 : cd_ByAt N tt ad w0 (q + 4) 18432 S.2) (hR4 : cd_IaAt N tt ad w0 (q + 5) 3 mr) (ho : o_Mo_pokeFour S ma ms mr k0 k1) : Met l y_Mo_pokeFour w_Mo_pokeFour ({ frames := 1, cells := 0, slots := 0, locals := 24 }) (va_Pc [.ref (ad q), .int k0, .int k1] (cd_U D tt ad N A zs w0)) (va_Qi (fun r w' => (f_Mo_pokeFour S ma ms mr k0 k1).1 = r ∧ (r = 0 ∨ r = 1) ∧ cd_MoAt N tt ad w' q ((f_Mo_pokeFour S ma ms mr k0 k1).2.1) ∧ cd_ByAt N tt ad w' (q + 4) 18432 ((f_Mo_pokeFour S ma ms mr k0 k1).2.2) ∧ (∀ k : Nat, (k < q ∨ q + 1 ≤ k) ∧ (k < (q + 4) ∨ (q + 4) + 1 ≤ k) → w' k = w0 k)) (fun w' t => cd_P D ad N A w' t.heap) A) 0 0 A := by
  refine Met.ofW (cc := b_Mo_pokeFour) (maxL := 5) (ret := (some .boolean)) (by decide) rfl ?_
  intro p e s m args below meth c s₁ B hml hv
  obtain ⟨rfl, hP, hK, hZ⟩ := hv
  have hx := B.exec
  have hb := B.bytes
  have hr := B.returns
  have hA : ∀ w ∈ cd_AW, w.before _ s = true := fun w h => atoms_spec (ws := w_Mo_pokeFour) B.pre w (List.mem_cons_of_mem _ h)
  have hown : s.vm.findClass R_Mo = some m.cls := findClass_of_methodNamed B.named
  have hlocks := B.notSynchronized
  have L36 : ∀ (gn : Nat) (x3 : Int32) (S' : cd_Mo × cd_By) (w : Nat → va_E) (efr : ∀ k : Nat, (k < q ∨ q + 1 ≤ k) ∧ (k < (q + 4) ∨ (q + 4) + 1 ≤ k) → w k = w0 k) (H : Heap) (locs : List Loc) (ls : Array Slot), lv_has ls 5 [(0, .ref (ad q)), (1, .int k0), (2, .int k1), (3, .int x3)] → (f_Mo_pokeFour S ma ms mr k0 k1) = f_Mo_pokeFour_L36 S ma ms mr k0 k1 gn x3 S' → cd_MoAt N tt ad w q S'.1 → cd_IaAt N tt ad w (q + 1) 18 ma → cd_IaAt N tt ad w (q + 2) 18 ms → cd_ByAt N tt ad w (q + 4) 18432 S'.2 → cd_IaAt N tt ad w (q + 5) 3 mr → cd_P D ad N A w H → va_S A s.heap H locs → o_Mo_pokeFour_L36 S ma ms mr k0 k1 gn x3 S' → W p l e (headSpec w_Mo_pokeFour ({ frames := 1, cells := 0, slots := 0, locals := 24 })).room s m [.ref (ad q), .int k0, .int k1].toArray below meth c H locs 0 0 (MQ below (va_Qi (fun r w' => (f_Mo_pokeFour S ma ms mr k0 k1).1 = r ∧ (r = 0 ∨ r = 1) ∧ cd_MoAt N tt ad w' q ((f_Mo_pokeFour S ma ms mr k0 k1).2.1) ∧ cd_ByAt N tt ad w' (q + 4) 18432 ((f_Mo_pokeFour S ma ms mr k0 k1).2.2) ∧ (∀ k : Nat, (k < q ∨ q + 1 ≤ k) ∧ (k < (q + 4) ∨ (q + 4) + 1 ≤ k) → w' k = w0 k)) (fun w' t => cd_P D ad N A w' t.heap) A) [.ref (ad q), .int k0, .int k1].toArray s 0 0 A) (F0 m 36 ls []) := by
    intro gn
    induction gn with
    | zero => intro x3 S' w efr H locs ls hl he hL0 hL1 hL2 hL3 hL4 hP hS ho; exact ho.elim
    | succ gn ih =>
      intro x3 S' w efr H locs ls hl he hL0 hL1 hL2 hL3 hL4 hP hS ho
      have ho : (¬ (4 : Int32) ≤ x3 → o_Mo_within S'.1 ma ms mr (0 : Int32) (k0.toInt64 + x3.toInt64)) ∧ (¬ (4 : Int32) ≤ x3 → vp_in (f_Mo_within S'.1 ma ms mr (0 : Int32) (k0.toInt64 + x3.toInt64)) 18) ∧ (¬ (4 : Int32) ≤ x3 → vp_in (((((1024 : Int32) * (f_Mo_within S'.1 ma ms mr (0 : Int32) (k0.toInt64 + x3.toInt64))) + k0) + x3) - (ma (f_Mo_within S'.1 ma ms mr (0 : Int32) (k0.toInt64 + x3.toInt64)).toNatClampNeg)) 18432) ∧ (¬ (4 : Int32) ≤ x3 → o_Mo_pokeFour_L36 S ma ms mr k0 k1 gn (x3 + (1 : Int32)) (S'.1, (upd S'.2 (((((1024 : Int32) * (f_Mo_within S'.1 ma ms mr (0 : Int32) (k0.toInt64 + x3.toInt64))) + k0) + x3) - (ma (f_Mo_within S'.1 ma ms mr (0 : Int32) (k0.toInt64 + x3.toInt64)).toNatClampNeg)).toNatClampNeg (vp_nar .byte ((k1 >>> (((8 : Int32) * x3) &&& 31)).toInt8.toInt32))))) := ho
      obtain ⟨hn1, fa2⟩ := hL0
      refine lv_iload_n hx hb d_Mo_pokeFour_36 rfl (lv_at hl 3 rfl) ?_
      refine lv_iconst (v := (4 : Int32)) hx hb d_Mo_pokeFour_37 (by decide) ?_
      refine lv_icmp_ge (tgt := 89) hx hb d_Mo_pokeFour_38 (by decide) (fun hc3 => ?_) (fun hc3 => ?_)
      · refine lv_iconst (v := (1 : Int32)) hx hb d_Mo_pokeFour_89 (by decide) ?_
        have hf4 : (f_Mo_pokeFour S ma ms mr k0 k1) = ((1 : Int32), S'.1, S'.2) := by rw [he, f_Mo_pokeFour_L36, if_pos hc3]
        exact W.zret (ty := .boolean) (v := (1 : Int32)) hx hb hr rfl (fun tE ht _ => ⟨⟨_, w, rfl, ⟨(by rw [hf4]), (Or.inr rfl), (by rw [hf4]; exact ⟨hn1, fa2⟩), (by rw [hf4]; exact hL3), (fun k hk => (efr k (by omega)))⟩, cd_Pt ht hP⟩, hS.F ht⟩) hS.2.2 d_Mo_pokeFour_90
      · refine lv_aload_n hx hb d_Mo_pokeFour_41 rfl (lv_at hl 0 rfl) ?_
        refine lv_iconst (v := (0 : Int32)) hx hb d_Mo_pokeFour_42 (by decide) ?_
        refine lv_iload_n hx hb d_Mo_pokeFour_43 rfl (lv_at hl 1 rfl) ?_
        refine lv_i2l hx hb d_Mo_pokeFour_44 rfl ?_
        refine lv_iload_n hx hb d_Mo_pokeFour_45 rfl (lv_at hl 3 rfl) ?_
        refine lv_i2l hx hb d_Mo_pokeFour_46 rfl ?_
        refine lv_ladd hx hb d_Mo_pokeFour_47 ?_
        refine va_calli (va_runV (As := [.int (0 : Int32), .long (k0.toInt64 + x3.toInt64)]) (rest := []) ⟨hx, hb, hml, hown, hA⟩ (c_Mo_within l D tt ad N A zs w q S'.1 ma ms mr (0 : Int32) (k0.toInt64 + x3.toInt64) (⟨hn1, fa2⟩) hL1 hL2 hL4 (ho.1 hc3)) (cwV 2 hA (cd_gV aw_601 aw_602 aw_784 aw_8 aw_603) rfl rfl rfl ⟨rfl, by decide, by decide, by decide +kernel⟩ ⟨Nat.le_of_ble_eq_true rfl, Nat.le_of_ble_eq_true rfl⟩) ⟨cd_blind, cd_recv hK hP (k := q) (by omega) fa2 rfl, fun U hU hW => ⟨rfl, cd_pre hK hP hZ hS U hU hW⟩⟩ rfl rfl hl.1 rfl (lv_room (Nat.le_of_ble_eq_true rfl)) d_Mo_pokeFour_48 ⟨Nat.zero_le _, Nat.zero_le _⟩) hS (fun _ _ h => h) (fun _ h => h) (fun r5 w1 tE H locs ht hvm hr6 hP hz1 hk1 hS => ?_)
        have hP := cd_Pf ht hP
        obtain ⟨rfl, rfl⟩ := hr6
        refine lv_istore (lv' := [(4, .int (f_Mo_within S'.1 ma ms mr (0 : Int32) (k0.toInt64 + x3.toInt64))), (0, .ref (ad q)), (1, .int k0), (2, .int k1), (3, .int x3)]) hx hb d_Mo_pokeFour_51 hl (by decide) rfl (fun ls hl => ?_)
        refine lv_aload_n hx hb d_Mo_pokeFour_53 rfl (lv_at hl 1 rfl) ?_
        refine g_get (ci := 7) (C := R_Mo) (T := F_Mo) (Nf := 16) (v := .ref (ad (q + 4))) hx hb hA in_Mo hown hK hP (k := q) (by omega) fa2 rfl 4 (by decide) (hA _ aw_564) (fun _ h9 => h9) rfl d_Mo_pokeFour_54 ?_
        refine lv_sipush (v := (1024 : Int32)) hx hb d_Mo_pokeFour_57 (by decide) ?_
        refine lv_iload hx hb d_Mo_pokeFour_60 (lv_at hl 0 rfl) ?_
        refine lv_imul hx hb d_Mo_pokeFour_62 ?_
        refine lv_iload_n hx hb d_Mo_pokeFour_63 rfl (lv_at hl 2 rfl) ?_
        refine lv_iadd hx hb d_Mo_pokeFour_64 ?_
        refine lv_iload_n hx hb d_Mo_pokeFour_65 rfl (lv_at hl 4 rfl) ?_
        refine lv_iadd hx hb d_Mo_pokeFour_66 ?_
        refine lv_aload_n hx hb d_Mo_pokeFour_67 rfl (lv_at hl 1 rfl) ?_
        refine g_get (ci := 7) (C := R_Mo) (T := F_Mo) (Nf := 16) (v := .ref (ad (q + 1))) hx hb hA in_Mo hown hK hP (k := q) (by omega) fa2 rfl 1 (by decide) (hA _ aw_561) (fun _ h9 => h9) rfl d_Mo_pokeFour_68 ?_
        refine lv_iload hx hb d_Mo_pokeFour_71 (lv_at hl 0 rfl) ?_
        obtain ⟨hn8, fa9⟩ := hL1
        refine g_iald hx hb hK hP (k := (q + 1)) (by omega) fa9 rfl (ho.2.1 hc3) d_Mo_pokeFour_73 ?_
        refine lv_isub hx hb d_Mo_pokeFour_74 ?_
        refine lv_iload_n hx hb d_Mo_pokeFour_75 rfl (lv_at hl 3 rfl) ?_
        refine lv_bipush (v := (8 : Int32)) hx hb d_Mo_pokeFour_76 (by decide) ?_
        refine lv_iload_n hx hb d_Mo_pokeFour_78 rfl (lv_at hl 4 rfl) ?_
        refine lv_imul hx hb d_Mo_pokeFour_79 ?_
        refine lv_ishr hx hb d_Mo_pokeFour_80 ?_
        refine lv_i2b hx hb d_Mo_pokeFour_81 rfl ?_
        obtain ⟨hn10, fa11⟩ := hL3
        refine g_bast hx hb hK hP hS (k := (q + 4)) (by omega) fa11 rfl (ho.2.2.1 hc3) d_Mo_pokeFour_82 (fun H locs w2 fa12 e2 hP hS => ?_)
        have fa13 := (e2 q (by omega)).trans fa2
        have fa14 := (e2 (q + 1) (by omega)).trans fa9
        have at15 := cd_IaAt_keep hL2 (fun k h1 h2 => e2 k (by omega))
        have at16 := cd_IaAt_keep hL4 (fun k h1 h2 => e2 k (by omega))
        refine lv_iinc (k := 4) (v := (x3 + (1 : Int32))) (lv' := [(3, .int (x3 + (1 : Int32))), (4, .int (f_Mo_within S'.1 ma ms mr (0 : Int32) (k0.toInt64 + x3.toInt64))), (0, .ref (ad q)), (1, .int k0), (2, .int k1)]) hx hb d_Mo_pokeFour_83 hl rfl (cd_inc _ _ _ (by decide)) (by decide) rfl (fun ls hl => ?_)
        refine lv_goto (tgt := 36) hx hb d_Mo_pokeFour_86 (by decide) ?_
        exact ih (x3 + (1 : Int32)) (S'.1, (upd S'.2 (((((1024 : Int32) * (f_Mo_within S'.1 ma ms mr (0 : Int32) (k0.toInt64 + x3.toInt64))) + k0) + x3) - (ma (f_Mo_within S'.1 ma ms mr (0 : Int32) (k0.toInt64 + x3.toInt64)).toNatClampNeg)).toNatClampNeg (vp_nar .byte ((k1 >>> (((8 : Int32) * x3) &&& 31)).toInt8.toInt32)))) w2 (fun k hk => ((e2 k (by omega)).trans (efr k (by omega)))) H locs ls (lv_sub hl [2, 3, 4, 0] rfl) (show (f_Mo_pokeFour S ma ms mr k0 k1) = f_Mo_pokeFour_L36 S ma ms mr k0 k1 gn (x3 + (1 : Int32)) (S'.1, (upd S'.2 (((((1024 : Int32) * (f_Mo_within S'.1 ma ms mr (0 : Int32) (k0.toInt64 + x3.toInt64))) + k0) + x3) - (ma (f_Mo_within S'.1 ma ms mr (0 : Int32) (k0.toInt64 + x3.toInt64)).toNatClampNeg)).toNatClampNeg (vp_nar .byte ((k1 >>> (((8 : Int32) * x3) &&& 31)).toInt8.toInt32)))) by rw [he, f_Mo_pokeFour_L36, if_neg hc3]) (⟨hn1, fa13⟩) (⟨hn8, fa14⟩) at15 (⟨hn10, fa12⟩) at16 hP hS (ho.2.2.2 hc3)
  have L7 : ∀ (gn : Nat) (x3 : Int32) (S' : cd_Mo × cd_By) (w : Nat → va_E) (efr : ∀ k : Nat, (k < q ∨ q + 1 ≤ k) ∧ (k < (q + 4) ∨ (q + 4) + 1 ≤ k) → w k = w0 k) (H : Heap) (locs : List Loc) (ls : Array Slot), lv_has ls 5 [(0, .ref (ad q)), (1, .int k0), (2, .int k1), (3, .int x3)] → (f_Mo_pokeFour S ma ms mr k0 k1) = f_Mo_pokeFour_L7 S ma ms mr k0 k1 gn x3 S' → cd_MoAt N tt ad w q S'.1 → cd_IaAt N tt ad w (q + 1) 18 ma → cd_IaAt N tt ad w (q + 2) 18 ms → cd_ByAt N tt ad w (q + 4) 18432 S'.2 → cd_IaAt N tt ad w (q + 5) 3 mr → cd_P D ad N A w H → va_S A s.heap H locs → o_Mo_pokeFour_L7 S ma ms mr k0 k1 gn x3 S' → W p l e (headSpec w_Mo_pokeFour ({ frames := 1, cells := 0, slots := 0, locals := 24 })).room s m [.ref (ad q), .int k0, .int k1].toArray below meth c H locs 0 0 (MQ below (va_Qi (fun r w' => (f_Mo_pokeFour S ma ms mr k0 k1).1 = r ∧ (r = 0 ∨ r = 1) ∧ cd_MoAt N tt ad w' q ((f_Mo_pokeFour S ma ms mr k0 k1).2.1) ∧ cd_ByAt N tt ad w' (q + 4) 18432 ((f_Mo_pokeFour S ma ms mr k0 k1).2.2) ∧ (∀ k : Nat, (k < q ∨ q + 1 ≤ k) ∧ (k < (q + 4) ∨ (q + 4) + 1 ≤ k) → w' k = w0 k)) (fun w' t => cd_P D ad N A w' t.heap) A) [.ref (ad q), .int k0, .int k1].toArray s 0 0 A) (F0 m 7 ls []) := by
    intro gn
    induction gn with
    | zero => intro x3 S' w efr H locs ls hl he hL0 hL1 hL2 hL3 hL4 hP hS ho; exact ho.elim
    | succ gn ih =>
      intro x3 S' w efr H locs ls hl he hL0 hL1 hL2 hL3 hL4 hP hS ho
      have ho : ((4 : Int32) ≤ x3 → o_Mo_pokeFour_L36 S ma ms mr k0 k1 5 (0 : Int32) S') ∧ (¬ (4 : Int32) ≤ x3 → o_Mo_within S'.1 ma ms mr (0 : Int32) (k0.toInt64 + x3.toInt64)) ∧ (¬ (4 : Int32) ≤ x3 → ¬ (f_Mo_within S'.1 ma ms mr (0 : Int32) (k0.toInt64 + x3.toInt64)) = (-1 : Int32) → o_Mo_pokeFour_L7 S ma ms mr k0 k1 gn (x3 + (1 : Int32)) S') := ho
      obtain ⟨hn17, fa18⟩ := hL0
      refine lv_iload_n hx hb d_Mo_pokeFour_7 rfl (lv_at hl 3 rfl) ?_
      refine lv_iconst (v := (4 : Int32)) hx hb d_Mo_pokeFour_8 (by decide) ?_
      refine lv_icmp_ge (tgt := 34) hx hb d_Mo_pokeFour_9 (by decide) (fun hc19 => ?_) (fun hc19 => ?_)
      · refine lv_iconst (v := (0 : Int32)) hx hb d_Mo_pokeFour_34 (by decide) ?_
        refine lv_istore_n (lv' := [(3, .int (0 : Int32)), (0, .ref (ad q)), (1, .int k0), (2, .int k1)]) hx hb d_Mo_pokeFour_35 rfl hl (by decide) rfl (fun ls hl => ?_)
        exact L36 5 (0 : Int32) S' w (fun k hk => (efr k (by omega))) H locs ls (lv_sub hl [1, 2, 3, 0] rfl) (show (f_Mo_pokeFour S ma ms mr k0 k1) = f_Mo_pokeFour_L36 S ma ms mr k0 k1 5 (0 : Int32) S' by rw [he, f_Mo_pokeFour_L7, if_pos hc19]) (⟨hn17, fa18⟩) hL1 hL2 hL3 hL4 hP hS (ho.1 hc19)
      · refine lv_aload_n hx hb d_Mo_pokeFour_12 rfl (lv_at hl 0 rfl) ?_
        refine lv_iconst (v := (0 : Int32)) hx hb d_Mo_pokeFour_13 (by decide) ?_
        refine lv_iload_n hx hb d_Mo_pokeFour_14 rfl (lv_at hl 1 rfl) ?_
        refine lv_i2l hx hb d_Mo_pokeFour_15 rfl ?_
        refine lv_iload_n hx hb d_Mo_pokeFour_16 rfl (lv_at hl 3 rfl) ?_
        refine lv_i2l hx hb d_Mo_pokeFour_17 rfl ?_
        refine lv_ladd hx hb d_Mo_pokeFour_18 ?_
        refine va_calli (va_runV (As := [.int (0 : Int32), .long (k0.toInt64 + x3.toInt64)]) (rest := []) ⟨hx, hb, hml, hown, hA⟩ (c_Mo_within l D tt ad N A zs w q S'.1 ma ms mr (0 : Int32) (k0.toInt64 + x3.toInt64) (⟨hn17, fa18⟩) hL1 hL2 hL4 (ho.2.1 hc19)) (cwV 2 hA (cd_gV aw_601 aw_602 aw_784 aw_8 aw_603) rfl rfl rfl ⟨rfl, by decide, by decide, by decide +kernel⟩ ⟨Nat.le_of_ble_eq_true rfl, Nat.le_of_ble_eq_true rfl⟩) ⟨cd_blind, cd_recv hK hP (k := q) (by omega) fa18 rfl, fun U hU hW => ⟨rfl, cd_pre hK hP hZ hS U hU hW⟩⟩ rfl rfl hl.1 rfl (lv_room (Nat.le_of_ble_eq_true rfl)) d_Mo_pokeFour_19 ⟨Nat.zero_le _, Nat.zero_le _⟩) hS (fun _ _ h => h) (fun _ h => h) (fun r20 w3 tE H locs ht hvm hr21 hP hz1 hk1 hS => ?_)
        have hP := cd_Pf ht hP
        obtain ⟨rfl, rfl⟩ := hr21
        refine lv_iconst (v := (-1 : Int32)) hx hb d_Mo_pokeFour_22 (by decide) ?_
        refine lv_icmp_ne (tgt := 28) hx hb d_Mo_pokeFour_23 (by decide) (fun hc23 => ?_) (fun hc23 => ?_)
        · refine lv_iinc (k := 3) (v := (x3 + (1 : Int32))) (lv' := [(3, .int (x3 + (1 : Int32))), (0, .ref (ad q)), (1, .int k0), (2, .int k1)]) hx hb d_Mo_pokeFour_28 hl rfl (cd_inc _ _ _ (by decide)) (by decide) rfl (fun ls hl => ?_)
          refine lv_goto (tgt := 7) hx hb d_Mo_pokeFour_31 (by decide) ?_
          exact ih (x3 + (1 : Int32)) S' w (fun k hk => (efr k (by omega))) H locs ls (lv_sub hl [1, 2, 3, 0] rfl) (show (f_Mo_pokeFour S ma ms mr k0 k1) = f_Mo_pokeFour_L7 S ma ms mr k0 k1 gn (x3 + (1 : Int32)) S' by rw [he, f_Mo_pokeFour_L7, if_neg hc19, if_neg hc23]) (⟨hn17, fa18⟩) hL1 hL2 hL3 hL4 hP hS (ho.2.2 hc19 hc23)
        · refine lv_iconst (v := (0 : Int32)) hx hb d_Mo_pokeFour_26 (by decide) ?_
          have hf24 : (f_Mo_pokeFour S ma ms mr k0 k1) = ((0 : Int32), S'.1, S'.2) := by rw [he, f_Mo_pokeFour_L7, if_neg hc19, if_pos hc23]
          exact W.zret (ty := .boolean) (v := (0 : Int32)) hx hb hr rfl (fun tE ht _ => ⟨⟨_, w, rfl, ⟨(by rw [hf24]), (Or.inl rfl), (by rw [hf24]; exact ⟨hn17, fa18⟩), (by rw [hf24]; exact hL3), (fun k hk => (efr k (by omega)))⟩, cd_Pt ht hP⟩, hS.F ht⟩) hS.2.2 d_Mo_pokeFour_27
  have hS : va_S A s.heap s.heap [] := va_S.rf
  have hl := lv_entry ([.ref (ad q), .int k0, .int k1]) (n := 5) (Nat.le_of_ble_eq_true rfl)
  rw [lg_entry_eq]
  generalize (lg_sl ([.ref (ad q), .int k0, .int k1]) ++ List.replicate (5 - (lg_sl ([.ref (ad q), .int k0, .int k1])).length) Slot.unset).toArray = ls at hl ⊢
  have hl : lv_has ls 5 [(0, .ref (ad q)), (1, .int k0), (2, .int k1)] := hl
  have ho : (o_Mo_pokeFour_L7 S ma ms mr k0 k1 5 (0 : Int32) (((0 : Int32), S.1.2.1, S.1.2.2.1, S.1.2.2.2.1, S.1.2.2.2.2.1, S.1.2.2.2.2.2), S.2)) := ho
  obtain ⟨hn25, fa26⟩ := hR0
  refine lv_aload_n hx hb d_Mo_pokeFour_0 rfl (lv_at hl 0 rfl) ?_
  refine lv_iconst (v := (0 : Int32)) hx hb d_Mo_pokeFour_1 (by decide) ?_
  refine g_put (ci := 7) (C := R_Mo) (T := F_Mo) (Nf := 16) (v := .int (0 : Int32)) (ty := .int) hx hb hA in_Mo t_Mo t_Mo_ok n_Mo hown hK hP hS (k := q) (by omega) fa26 rfl 0 (by decide) (hA _ aw_560) (fun _ h9 => h9) rfl (by decide +kernel) rfl rfl (Nat.le_of_ble_eq_true rfl) d_Mo_pokeFour_2 (fun H locs w4 fa27 e4 hP hS => ?_)
  have fa27 : w4 q = .inr (7, [.int (0 : Int32), .ref (ad (q + 1)), .ref (ad (q + 2)), .ref (ad (q + 3)), .ref (ad (q + 4)), .ref (ad (q + 5)), .ref (ad (q + 6)), .ref (ad (q + 7)), .ref (ad (q + 8)), .ref (ad (q + 9)), .int S.1.2.1, .ref (ad (q + 10)), .int S.1.2.2.1, .int S.1.2.2.2.1, .int S.1.2.2.2.2.1, .int S.1.2.2.2.2.2]) := fa27
  have at28 := cd_IaAt_keep hR1 (fun k h1 h2 => e4 k (by omega))
  have at29 := cd_IaAt_keep hR2 (fun k h1 h2 => e4 k (by omega))
  have at30 := cd_ByAt_keep hR3 (fun k h1 h2 => e4 k (by omega))
  have at31 := cd_IaAt_keep hR4 (fun k h1 h2 => e4 k (by omega))
  refine lv_iconst (v := (0 : Int32)) hx hb d_Mo_pokeFour_5 (by decide) ?_
  refine lv_istore_n (lv' := [(3, .int (0 : Int32)), (0, .ref (ad q)), (1, .int k0), (2, .int k1)]) hx hb d_Mo_pokeFour_6 rfl hl (by decide) rfl (fun ls hl => ?_)
  exact L7 5 (0 : Int32) (((0 : Int32), S.1.2.1, S.1.2.2.1, S.1.2.2.2.1, S.1.2.2.2.2.1, S.1.2.2.2.2.2), S.2) w4 (fun k hk => (e4 k (by omega))) H locs ls (lv_sub hl [1, 2, 3, 0] rfl) (show (f_Mo_pokeFour S ma ms mr k0 k1) = f_Mo_pokeFour_L7 S ma ms mr k0 k1 5 (0 : Int32) (((0 : Int32), S.1.2.1, S.1.2.2.1, S.1.2.2.2.1, S.1.2.2.2.2.1, S.1.2.2.2.2.2), S.2) by rw [f_Mo_pokeFour]) (⟨hn25, fa27⟩) at28 at29 at30 at31 hP hS (ho)
