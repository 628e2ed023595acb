def f_Mo_hasId_L7 (u : cd_Mo) (mt : cd_Ia) (mi : cd_Ia) (k0 : Int32) (k1 : Int32) : Nat → Int32 → Int32 → Int32
  | 0, _, _ => default
  | gn + 1, x3, x4 => (if (((3 : Int32) * k0) + (mt k0.toNatClampNeg)) ≤ x4 then x3 else (if x3 = 0 then (if (mi x4.toNatClampNeg) = k1 then (f_Mo_hasId_L7 u mt mi k0 k1 gn (1 : Int32) (x4 + (1 : Int32))) else (f_Mo_hasId_L7 u mt mi k0 k1 gn (0 : Int32) (x4 + (1 : Int32)))) else (f_Mo_hasId_L7 u mt mi k0 k1 gn (1 : Int32) (x4 + (1 : Int32)))))
def f_Mo_hasId (u : cd_Mo) (mt : cd_Ia) (mi : cd_Ia) (k0 : Int32) (k1 : Int32) : Int32 := (f_Mo_hasId_L7 u mt mi k0 k1 4 (0 : Int32) ((3 : Int32) * k0))
def o_Mo_hasId_L7 (u : cd_Mo) (mt : cd_Ia) (mi : cd_Ia) (k0 : Int32) (k1 : Int32) : Nat → Int32 → Int32 → Prop
  | 0, _, _ => False
  | gn + 1, x3, x4 => (vp_in k0 3) ∧ (¬ (((3 : Int32) * k0) + (mt k0.toNatClampNeg)) ≤ x4 → ¬ x3 = 0 → o_Mo_hasId_L7 u mt mi k0 k1 gn (1 : Int32) (x4 + (1 : Int32))) ∧ (¬ (((3 : Int32) * k0) + (mt k0.toNatClampNeg)) ≤ x4 → x3 = 0 → vp_in x4 9) ∧ (¬ (((3 : Int32) * k0) + (mt k0.toNatClampNeg)) ≤ x4 → x3 = 0 → ¬ (mi x4.toNatClampNeg) = k1 → o_Mo_hasId_L7 u mt mi k0 k1 gn (0 : Int32) (x4 + (1 : Int32))) ∧ (¬ (((3 : Int32) * k0) + (mt k0.toNatClampNeg)) ≤ x4 → x3 = 0 → (mi x4.toNatClampNeg) = k1 → o_Mo_hasId_L7 u mt mi k0 k1 gn (1 : Int32) (x4 + (1 : Int32)))
def o_Mo_hasId (u : cd_Mo) (mt : cd_Ia) (mi : cd_Ia) (k0 : Int32) (k1 : Int32) : Prop := (o_Mo_hasId_L7 u mt mi k0 k1 4 (0 : Int32) ((3 : Int32) * k0))
set_option maxHeartbeats 4000000 in
set_option maxRecDepth 100000 in
theorem c_Mo_hasId (l : Launch) (D : va_G) (tt : Nat → ClassId) (ad : Nat → Nat) (N : Nat) (A : Nat → Prop) (zs : Nat → Nat) (w0 : Nat → va_E) (q : Nat) (u : cd_Mo) (mt : cd_Ia) (mi : cd_Ia) (k0 : Int32) (k1 : Int32) (hR0 : cd_MoAt N tt ad w0 q u) (hR1 : cd_IaAt N tt ad w0 (q + 6) 3 mt) (hR2 : cd_IaAt N tt ad w0 (q + 7) 9 mi) (ho : o_Mo_hasId u mt mi k0 k1) : Met l y_Mo_hasId w_Mo_hasId ({ frames := 0, cells := 0, slots := 0, locals := 0 }) (va_Pc [.ref (ad q), .int k0, .int k1] (cd_U D tt ad N A zs w0)) (va_Qi (fun r w' => (f_Mo_hasId u mt mi k0 k1) = r ∧ (r = 0 ∨ r = 1) ∧ w0 = w') (fun w' t => cd_P D ad N A w' t.heap) A) 0 0 A := by
  refine Met.ofW (cc := b_Mo_hasId) (maxL := 5) (ret := (some .boolean)) (by decide) rfl ?_
  intro p e s m args below meth c s₁ B hml hv
  obtain ⟨rfl, hP, hK, hZ⟩ := hv
  have hx := B.exec
  have hb := B.bytes
  have hr := B.returns
  have hA : ∀ w ∈ cd_AW, w.before _ s = true := fun w h => atoms_spec (ws := w_Mo_hasId) B.pre w (List.mem_cons_of_mem _ h)
  have hown : s.vm.findClass R_Mo = some m.cls := findClass_of_methodNamed B.named
  have hlocks := B.notSynchronized
  have L7 : ∀ (gn : Nat) (x3 : Int32) (x4 : Int32) (H : Heap) (locs : List Loc) (ls : Array Slot), lv_has ls 5 [(0, .ref (ad q)), (1, .int k0), (2, .int k1), (3, .int x3), (4, .int x4)] → (f_Mo_hasId u mt mi k0 k1) = f_Mo_hasId_L7 u mt mi k0 k1 gn x3 x4 → cd_MoAt N tt ad w0 q u → cd_IaAt N tt ad w0 (q + 6) 3 mt → cd_IaAt N tt ad w0 (q + 7) 9 mi → (x3 = 0 ∨ x3 = 1) → cd_P D ad N A w0 H → va_S A s.heap H locs → o_Mo_hasId_L7 u mt mi k0 k1 gn x3 x4 → W p l e (headSpec w_Mo_hasId ({ frames := 0, cells := 0, slots := 0, locals := 0 })).room s m [.ref (ad q), .int k0, .int k1].toArray below meth c H locs 0 0 (MQ below (va_Qi (fun r w' => (f_Mo_hasId u mt mi k0 k1) = r ∧ (r = 0 ∨ r = 1) ∧ w0 = w') (fun w' t => cd_P D ad N A w' t.heap) A) [.ref (ad q), .int k0, .int k1].toArray s 0 0 A) (F0 m 7 ls []) := by
    intro gn
    induction gn with
    | zero => intro x3 x4 H locs ls hl he hL0 hL1 hL2 hbv_x3 hP hS ho; exact ho.elim
    | succ gn ih =>
      intro x3 x4 H locs ls hl he hL0 hL1 hL2 hbv_x3 hP hS ho
      have ho : (vp_in k0 3) ∧ (¬ (((3 : Int32) * k0) + (mt k0.toNatClampNeg)) ≤ x4 → ¬ x3 = 0 → o_Mo_hasId_L7 u mt mi k0 k1 gn (1 : Int32) (x4 + (1 : Int32))) ∧ (¬ (((3 : Int32) * k0) + (mt k0.toNatClampNeg)) ≤ x4 → x3 = 0 → vp_in x4 9) ∧ (¬ (((3 : Int32) * k0) + (mt k0.toNatClampNeg)) ≤ x4 → x3 = 0 → ¬ (mi x4.toNatClampNeg) = k1 → o_Mo_hasId_L7 u mt mi k0 k1 gn (0 : Int32) (x4 + (1 : Int32))) ∧ (¬ (((3 : Int32) * k0) + (mt k0.toNatClampNeg)) ≤ x4 → x3 = 0 → (mi x4.toNatClampNeg) = k1 → o_Mo_hasId_L7 u mt mi k0 k1 gn (1 : Int32) (x4 + (1 : Int32))) := ho
      obtain ⟨hn1, fa2⟩ := hL0
      refine lv_iload hx hb d_Mo_hasId_7 (lv_at hl 4 rfl) ?_
      refine lv_iconst (v := (3 : Int32)) hx hb d_Mo_hasId_9 (by decide) ?_
      refine lv_iload_n hx hb d_Mo_hasId_10 rfl (lv_at hl 1 rfl) ?_
      refine lv_imul hx hb d_Mo_hasId_11 ?_
      refine lv_aload_n hx hb d_Mo_hasId_12 rfl (lv_at hl 0 rfl) ?_
      refine g_get (ci := 7) (C := R_Mo) (T := F_Mo) (Nf := 16) (v := .ref (ad (q + 6))) hx hb hA in_Mo hown hK hP (k := q) (by omega) fa2 rfl 6 (by decide) (hA _ aw_566) (fun _ h9 => h9) rfl d_Mo_hasId_13 ?_
      refine lv_iload_n hx hb d_Mo_hasId_16 rfl (lv_at hl 1 rfl) ?_
      obtain ⟨hn3, fa4⟩ := hL1
      refine g_iald hx hb hK hP (k := (q + 6)) (by omega) fa4 rfl (ho.1) d_Mo_hasId_17 ?_
      refine lv_iadd hx hb d_Mo_hasId_18 ?_
      refine lv_icmp_ge (tgt := 49) hx hb d_Mo_hasId_19 (by decide) (fun hc5 => ?_) (fun hc5 => ?_)
      · refine lv_iload_n hx hb d_Mo_hasId_49 rfl (lv_at hl 3 rfl) ?_
        have hf6 : (f_Mo_hasId u mt mi k0 k1) = x3 := by rw [he, f_Mo_hasId_L7, if_pos hc5]
        exact W.zret (ty := .boolean) (v := x3) hx hb hr (cd_nb hbv_x3) (fun tE ht _ => ⟨⟨_, w0, rfl, ⟨hf6, hbv_x3, rfl⟩, cd_Pt ht hP⟩, hS.F ht⟩) hS.2.2 d_Mo_hasId_50
      · refine lv_iload_n hx hb d_Mo_hasId_22 rfl (lv_at hl 3 rfl) ?_
        refine lv_if_ne (tgt := 37) hx hb d_Mo_hasId_23 (by decide) (fun hc7 => ?_) (fun hc7 => ?_)
        · refine lv_iconst (v := (1 : Int32)) hx hb d_Mo_hasId_37 (by decide) ?_
          refine lv_goto (tgt := 42) hx hb d_Mo_hasId_38 (by decide) ?_
          refine lv_istore_n (lv' := [(3, .int (1 : Int32)), (0, .ref (ad q)), (1, .int k0), (2, .int k1), (4, .int x4)]) hx hb d_Mo_hasId_42 rfl hl (by decide) rfl (fun ls hl => ?_)
          refine lv_iinc (k := 4) (v := (x4 + (1 : Int32))) (lv' := [(4, .int (x4 + (1 : Int32))), (3, .int (1 : Int32)), (0, .ref (ad q)), (1, .int k0), (2, .int k1)]) hx hb d_Mo_hasId_43 hl rfl (cd_inc _ _ _ (by decide)) (by decide) rfl (fun ls hl => ?_)
          refine lv_goto (tgt := 7) hx hb d_Mo_hasId_46 (by decide) ?_
          exact ih (1 : Int32) (x4 + (1 : Int32)) H locs ls (lv_sub hl [2, 3, 4, 1, 0] rfl) (show (f_Mo_hasId u mt mi k0 k1) = f_Mo_hasId_L7 u mt mi k0 k1 gn (1 : Int32) (x4 + (1 : Int32)) by rw [he, f_Mo_hasId_L7, if_neg hc5, if_neg hc7]) (⟨hn1, fa2⟩) (⟨hn3, fa4⟩) hL2 (Or.inr rfl) hP hS (ho.2.1 hc5 hc7)
        · refine lv_aload_n hx hb d_Mo_hasId_26 rfl (lv_at hl 0 rfl) ?_
          refine g_get (ci := 7) (C := R_Mo) (T := F_Mo) (Nf := 16) (v := .ref (ad (q + 7))) hx hb hA in_Mo hown hK hP (k := q) (by omega) fa2 rfl 7 (by decide) (hA _ aw_567) (fun _ h9 => h9) rfl d_Mo_hasId_27 ?_
          refine lv_iload hx hb d_Mo_hasId_30 (lv_at hl 4 rfl) ?_
          obtain ⟨hn8, fa9⟩ := hL2
          refine g_iald hx hb hK hP (k := (q + 7)) (by omega) fa9 rfl (ho.2.2.1 hc5 hc7) d_Mo_hasId_32 ?_
          refine lv_iload_n hx hb d_Mo_hasId_33 rfl (lv_at hl 2 rfl) ?_
          refine lv_icmp_ne (tgt := 41) hx hb d_Mo_hasId_34 (by decide) (fun hc10 => ?_) (fun hc10 => ?_)
          · refine lv_iconst (v := (0 : Int32)) hx hb d_Mo_hasId_41 (by decide) ?_
            refine lv_istore_n (lv' := [(3, .int (0 : Int32)), (0, .ref (ad q)), (1, .int k0), (2, .int k1), (4, .int x4)]) hx hb d_Mo_hasId_42 rfl hl (by decide) rfl (fun ls hl => ?_)
            refine lv_iinc (k := 4) (v := (x4 + (1 : Int32))) (lv' := [(4, .int (x4 + (1 : Int32))), (3, .int (0 : Int32)), (0, .ref (ad q)), (1, .int k0), (2, .int k1)]) hx hb d_Mo_hasId_43 hl rfl (cd_inc _ _ _ (by decide)) (by decide) rfl (fun ls hl => ?_)
            refine lv_goto (tgt := 7) hx hb d_Mo_hasId_46 (by decide) ?_
            exact ih (0 : Int32) (x4 + (1 : Int32)) H locs ls (lv_sub hl [2, 3, 4, 1, 0] rfl) (show (f_Mo_hasId u mt mi k0 k1) = f_Mo_hasId_L7 u mt mi k0 k1 gn (0 : Int32) (x4 + (1 : Int32)) by rw [he, f_Mo_hasId_L7, if_neg hc5, if_pos hc7, if_neg hc10]) (⟨hn1, fa2⟩) (⟨hn3, fa4⟩) (⟨hn8, fa9⟩) (Or.inl rfl) hP hS (ho.2.2.2.1 hc5 hc7 hc10)
          · refine lv_iconst (v := (1 : Int32)) hx hb d_Mo_hasId_37 (by decide) ?_
            refine lv_goto (tgt := 42) hx hb d_Mo_hasId_38 (by decide) ?_
            refine lv_istore_n (lv' := [(3, .int (1 : Int32)), (0, .ref (ad q)), (1, .int k0), (2, .int k1), (4, .int x4)]) hx hb d_Mo_hasId_42 rfl hl (by decide) rfl (fun ls hl => ?_)
            refine lv_iinc (k := 4) (v := (x4 + (1 : Int32))) (lv' := [(4, .int (x4 + (1 : Int32))), (3, .int (1 : Int32)), (0, .ref (ad q)), (1, .int k0), (2, .int k1)]) hx hb d_Mo_hasId_43 hl rfl (cd_inc _ _ _ (by decide)) (by decide) rfl (fun ls hl => ?_)
            refine lv_goto (tgt := 7) hx hb d_Mo_hasId_46 (by decide) ?_
            exact ih (1 : Int32) (x4 + (1 : Int32)) H locs ls (lv_sub hl [2, 3, 4, 1, 0] rfl) (show (f_Mo_hasId u mt mi k0 k1) = f_Mo_hasId_L7 u mt mi k0 k1 gn (1 : Int32) (x4 + (1 : Int32)) by rw [he, f_Mo_hasId_L7, if_neg hc5, if_pos hc7, if_pos hc10]) (⟨hn1, fa2⟩) (⟨hn3, fa4⟩) (⟨hn8, fa9⟩) (Or.inr rfl) hP hS (ho.2.2.2.2 hc5 hc7 hc10)
  have hS : va_S A s.heap s.heap [] := va_S.rf
  have hl := lv_entry ([.ref (ad q), .int k0, .int k1]) (n := 5) (Nat.le_of_ble_eq_true rfl)
  rw [lg_entry_eq]
  generalize (lg_sl ([.ref (ad q), .int k0, .int k1]) ++ List.replicate (5 - (lg_sl ([.ref (ad q), .int k0, .int k1])).length) Slot.unset).toArray = ls at hl ⊢
  have hl : lv_has ls 5 [(0, .ref (ad q)), (1, .int k0), (2, .int k1)] := hl
  have ho : (o_Mo_hasId_L7 u mt mi k0 k1 4 (0 : Int32) ((3 : Int32) * k0)) := ho
  obtain ⟨hn11, fa12⟩ := hR0
  refine lv_iconst (v := (0 : Int32)) hx hb d_Mo_hasId_0 (by decide) ?_
  refine lv_istore_n (lv' := [(3, .int (0 : Int32)), (0, .ref (ad q)), (1, .int k0), (2, .int k1)]) hx hb d_Mo_hasId_1 rfl hl (by decide) rfl (fun ls hl => ?_)
  refine lv_iconst (v := (3 : Int32)) hx hb d_Mo_hasId_2 (by decide) ?_
  refine lv_iload_n hx hb d_Mo_hasId_3 rfl (lv_at hl 2 rfl) ?_
  refine lv_imul hx hb d_Mo_hasId_4 ?_
  refine lv_istore (lv' := [(4, .int ((3 : Int32) * k0)), (3, .int (0 : Int32)), (0, .ref (ad q)), (1, .int k0), (2, .int k1)]) hx hb d_Mo_hasId_5 hl (by decide) rfl (fun ls hl => ?_)
  exact L7 4 (0 : Int32) ((3 : Int32) * k0) s.heap [] ls (lv_sub hl [2, 3, 4, 1, 0] rfl) (show (f_Mo_hasId u mt mi k0 k1) = f_Mo_hasId_L7 u mt mi k0 k1 4 (0 : Int32) ((3 : Int32) * k0) by rw [f_Mo_hasId]) (⟨hn11, fa12⟩) hR1 hR2 (Or.inl rfl) hP hS (ho)
def f_Mo_thread_L40 (S : cd_Mo × cd_Ia × cd_Ia × cd_Ia) (k0 : Int32) : Nat → Int32 → (cd_Mo × cd_Ia × cd_Ia × cd_Ia) → Int32 × cd_Mo × cd_Ia × cd_Ia × cd_Ia
  | 0, _, _ => default
  | gn + 1, x2, S' => (if (8 : Int32) ≤ x2 then ((((upd S'.2.1 (0 : Int32).toNatClampNeg ((S'.2.1 (0 : Int32).toNatClampNeg) + (1 : Int32))) (0 : Int32).toNatClampNeg) - (1 : Int32)), S'.1, (upd S'.2.1 (0 : Int32).toNatClampNeg ((S'.2.1 (0 : Int32).toNatClampNeg) + (1 : Int32))), S'.2.2.1, S'.2.2.2) else (f_Mo_thread_L40 S k0 gn (x2 + (1 : Int32)) (S'.1, S'.2.1, S'.2.2.1, (upd S'.2.2.2 (((8 : Int32) * (S'.2.1 (0 : Int32).toNatClampNeg)) + x2).toNatClampNeg (0 : Int32)))))
def f_Mo_thread (S : cd_Mo × cd_Ia × cd_Ia × cd_Ia) (k0 : Int32) : Int32 × cd_Mo × cd_Ia × cd_Ia × cd_Ia := (if (S.2.1 (0 : Int32).toNatClampNeg) = (3 : Int32) then ((-1 : Int32), ((0 : Int32), S.1.2.1, S.1.2.2.1, S.1.2.2.2.1, S.1.2.2.2.2.1, S.1.2.2.2.2.2), S.2.1, S.2.2.1, S.2.2.2) else (if (f_Mo_hasId ((0 : Int32), S.1.2.1, S.1.2.2.1, S.1.2.2.2.1, S.1.2.2.2.2.1, S.1.2.2.2.2.2) S.2.1 S.2.2.1 (0 : Int32) k0) = 0 then (f_Mo_thread_L40 S k0 9 (0 : Int32) (((0 : Int32), S.1.2.1, S.1.2.2.1, S.1.2.2.2.1, S.1.2.2.2.2.1, S.1.2.2.2.2.2), S.2.1, (upd S.2.2.1 (S.2.1 (0 : Int32).toNatClampNeg).toNatClampNeg k0), S.2.2.2)) else ((-1 : Int32), ((0 : Int32), S.1.2.1, S.1.2.2.1, S.1.2.2.2.1, S.1.2.2.2.2.1, S.1.2.2.2.2.2), S.2.1, S.2.2.1, S.2.2.2)))
def o_Mo_thread_L40 (S : cd_Mo × cd_Ia × cd_Ia × cd_Ia) (k0 : Int32) : Nat → Int32 → (cd_Mo × cd_Ia × cd_Ia × cd_Ia) → Prop
  | 0, _, _ => False
  | gn + 1, x2, S' => ((8 : Int32) ≤ x2 → vp_in (0 : Int32) 3) ∧ ((8 : Int32) ≤ x2 → vp_in (0 : Int32) 3) ∧ ((8 : Int32) ≤ x2 → vp_in (0 : Int32) 3) ∧ (¬ (8 : Int32) ≤ x2 → vp_in (0 : Int32) 3) ∧ (¬ (8 : Int32) ≤ x2 → vp_in (((8 : Int32) * (S'.2.1 (0 : Int32).toNatClampNeg)) + x2) 72) ∧ (¬ (8 : Int32) ≤ x2 → o_Mo_thread_L40 S k0 gn (x2 + (1 : Int32)) (S'.1, S'.2.1, S'.2.2.1, (upd S'.2.2.2 (((8 : Int32) * (S'.2.1 (0 : Int32).toNatClampNeg)) + x2).toNatClampNeg (0 : Int32))))
def o_Mo_thread (S : cd_Mo × cd_Ia × cd_Ia × cd_Ia) (k0 : Int32) : Prop := (vp_in (0 : Int32) 3) ∧ (¬ (S.2.1 (0 : Int32).toNatClampNeg) = (3 : Int32) → o_Mo_hasId ((0 : Int32), S.1.2.1, S.1.2.2.1, S.1.2.2.2.1, S.1.2.2.2.2.1, S.1.2.2.2.2.2) S.2.1 S.2.2.1 (0 : Int32) k0) ∧ (¬ (S.2.1 (0 : Int32).toNatClampNeg) = (3 : Int32) → (f_Mo_hasId ((0 : Int32), S.1.2.1, S.1.2.2.1, S.1.2.2.2.1, S.1.2.2.2.2.1, S.1.2.2.2.2.2) S.2.1 S.2.2.1 (0 : Int32) k0) = 0 → vp_in (0 : Int32) 3) ∧ (¬ (S.2.1 (0 : Int32).toNatClampNeg) = (3 : Int32) → (f_Mo_hasId ((0 : Int32), S.1.2.1, S.1.2.2.1, S.1.2.2.2.1, S.1.2.2.2.2.1, S.1.2.2.2.2.2) S.2.1 S.2.2.1 (0 : Int32) k0) = 0 → vp_in (S.2.1 (0 : Int32).toNatClampNeg) 9) ∧ (¬ (S.2.1 (0 : Int32).toNatClampNeg) = (3 : Int32) → (f_Mo_hasId ((0 : Int32), S.1.2.1, S.1.2.2.1, S.1.2.2.2.1, S.1.2.2.2.2.1, S.1.2.2.2.2.2) S.2.1 S.2.2.1 (0 : Int32) k0) = 0 → o_Mo_thread_L40 S k0 9 (0 : Int32) (((0 : Int32), S.1.2.1, S.1.2.2.1, S.1.2.2.2.1, S.1.2.2.2.2.1, S.1.2.2.2.2.2), S.2.1, (upd S.2.2.1 (S.2.1 (0 : Int32).toNatClampNeg).toNatClampNeg k0), S.2.2.2))
set_option maxHeartbeats 4000000 in
set_option maxRecDepth 100000 in
theorem c_Mo_thread (l : Launch) (D : va_G) (tt : Nat → ClassId) (ad : Nat → Nat) (N : Nat) (A : Nat → Prop) (zs : Nat → Nat) (w0 : Nat → va_E) (q : Nat) (S : cd_Mo × cd_Ia × cd_Ia × cd_Ia) (k0 : Int32) (hR0 : cd_MoAt N tt ad w0 q S.1) (hR1 : cd_IaAt N tt ad w0 (q + 6) 3 S.2.1) (hR2 : cd_IaAt N tt ad w0 (q + 7) 9 S.2.2.1) (hR3 : cd_IaAt N tt ad w0 (q + 8) 72 S.2.2.2) (ho : o_Mo_thread S k0) : Met l y_Mo_thread w_Mo_thread ({ frames := 1, cells := 0, slots := 0, locals := 24 }) (va_Pc [.ref (ad q), .int k0] (cd_U D tt ad N A zs w0)) (va_Qi (fun r w' => (f_Mo_thread S k0).1 = r ∧ cd_MoAt N tt ad w' q ((f_Mo_thread S k0).2.1) ∧ cd_IaAt N tt ad w' (q + 6) 3 ((f_Mo_thread S k0).2.2.1) ∧ cd_IaAt N tt ad w' (q + 7) 9 ((f_Mo_thread S k0).2.2.2.1) ∧ cd_IaAt N tt ad w' (q + 8) 72 ((f_Mo_thread S k0).2.2.2.2) ∧ (∀ k : Nat, (k < q ∨ q + 1 ≤ k) ∧ (k < (q + 6) ∨ (q + 6) + 1 ≤ k) ∧ (k < (q + 7) ∨ (q + 7) + 1 ≤ k) ∧ (k < (q + 8) ∨ (q + 8) + 1 ≤ k) → w' k = w0 k)) (fun w' t => cd_P D ad N A w' t.heap) A) 0 0 A := by
  refine Met.ofW (cc := b_Mo_thread) (maxL := 3) (ret := (some .int)) (by decide) rfl ?_
  intro p e s m args below meth c s₁ B hml hv
  obtain ⟨rfl, hP, hK, hZ⟩ := hv
  have hx := B.exec
  have hb := B.bytes
  have hr := B.returns
  have hA : ∀ w ∈ cd_AW, w.before _ s = true := fun w h => atoms_spec (ws := w_Mo_thread) B.pre w (List.mem_cons_of_mem _ h)
  have hown : s.vm.findClass R_Mo = some m.cls := findClass_of_methodNamed B.named
  have hlocks := B.notSynchronized
  have L40 : ∀ (gn : Nat) (x2 : Int32) (S' : cd_Mo × cd_Ia × cd_Ia × cd_Ia) (w : Nat → va_E) (efr : ∀ k : Nat, (k < q ∨ q + 1 ≤ k) ∧ (k < (q + 6) ∨ (q + 6) + 1 ≤ k) ∧ (k < (q + 7) ∨ (q + 7) + 1 ≤ k) ∧ (k < (q + 8) ∨ (q + 8) + 1 ≤ k) → w k = w0 k) (H : Heap) (locs : List Loc) (ls : Array Slot), lv_has ls 3 [(0, .ref (ad q)), (2, .int x2)] → (f_Mo_thread S k0) = f_Mo_thread_L40 S k0 gn x2 S' → cd_MoAt N tt ad w q S'.1 → cd_IaAt N tt ad w (q + 6) 3 S'.2.1 → cd_IaAt N tt ad w (q + 7) 9 S'.2.2.1 → cd_IaAt N tt ad w (q + 8) 72 S'.2.2.2 → cd_P D ad N A w H → va_S A s.heap H locs → o_Mo_thread_L40 S k0 gn x2 S' → W p l e (headSpec w_Mo_thread ({ frames := 1, cells := 0, slots := 0, locals := 24 })).room s m [.ref (ad q), .int k0].toArray below meth c H locs 0 0 (MQ below (va_Qi (fun r w' => (f_Mo_thread S k0).1 = r ∧ cd_MoAt N tt ad w' q ((f_Mo_thread S k0).2.1) ∧ cd_IaAt N tt ad w' (q + 6) 3 ((f_Mo_thread S k0).2.2.1) ∧ cd_IaAt N tt ad w' (q + 7) 9 ((f_Mo_thread S k0).2.2.2.1) ∧ cd_IaAt N tt ad w' (q + 8) 72 ((f_Mo_thread S k0).2.2.2.2) ∧ (∀ k : Nat, (k < q ∨ q + 1 ≤ k) ∧ (k < (q + 6) ∨ (q + 6) + 1 ≤ k) ∧ (k < (q + 7) ∨ (q + 7) + 1 ≤ k) ∧ (k < (q + 8) ∨ (q + 8) + 1 ≤ k) → w' k = w0 k)) (fun w' t => cd_P D ad N A w' t.heap) A) [.ref (ad q), .int k0].toArray s 0 0 A) (F0 m 40 ls []) := by
    intro gn
    induction gn with
    | zero => intro x2 S' w efr H locs ls hl he hL0 hL1 hL2 hL3 hP hS ho; exact ho.elim
    | succ gn ih =>
      intro x2 S' w efr H locs ls hl he hL0 hL1 hL2 hL3 hP hS ho
      have ho : ((8 : Int32) ≤ x2 → vp_in (0 : Int32) 3) ∧ ((8 : Int32) ≤ x2 → vp_in (0 : Int32) 3) ∧ ((8 : Int32) ≤ x2 → vp_in (0 : Int32) 3) ∧ (¬ (8 : Int32) ≤ x2 → vp_in (0 : Int32) 3) ∧ (¬ (8 : Int32) ≤ x2 → vp_in (((8 : Int32) * (S'.2.1 (0 : Int32).toNatClampNeg)) + x2) 72) ∧ (¬ (8 : Int32) ≤ x2 → o_Mo_thread_L40 S k0 gn (x2 + (1 : Int32)) (S'.1, S'.2.1, S'.2.2.1, (upd S'.2.2.2 (((8 : Int32) * (S'.2.1 (0 : Int32).toNatClampNeg)) + x2).toNatClampNeg (0 : Int32)))) := ho
      obtain ⟨hn1, fa2⟩ := hL0
      refine lv_iload_n hx hb d_Mo_thread_40 rfl (lv_at hl 1 rfl) ?_
      refine lv_bipush (v := (8 : Int32)) hx hb d_Mo_thread_41 (by decide) ?_
      refine lv_icmp_ge (tgt := 69) hx hb d_Mo_thread_43 (by decide) (fun hc3 => ?_) (fun hc3 => ?_)
      · refine lv_aload_n hx hb d_Mo_thread_69 rfl (lv_at hl 0 rfl) ?_
        refine g_get (ci := 7) (C := R_Mo) (T := F_Mo) (Nf := 16) (v := .ref (ad (q + 6))) hx hb hA in_Mo hown hK hP (k := q) (by omega) fa2 rfl 6 (by decide) (hA _ aw_566) (fun _ h9 => h9) rfl d_Mo_thread_70 ?_
        refine lv_iconst (v := (0 : Int32)) hx hb d_Mo_thread_73 (by decide) ?_
        refine lv_dup2_11 hx hb d_Mo_thread_74 rfl rfl ?_
        obtain ⟨hn4, fa5⟩ := hL1
        refine g_iald hx hb hK hP (k := (q + 6)) (by omega) fa5 rfl (ho.1 hc3) d_Mo_thread_75 ?_
        refine lv_iconst (v := (1 : Int32)) hx hb d_Mo_thread_76 (by decide) ?_
        refine lv_iadd hx hb d_Mo_thread_77 ?_
        refine g_iast hx hb hK hP hS (k := (q + 6)) (by omega) fa5 rfl (ho.2.1 hc3) d_Mo_thread_78 (fun H locs w1 fa6 e1 hP hS => ?_)
        have fa7 := (e1 q (by omega)).trans fa2
        have at8 := cd_IaAt_keep hL2 (fun k h1 h2 => e1 k (by omega))
        have at9 := cd_IaAt_keep hL3 (fun k h1 h2 => e1 k (by omega))
        refine lv_aload_n hx hb d_Mo_thread_79 rfl (lv_at hl 0 rfl) ?_
        refine g_get (ci := 7) (C := R_Mo) (T := F_Mo) (Nf := 16) (v := .ref (ad (q + 6))) hx hb hA in_Mo hown hK hP (k := q) (by omega) fa7 rfl 6 (by decide) (hA _ aw_566) (fun _ h9 => h9) rfl d_Mo_thread_80 ?_
        refine lv_iconst (v := (0 : Int32)) hx hb d_Mo_thread_83 (by decide) ?_
        refine g_iald hx hb hK hP (k := (q + 6)) (by omega) fa6 rfl (ho.2.2.1 hc3) d_Mo_thread_84 ?_
        refine lv_iconst (v := (1 : Int32)) hx hb d_Mo_thread_85 (by decide) ?_
        refine lv_isub hx hb d_Mo_thread_86 ?_
        have hf10 : (f_Mo_thread S k0) = ((((upd S'.2.1 (0 : Int32).toNatClampNeg ((S'.2.1 (0 : Int32).toNatClampNeg) + (1 : Int32))) (0 : Int32).toNatClampNeg) - (1 : Int32)), S'.1, (upd S'.2.1 (0 : Int32).toNatClampNeg ((S'.2.1 (0 : Int32).toNatClampNeg) + (1 : Int32))), S'.2.2.1, S'.2.2.2) := by rw [he, f_Mo_thread_L40, if_pos hc3]
        exact W.iret (v := (((upd S'.2.1 (0 : Int32).toNatClampNeg ((S'.2.1 (0 : Int32).toNatClampNeg) + (1 : Int32))) (0 : Int32).toNatClampNeg) - (1 : Int32))) hx hb hr (fun tE ht _ => ⟨⟨_, w1, rfl, ⟨(by rw [hf10]), (by rw [hf10]; exact ⟨hn1, fa7⟩), (by rw [hf10]; exact ⟨hn4, fa6⟩), (by rw [hf10]; exact at8), (by rw [hf10]; exact at9), (fun k hk => ((e1 k (by omega)).trans (efr k (by omega))))⟩, cd_Pt ht hP⟩, hS.F ht⟩) hS.2.2 d_Mo_thread_87
      · refine lv_aload_n hx hb d_Mo_thread_46 rfl (lv_at hl 0 rfl) ?_
        refine g_get (ci := 7) (C := R_Mo) (T := F_Mo) (Nf := 16) (v := .ref (ad (q + 8))) hx hb hA in_Mo hown hK hP (k := q) (by omega) fa2 rfl 8 (by decide) (hA _ aw_568) (fun _ h9 => h9) rfl d_Mo_thread_47 ?_
        refine lv_bipush (v := (8 : Int32)) hx hb d_Mo_thread_50 (by decide) ?_
        refine lv_aload_n hx hb d_Mo_thread_52 rfl (lv_at hl 0 rfl) ?_
        refine g_get (ci := 7) (C := R_Mo) (T := F_Mo) (Nf := 16) (v := .ref (ad (q + 6))) hx hb hA in_Mo hown hK hP (k := q) (by omega) fa2 rfl 6 (by decide) (hA _ aw_566) (fun _ h9 => h9) rfl d_Mo_thread_53 ?_
        refine lv_iconst (v := (0 : Int32)) hx hb d_Mo_thread_56 (by decide) ?_
        obtain ⟨hn11, fa12⟩ := hL1
        refine g_iald hx hb hK hP (k := (q + 6)) (by omega) fa12 rfl (ho.2.2.2.1 hc3) d_Mo_thread_57 ?_
        refine lv_imul hx hb d_Mo_thread_58 ?_
        refine lv_iload_n hx hb d_Mo_thread_59 rfl (lv_at hl 1 rfl) ?_
        refine lv_iadd hx hb d_Mo_thread_60 ?_
        refine lv_iconst (v := (0 : Int32)) hx hb d_Mo_thread_61 (by decide) ?_
        obtain ⟨hn13, fa14⟩ := hL3
        refine g_iast hx hb hK hP hS (k := (q + 8)) (by omega) fa14 rfl (ho.2.2.2.2.1 hc3) d_Mo_thread_62 (fun H locs w2 fa15 e2 hP hS => ?_)
        have fa16 := (e2 q (by omega)).trans fa2
        have fa17 := (e2 (q + 6) (by omega)).trans fa12
        have at18 := cd_IaAt_keep hL2 (fun k h1 h2 => e2 k (by omega))
        refine lv_iinc (k := 1) (v := (x2 + (1 : Int32))) (lv' := [(2, .int (x2 + (1 : Int32))), (0, .ref (ad q))]) hx hb d_Mo_thread_63 hl rfl (cd_inc _ _ _ (by decide)) (by decide) rfl (fun ls hl => ?_)
        refine lv_goto (tgt := 40) hx hb d_Mo_thread_66 (by decide) ?_
        exact ih (x2 + (1 : Int32)) (S'.1, S'.2.1, S'.2.2.1, (upd S'.2.2.2 (((8 : Int32) * (S'.2.1 (0 : Int32).toNatClampNeg)) + x2).toNatClampNeg (0 : Int32))) w2 (fun k hk => ((e2 k (by omega)).trans (efr k (by omega)))) H locs ls (lv_sub hl [1, 0] rfl) (show (f_Mo_thread S k0) = f_Mo_thread_L40 S k0 gn (x2 + (1 : Int32)) (S'.1, S'.2.1, S'.2.2.1, (upd S'.2.2.2 (((8 : Int32) * (S'.2.1 (0 : Int32).toNatClampNeg)) + x2).toNatClampNeg (0 : Int32))) by rw [he, f_Mo_thread_L40, if_neg hc3]) (⟨hn1, fa16⟩) (⟨hn11, fa17⟩) at18 (⟨hn13, fa15⟩) hP hS (ho.2.2.2.2.2 hc3)
  have hS : va_S A s.heap s.heap [] := va_S.rf
  have hl := lv_entry ([.ref (ad q), .int k0]) (n := 3) (Nat.le_of_ble_eq_true rfl)
  rw [lg_entry_eq]
  generalize (lg_sl ([.ref (ad q), .int k0]) ++ List.replicate (3 - (lg_sl ([.ref (ad q), .int k0])).length) Slot.unset).toArray = ls at hl ⊢
  have hl : lv_has ls 3 [(0, .ref (ad q)), (1, .int k0)] := hl
  have ho : (vp_in (0 : Int32) 3) ∧ (¬ (S.2.1 (0 : Int32).toNatClampNeg) = (3 : Int32) → o_Mo_hasId ((0 : Int32), S.1.2.1, S.1.2.2.1, S.1.2.2.2.1, S.1.2.2.2.2.1, S.1.2.2.2.2.2) S.2.1 S.2.2.1 (0 : Int32) k0) ∧ (¬ (S.2.1 (0 : Int32).toNatClampNeg) = (3 : Int32) → (f_Mo_hasId ((0 : Int32), S.1.2.1, S.1.2.2.1, S.1.2.2.2.1, S.1.2.2.2.2.1, S.1.2.2.2.2.2) S.2.1 S.2.2.1 (0 : Int32) k0) = 0 → vp_in (0 : Int32) 3) ∧ (¬ (S.2.1 (0 : Int32).toNatClampNeg) = (3 : Int32) → (f_Mo_hasId ((0 : Int32), S.1.2.1, S.1.2.2.1, S.1.2.2.2.1, S.1.2.2.2.2.1, S.1.2.2.2.2.2) S.2.1 S.2.2.1 (0 : Int32) k0) = 0 → vp_in (S.2.1 (0 : Int32).toNatClampNeg) 9) ∧ (¬ (S.2.1 (0 : Int32).toNatClampNeg) = (3 : Int32) → (f_Mo_hasId ((0 : Int32), S.1.2.1, S.1.2.2.1, S.1.2.2.2.1, S.1.2.2.2.2.1, S.1.2.2.2.2.2) S.2.1 S.2.2.1 (0 : Int32) k0) = 0 → o_Mo_thread_L40 S k0 9 (0 : Int32) (((0 : Int32), S.1.2.1, S.1.2.2.1, S.1.2.2.2.1, S.1.2.2.2.2.1, S.1.2.2.2.2.2), S.2.1, (upd S.2.2.1 (S.2.1 (0 : Int32).toNatClampNeg).toNatClampNeg k0), S.2.2.2)) := ho
  obtain ⟨hn19, fa20⟩ := hR0
  refine lv_aload_n hx hb d_Mo_thread_0 rfl (lv_at hl 0 rfl) ?_
  refine lv_iconst (v := (0 : Int32)) hx hb d_Mo_thread_1 (by decide) ?_
  refine g_put (ci := 7) (C := R_Mo) (T := F_Mo) (Nf := 16) (v := .int (0 : Int32)) (ty := .int) hx hb hA in_Mo t_Mo t_Mo_ok n_Mo hown hK hP hS (k := q) (by omega) fa20 rfl 0 (by decide) (hA _ aw_560) (fun _ h9 => h9) rfl (by decide +kernel) rfl rfl (Nat.le_of_ble_eq_true rfl) d_Mo_thread_2 (fun H locs w3 fa21 e3 hP hS => ?_)
  have fa21 : w3 q = .inr (7, [.int (0 : Int32), .ref (ad (q + 1)), .ref (ad (q + 2)), .ref (ad (q + 3)), .ref (ad (q + 4)), .ref (ad (q + 5)), .ref (ad (q + 6)), .ref (ad (q + 7)), .ref (ad (q + 8)), .ref (ad (q + 9)), .int S.1.2.1, .ref (ad (q + 10)), .int S.1.2.2.1, .int S.1.2.2.2.1, .int S.1.2.2.2.2.1, .int S.1.2.2.2.2.2]) := fa21
  have at22 := cd_IaAt_keep hR1 (fun k h1 h2 => e3 k (by omega))
  have at23 := cd_IaAt_keep hR2 (fun k h1 h2 => e3 k (by omega))
  have at24 := cd_IaAt_keep hR3 (fun k h1 h2 => e3 k (by omega))
  refine lv_aload_n hx hb d_Mo_thread_5 rfl (lv_at hl 0 rfl) ?_
  refine g_get (ci := 7) (C := R_Mo) (T := F_Mo) (Nf := 16) (v := .ref (ad (q + 6))) hx hb hA in_Mo hown hK hP (k := q) (by omega) fa21 rfl 6 (by decide) (hA _ aw_566) (fun _ h9 => h9) rfl d_Mo_thread_6 ?_
  refine lv_iconst (v := (0 : Int32)) hx hb d_Mo_thread_9 (by decide) ?_
  obtain ⟨hn25, fa26⟩ := at22
  refine g_iald hx hb hK hP (k := (q + 6)) (by omega) fa26 rfl (ho.1) d_Mo_thread_10 ?_
  refine lv_iconst (v := (3 : Int32)) hx hb d_Mo_thread_11 (by decide) ?_
  refine lv_icmp_eq (tgt := 24) hx hb d_Mo_thread_12 (by decide) (fun hc27 => ?_) (fun hc27 => ?_)
  · refine lv_iconst (v := (-1 : Int32)) hx hb d_Mo_thread_24 (by decide) ?_
    have hf28 : (f_Mo_thread S k0) = ((-1 : Int32), ((0 : Int32), S.1.2.1, S.1.2.2.1, S.1.2.2.2.1, S.1.2.2.2.2.1, S.1.2.2.2.2.2), S.2.1, S.2.2.1, S.2.2.2) := by rw [f_Mo_thread, if_pos hc27]
    exact W.iret (v := (-1 : Int32)) hx hb hr (fun tE ht _ => ⟨⟨_, w3, rfl, ⟨(by rw [hf28]), (by rw [hf28]; exact ⟨hn19, fa21⟩), (by rw [hf28]; exact ⟨hn25, fa26⟩), (by rw [hf28]; exact at23), (by rw [hf28]; exact at24), (fun k hk => (e3 k (by omega)))⟩, cd_Pt ht hP⟩, hS.F ht⟩) hS.2.2 d_Mo_thread_25
  · refine lv_aload_n hx hb d_Mo_thread_15 rfl (lv_at hl 0 rfl) ?_
    refine lv_iconst (v := (0 : Int32)) hx hb d_Mo_thread_16 (by decide) ?_
    refine lv_iload_n hx hb d_Mo_thread_17 rfl (lv_at hl 1 rfl) ?_
    refine va_calli (va_runV (As := [.int (0 : Int32), .int k0]) (rest := []) ⟨hx, hb, hml, hown, hA⟩ (c_Mo_hasId l D tt ad N A zs w3 q ((0 : Int32), S.1.2.1, S.1.2.2.1, S.1.2.2.2.1, S.1.2.2.2.2.1, S.1.2.2.2.2.2) S.2.1 S.2.2.1 (0 : Int32) k0 (⟨hn19, fa21⟩) (⟨hn25, fa26⟩) at23 (ho.2.1 hc27)) (cwV 2 hA (cd_gV aw_623 aw_624 aw_786 aw_8 aw_625) rfl rfl rfl ⟨rfl, by decide, by decide, by decide +kernel⟩ ⟨Nat.le_of_ble_eq_true rfl, Nat.le_of_ble_eq_true rfl⟩) ⟨cd_blind, cd_recv hK hP (k := q) (by omega) fa21 rfl, fun U hU hW => ⟨rfl, cd_pre hK hP hZ hS U hU hW⟩⟩ rfl rfl hl.1 rfl (lv_room (Nat.le_of_ble_eq_true rfl)) d_Mo_thread_18 ⟨Nat.zero_le _, Nat.zero_le _⟩) hS (fun _ _ h => h) (fun _ h => h) (fun r29 w4 tE H locs ht hvm hr30 hP hz1 hk1 hS => ?_)
    have hP := cd_Pf ht hP
    obtain ⟨rfl, hbo32, rfl⟩ := hr30
    refine lv_if_eq (tgt := 26) hx hb d_Mo_thread_21 (by decide) (fun hc33 => ?_) (fun hc33 => ?_)
    · refine lv_aload_n hx hb d_Mo_thread_26 rfl (lv_at hl 0 rfl) ?_
      refine g_get (ci := 7) (C := R_Mo) (T := F_Mo) (Nf := 16) (v := .ref (ad (q + 7))) hx hb hA in_Mo hown hK hP (k := q) (by omega) fa21 rfl 7 (by decide) (hA _ aw_567) (fun _ h9 => h9) rfl d_Mo_thread_27 ?_
      refine lv_aload_n hx hb d_Mo_thread_30 rfl (lv_at hl 0 rfl) ?_
      refine g_get (ci := 7) (C := R_Mo) (T := F_Mo) (Nf := 16) (v := .ref (ad (q + 6))) hx hb hA in_Mo hown hK hP (k := q) (by omega) fa21 rfl 6 (by decide) (hA _ aw_566) (fun _ h9 => h9) rfl d_Mo_thread_31 ?_
      refine lv_iconst (v := (0 : Int32)) hx hb d_Mo_thread_34 (by decide) ?_
      refine g_iald hx hb hK hP (k := (q + 6)) (by omega) fa26 rfl (ho.2.2.1 hc27 hc33) d_Mo_thread_35 ?_
      refine lv_iload_n hx hb d_Mo_thread_36 rfl (lv_at hl 1 rfl) ?_
      obtain ⟨hn34, fa35⟩ := at23
      refine g_iast hx hb hK hP hS (k := (q + 7)) (by omega) fa35 rfl (ho.2.2.2.1 hc27 hc33) d_Mo_thread_37 (fun H locs w5 fa36 e5 hP hS => ?_)
      have fa37 := (e5 q (by omega)).trans fa21
      have fa38 := (e5 (q + 6) (by omega)).trans fa26
      have at39 := cd_IaAt_keep at24 (fun k h1 h2 => e5 k (by omega))
      refine lv_iconst (v := (0 : Int32)) hx hb d_Mo_thread_38 (by decide) ?_
      refine lv_istore_n (lv' := [(2, .int (0 : Int32)), (0, .ref (ad q)), (1, .int k0)]) hx hb d_Mo_thread_39 rfl hl (by decide) rfl (fun ls hl => ?_)
      exact L40 9 (0 : Int32) (((0 : Int32), S.1.2.1, S.1.2.2.1, S.1.2.2.2.1, S.1.2.2.2.2.1, S.1.2.2.2.2.2), S.2.1, (upd S.2.2.1 (S.2.1 (0 : Int32).toNatClampNeg).toNatClampNeg k0), S.2.2.2) w5 (fun k hk => ((e5 k (by omega)).trans (e3 k (by omega)))) H locs ls (lv_sub hl [1, 0] rfl) (show (f_Mo_thread S k0) = f_Mo_thread_L40 S k0 9 (0 : Int32) (((0 : Int32), S.1.2.1, S.1.2.2.1, S.1.2.2.2.1, S.1.2.2.2.2.1, S.1.2.2.2.2.2), S.2.1, (upd S.2.2.1 (S.2.1 (0 : Int32).toNatClampNeg).toNatClampNeg k0), S.2.2.2) by rw [f_Mo_thread, if_neg hc27, if_pos hc33]) (⟨hn19, fa37⟩) (⟨hn25, fa38⟩) (⟨hn34, fa36⟩) at39 hP hS (ho.2.2.2.2 hc27 hc33)
    · refine lv_iconst (v := (-1 : Int32)) hx hb d_Mo_thread_24 (by decide) ?_
      have hf40 : (f_Mo_thread S k0) = ((-1 : Int32), ((0 : Int32), S.1.2.1, S.1.2.2.1, S.1.2.2.2.1, S.1.2.2.2.2.1, S.1.2.2.2.2.2), S.2.1, S.2.2.1, S.2.2.2) := by rw [f_Mo_thread, if_neg hc27, if_neg hc33]
      exact W.iret (v := (-1 : Int32)) hx hb hr (fun tE ht _ => ⟨⟨_, w3, rfl, ⟨(by rw [hf40]), (by rw [hf40]; exact ⟨hn19, fa21⟩), (by rw [hf40]; exact ⟨hn25, fa26⟩), (by rw [hf40]; exact at23), (by rw [hf40]; exact at24), (fun k hk => (e3 k (by omega)))⟩, cd_Pt ht hP⟩, hS.F ht⟩) hS.2.2 d_Mo_thread_25
def f_Mo_set (S : cd_Mo × cd_Ia) (mt : cd_Ia) (k0 : Int32) (k1 : Int32) (k2 : Int32) : Int32 × cd_Mo × cd_Ia := (if k0 < 0 then ((0 : Int32), ((0 : Int32), S.1.2.1, S.1.2.2.1, S.1.2.2.2.1, S.1.2.2.2.2.1, S.1.2.2.2.2.2), S.2) else (if (mt (0 : Int32).toNatClampNeg) ≤ k0 then ((0 : Int32), ((0 : Int32), S.1.2.1, S.1.2.2.1, S.1.2.2.2.1, S.1.2.2.2.2.1, S.1.2.2.2.2.2), S.2) else (if k1 < 0 then ((0 : Int32), ((0 : Int32), S.1.2.1, S.1.2.2.1, S.1.2.2.2.1, S.1.2.2.2.2.1, S.1.2.2.2.2.2), S.2) else (if k1 ≤ (7 : Int32) then ((1 : Int32), ((0 : Int32), S.1.2.1, S.1.2.2.1, S.1.2.2.2.1, S.1.2.2.2.2.1, S.1.2.2.2.2.2), (upd S.2 (((8 : Int32) * k0) + k1).toNatClampNeg k2)) else ((0 : Int32), ((0 : Int32), S.1.2.1, S.1.2.2.1, S.1.2.2.2.1, S.1.2.2.2.2.1, S.1.2.2.2.2.2), S.2)))))
def o_Mo_set (S : cd_Mo × cd_Ia) (mt : cd_Ia) (k0 : Int32) (k1 : Int32) (k2 : Int32) : Prop := (¬ k0 < 0 → vp_in (0 : Int32) 3) ∧ (¬ k0 < 0 → ¬ (mt (0 : Int32).toNatClampNeg) ≤ k0 → ¬ k1 < 0 → k1 ≤ (7 : Int32) → vp_in (((8 : Int32) * k0) + k1) 72)
set_option maxHeartbeats 4000000 in
set_option maxRecDepth 100000 in
theorem c_Mo_set (l : Launch) (D : va_G) (tt : Nat → ClassId) (ad : Nat → Nat) (N : Nat) (A : Nat → Prop) (zs : Nat → Nat) (w0 : Nat → va_E) (q : Nat) (S : cd_Mo × cd_Ia) (mt : cd_Ia) (k0 : Int32) (k1 : Int32) (k2 : Int32) (hR0 : cd_MoAt N tt ad w0 q S.1) (hR1 : cd_IaAt N tt ad w0 (q + 6) 3 mt) (hR2 : cd_IaAt N tt ad w0 (q + 8) 72 S.2) (ho : o_Mo_set S mt k0 k1 k2) : Met l y_Mo_set w_Mo_set ({ frames := 0, cells := 0, slots := 0, locals := 0 }) (va_Pc [.ref (ad q), .int k0, .int k1, .int k2] (cd_U D tt ad N A zs w0)) (va_Qi (fun r w' => (f_Mo_set S mt k0 k1 k2).1 = r ∧ (r = 0 ∨ r = 1) ∧ cd_MoAt N tt ad w' q ((f_Mo_set S mt k0 k1 k2).2.1) ∧ cd_IaAt N tt ad w' (q + 8) 72 ((f_Mo_set S mt k0 k1 k2).2.2) ∧ (∀ k : Nat, (k < q ∨ q + 1 ≤ k) ∧ (k < (q + 8) ∨ (q + 8) + 1 ≤ k) → w' k = w0 k)) (fun w' t => cd_P D ad N A w' t.heap) A) 0 0 A := by
  refine Met.ofW (cc := b_Mo_set) (maxL := 4) (ret := (some .boolean)) (by decide) rfl ?_
  intro p e s m args below meth c s₁ B hml hv
  obtain ⟨rfl, hP, hK, hZ⟩ := hv
  have hx := B.exec
  have hb := B.bytes
  have hr := B.returns
  have hA : ∀ w ∈ cd_AW, w.before _ s = true := fun w h => atoms_spec (ws := w_Mo_set) B.pre w (List.mem_cons_of_mem _ h)
  have hown : s.vm.findClass R_Mo = some m.cls := findClass_of_methodNamed B.named
  have hlocks := B.notSynchronized
  have hS : va_S A s.heap s.heap [] := va_S.rf
  have hl := lv_entry ([.ref (ad q), .int k0, .int k1, .int k2]) (n := 4) (Nat.le_of_ble_eq_true rfl)
  rw [lg_entry_eq]
  generalize (lg_sl ([.ref (ad q), .int k0, .int k1, .int k2]) ++ List.replicate (4 - (lg_sl ([.ref (ad q), .int k0, .int k1, .int k2])).length) Slot.unset).toArray = ls at hl ⊢
  have hl : lv_has ls 4 [(0, .ref (ad q)), (1, .int k0), (2, .int k1), (3, .int k2)] := hl
  have ho : (¬ k0 < 0 → vp_in (0 : Int32) 3) ∧ (¬ k0 < 0 → ¬ (mt (0 : Int32).toNatClampNeg) ≤ k0 → ¬ k1 < 0 → k1 ≤ (7 : Int32) → vp_in (((8 : Int32) * k0) + k1) 72) := ho
  obtain ⟨hn1, fa2⟩ := hR0
  refine lv_aload_n hx hb d_Mo_set_0 rfl (lv_at hl 0 rfl) ?_
  refine lv_iconst (v := (0 : Int32)) hx hb d_Mo_set_1 (by decide) ?_
  refine g_put (ci := 7) (C := R_Mo) (T := F_Mo) (Nf := 16) (v := .int (0 : Int32)) (ty := .int) hx hb hA in_Mo t_Mo t_Mo_ok n_Mo hown hK hP hS (k := q) (by omega) fa2 rfl 0 (by decide) (hA _ aw_560) (fun _ h9 => h9) rfl (by decide +kernel) rfl rfl (Nat.le_of_ble_eq_true rfl) d_Mo_set_2 (fun H locs w1 fa3 e1 hP hS => ?_)
  have fa3 : w1 q = .inr (7, [.int (0 : Int32), .ref (ad (q + 1)), .ref (ad (q + 2)), .ref (ad (q + 3)), .ref (ad (q + 4)), .ref (ad (q + 5)), .ref (ad (q + 6)), .ref (ad (q + 7)), .ref (ad (q + 8)), .ref (ad (q + 9)), .int S.1.2.1, .ref (ad (q + 10)), .int S.1.2.2.1, .int S.1.2.2.2.1, .int S.1.2.2.2.2.1, .int S.1.2.2.2.2.2]) := fa3
  have at4 := cd_IaAt_keep hR1 (fun k h1 h2 => e1 k (by omega))
  have at5 := cd_IaAt_keep hR2 (fun k h1 h2 => e1 k (by omega))
  refine lv_iload_n hx hb d_Mo_set_5 rfl (lv_at hl 1 rfl) ?_
  refine lv_if_lt (tgt := 29) hx hb d_Mo_set_6 (by decide) (fun hc6 => ?_) (fun hc6 => ?_)
  · refine lv_iconst (v := (0 : Int32)) hx hb d_Mo_set_29 (by decide) ?_
    have hf7 : (f_Mo_set S mt k0 k1 k2) = ((0 : Int32), ((0 : Int32), S.1.2.1, S.1.2.2.1, S.1.2.2.2.1, S.1.2.2.2.2.1, S.1.2.2.2.2.2), S.2) := by rw [f_Mo_set, if_pos hc6]
    exact W.zret (ty := .boolean) (v := (0 : Int32)) hx hb hr rfl (fun tE ht _ => ⟨⟨_, w1, rfl, ⟨(by rw [hf7]), (Or.inl rfl), (by rw [hf7]; exact ⟨hn1, fa3⟩), (by rw [hf7]; exact at5), (fun k hk => (e1 k (by omega)))⟩, cd_Pt ht hP⟩, hS.F ht⟩) hS.2.2 d_Mo_set_30
  · refine lv_iload_n hx hb d_Mo_set_9 rfl (lv_at hl 1 rfl) ?_
    refine lv_aload_n hx hb d_Mo_set_10 rfl (lv_at hl 0 rfl) ?_
    refine g_get (ci := 7) (C := R_Mo) (T := F_Mo) (Nf := 16) (v := .ref (ad (q + 6))) hx hb hA in_Mo hown hK hP (k := q) (by omega) fa3 rfl 6 (by decide) (hA _ aw_566) (fun _ h9 => h9) rfl d_Mo_set_11 ?_
    refine lv_iconst (v := (0 : Int32)) hx hb d_Mo_set_14 (by decide) ?_
    obtain ⟨hn8, fa9⟩ := at4
    refine g_iald hx hb hK hP (k := (q + 6)) (by omega) fa9 rfl (ho.1 hc6) d_Mo_set_15 ?_
    refine lv_icmp_ge (tgt := 29) hx hb d_Mo_set_16 (by decide) (fun hc10 => ?_) (fun hc10 => ?_)
    · refine lv_iconst (v := (0 : Int32)) hx hb d_Mo_set_29 (by decide) ?_
      have hf11 : (f_Mo_set S mt k0 k1 k2) = ((0 : Int32), ((0 : Int32), S.1.2.1, S.1.2.2.1, S.1.2.2.2.1, S.1.2.2.2.2.1, S.1.2.2.2.2.2), S.2) := by rw [f_Mo_set, if_neg hc6, if_pos hc10]
      exact W.zret (ty := .boolean) (v := (0 : Int32)) hx hb hr rfl (fun tE ht _ => ⟨⟨_, w1, rfl, ⟨(by rw [hf11]), (Or.inl rfl), (by rw [hf11]; exact ⟨hn1, fa3⟩), (by rw [hf11]; exact at5), (fun k hk => (e1 k (by omega)))⟩, cd_Pt ht hP⟩, hS.F ht⟩) hS.2.2 d_Mo_set_30
    · refine lv_iload_n hx hb d_Mo_set_19 rfl (lv_at hl 2 rfl) ?_
      refine lv_if_lt (tgt := 29) hx hb d_Mo_set_20 (by decide) (fun hc12 => ?_) (fun hc12 => ?_)
      · refine lv_iconst (v := (0 : Int32)) hx hb d_Mo_set_29 (by decide) ?_
        have hf13 : (f_Mo_set S mt k0 k1 k2) = ((0 : Int32), ((0 : Int32), S.1.2.1, S.1.2.2.1, S.1.2.2.2.1, S.1.2.2.2.2.1, S.1.2.2.2.2.2), S.2) := by rw [f_Mo_set, if_neg hc6, if_neg hc10, if_pos hc12]
        exact W.zret (ty := .boolean) (v := (0 : Int32)) hx hb hr rfl (fun tE ht _ => ⟨⟨_, w1, rfl, ⟨(by rw [hf13]), (Or.inl rfl), (by rw [hf13]; exact ⟨hn1, fa3⟩), (by rw [hf13]; exact at5), (fun k hk => (e1 k (by omega)))⟩, cd_Pt ht hP⟩, hS.F ht⟩) hS.2.2 d_Mo_set_30
      · refine lv_iload_n hx hb d_Mo_set_23 rfl (lv_at hl 2 rfl) ?_
        refine lv_bipush (v := (7 : Int32)) hx hb d_Mo_set_24 (by decide) ?_
        refine lv_icmp_le (tgt := 31) hx hb d_Mo_set_26 (by decide) (fun hc14 => ?_) (fun hc14 => ?_)
        · refine lv_aload_n hx hb d_Mo_set_31 rfl (lv_at hl 0 rfl) ?_
          refine g_get (ci := 7) (C := R_Mo) (T := F_Mo) (Nf := 16) (v := .ref (ad (q + 8))) hx hb hA in_Mo hown hK hP (k := q) (by omega) fa3 rfl 8 (by decide) (hA _ aw_568) (fun _ h9 => h9) rfl d_Mo_set_32 ?_
          refine lv_bipush (v := (8 : Int32)) hx hb d_Mo_set_35 (by decide) ?_
          refine lv_iload_n hx hb d_Mo_set_37 rfl (lv_at hl 1 rfl) ?_
          refine lv_imul hx hb d_Mo_set_38 ?_
          refine lv_iload_n hx hb d_Mo_set_39 rfl (lv_at hl 2 rfl) ?_
          refine lv_iadd hx hb d_Mo_set_40 ?_
          refine lv_iload_n hx hb d_Mo_set_41 rfl (lv_at hl 3 rfl) ?_
          obtain ⟨hn15, fa16⟩ := at5
          refine g_iast hx hb hK hP hS (k := (q + 8)) (by omega) fa16 rfl (ho.2 hc6 hc10 hc12 hc14) d_Mo_set_42 (fun H locs w2 fa17 e2 hP hS => ?_)
          have fa18 := (e2 q (by omega)).trans fa3
          have fa19 := (e2 (q + 6) (by omega)).trans fa9
          refine lv_iconst (v := (1 : Int32)) hx hb d_Mo_set_43 (by decide) ?_
          have hf20 : (f_Mo_set S mt k0 k1 k2) = ((1 : Int32), ((0 : Int32), S.1.2.1, S.1.2.2.1, S.1.2.2.2.1, S.1.2.2.2.2.1, S.1.2.2.2.2.2), (upd S.2 (((8 : Int32) * k0) + k1).toNatClampNeg k2)) := by rw [f_Mo_set, if_neg hc6, if_neg hc10, if_neg hc12, if_pos hc14]
          exact W.zret (ty := .boolean) (v := (1 : Int32)) hx hb hr rfl (fun tE ht _ => ⟨⟨_, w2, rfl, ⟨(by rw [hf20]), (Or.inr rfl), (by rw [hf20]; exact ⟨hn1, fa18⟩), (by rw [hf20]; exact ⟨hn15, fa17⟩), (fun k hk => ((e2 k (by omega)).trans (e1 k (by omega))))⟩, cd_Pt ht hP⟩, hS.F ht⟩) hS.2.2 d_Mo_set_44
        · refine lv_iconst (v := (0 : Int32)) hx hb d_Mo_set_29 (by decide) ?_
          have hf21 : (f_Mo_set S mt k0 k1 k2) = ((0 : Int32), ((0 : Int32), S.1.2.1, S.1.2.2.1, S.1.2.2.2.1, S.1.2.2.2.2.1, S.1.2.2.2.2.2), S.2) := by rw [f_Mo_set, if_neg hc6, if_neg hc10, if_neg hc12, if_neg hc14]
          exact W.zret (ty := .boolean) (v := (0 : Int32)) hx hb hr rfl (fun tE ht _ => ⟨⟨_, w1, rfl, ⟨(by rw [hf21]), (Or.inl rfl), (by rw [hf21]; exact ⟨hn1, fa3⟩), (by rw [hf21]; exact at5), (fun k hk => (e1 k (by omega)))⟩, cd_Pt ht hP⟩, hS.F ht⟩) hS.2.2 d_Mo_set_30
def f_Mo_lay (S : cd_Mo × cd_By) (k0 : Int32) : cd_Mo × cd_By := ((S.1.1, (S.1.2.1 + (1 : Int32)), S.1.2.2.1, S.1.2.2.2.1, S.1.2.2.2.2.1, S.1.2.2.2.2.2), (upd S.2 S.1.2.1.toNatClampNeg (vp_nar .byte k0.toInt8.toInt32)))
def o_Mo_lay (S : cd_Mo × cd_By) (k0 : Int32) : Prop := (vp_in S.1.2.1 8192)
set_option maxHeartbeats 4000000 in
set_option maxRecDepth 100000 in
theorem c_Mo_lay (l : Launch) (D : va_G) (tt : Nat → ClassId) (ad : Nat → Nat) (N : Nat) (A : Nat → Prop) (zs : Nat → Nat) (w0 : Nat → va_E) (q : Nat) (S : cd_Mo × cd_By) (k0 : Int32) (hR0 : cd_MoAt N tt ad w0 q S.1) (hR1 : cd_ByAt N tt ad w0 (q + 9) 8192 S.2) (ho : o_Mo_lay S k0) : Met l y_Mo_lay w_Mo_lay ({ frames := 0, cells := 0, slots := 0, locals := 0 }) (va_Pc [.ref (ad q), .int k0] (cd_U D tt ad N A zs w0)) (va_Qv (fun w' => cd_MoAt N tt ad w' q ((f_Mo_lay S k0).1) ∧ cd_ByAt N tt ad w' (q + 9) 8192 ((f_Mo_lay S k0).2) ∧ (∀ k : Nat, (k < q ∨ q + 1 ≤ k) ∧ (k < (q + 9) ∨ (q + 9) + 1 ≤ k) → w' k = w0 k)) (fun w' t => cd_P D ad N A w' t.heap) A) 0 0 A := by
  refine Met.ofW (cc := b_Mo_lay) (maxL := 2) (ret := none) (by decide) rfl ?_
  intro p e s m args below meth c s₁ B hml hv
  obtain ⟨rfl, hP, hK, hZ⟩ := hv
  have hx := B.exec
  have hb := B.bytes
  have hr := B.returns
  have hA : ∀ w ∈ cd_AW, w.before _ s = true := fun w h => atoms_spec (ws := w_Mo_lay) B.pre w (List.mem_cons_of_mem _ h)
  have hown : s.vm.findClass R_Mo = some m.cls := findClass_of_methodNamed B.named
  have hlocks := B.notSynchronized
  have hS : va_S A s.heap s.heap [] := va_S.rf
  have hl := lv_entry ([.ref (ad q), .int k0]) (n := 2) (Nat.le_of_ble_eq_true rfl)
  rw [lg_entry_eq]
  generalize (lg_sl ([.ref (ad q), .int k0]) ++ List.replicate (2 - (lg_sl ([.ref (ad q), .int k0])).length) Slot.unset).toArray = ls at hl ⊢
  have hl : lv_has ls 2 [(0, .ref (ad q)), (1, .int k0)] := hl
  have ho : (vp_in S.1.2.1 8192) := ho
  obtain ⟨hn1, fa2⟩ := hR0
  refine lv_aload_n hx hb d_Mo_lay_0 rfl (lv_at hl 0 rfl) ?_
  refine g_get (ci := 7) (C := R_Mo) (T := F_Mo) (Nf := 16) (v := .ref (ad (q + 9))) hx hb hA in_Mo hown hK hP (k := q) (by omega) fa2 rfl 9 (by decide) (hA _ aw_569) (fun _ h9 => h9) rfl d_Mo_lay_1 ?_
  refine lv_aload_n hx hb d_Mo_lay_4 rfl (lv_at hl 0 rfl) ?_
  refine g_get (ci := 7) (C := R_Mo) (T := F_Mo) (Nf := 16) (v := .int S.1.2.1) hx hb hA in_Mo hown hK hP (k := q) (by omega) fa2 rfl 10 (by decide) (hA _ aw_570) (fun _ h9 => h9) rfl d_Mo_lay_5 ?_
  refine lv_iload_n hx hb d_Mo_lay_8 rfl (lv_at hl 1 rfl) ?_
  refine lv_i2b hx hb d_Mo_lay_9 rfl ?_
  obtain ⟨hn3, fa4⟩ := hR1
  refine g_bast hx hb hK hP hS (k := (q + 9)) (by omega) fa4 rfl (ho) d_Mo_lay_10 (fun H locs w1 fa5 e1 hP hS => ?_)
  have fa6 := (e1 q (by omega)).trans fa2
  refine lv_aload_n hx hb d_Mo_lay_11 rfl (lv_at hl 0 rfl) ?_
  refine lv_dup hx hb d_Mo_lay_12 rfl ?_
  refine g_get (ci := 7) (C := R_Mo) (T := F_Mo) (Nf := 16) (v := .int S.1.2.1) hx hb hA in_Mo hown hK hP (k := q) (by omega) fa6 rfl 10 (by decide) (hA _ aw_570) (fun _ h9 => h9) rfl d_Mo_lay_13 ?_
  refine lv_iconst (v := (1 : Int32)) hx hb d_Mo_lay_16 (by decide) ?_
  refine lv_iadd hx hb d_Mo_lay_17 ?_
  refine g_put (ci := 7) (C := R_Mo) (T := F_Mo) (Nf := 16) (v := .int (S.1.2.1 + (1 : Int32))) (ty := .int) hx hb hA in_Mo t_Mo t_Mo_ok n_Mo hown hK hP hS (k := q) (by omega) fa6 rfl 10 (by decide) (hA _ aw_570) (fun _ h9 => h9) rfl (by decide +kernel) rfl rfl (Nat.le_of_ble_eq_true rfl) d_Mo_lay_18 (fun H locs w2 fa7 e2 hP hS => ?_)
  have fa7 : w2 q = .inr (7, [.int S.1.1, .ref (ad (q + 1)), .ref (ad (q + 2)), .ref (ad (q + 3)), .ref (ad (q + 4)), .ref (ad (q + 5)), .ref (ad (q + 6)), .ref (ad (q + 7)), .ref (ad (q + 8)), .ref (ad (q + 9)), .int (S.1.2.1 + (1 : Int32)), .ref (ad (q + 10)), .int S.1.2.2.1, .int S.1.2.2.2.1, .int S.1.2.2.2.2.1, .int S.1.2.2.2.2.2]) := fa7
  have fa8 := (e2 (q + 9) (by omega)).trans fa5
  have hf9 : (f_Mo_lay S k0) = ((S.1.1, (S.1.2.1 + (1 : Int32)), S.1.2.2.1, S.1.2.2.2.1, S.1.2.2.2.2.1, S.1.2.2.2.2.2), (upd S.2 S.1.2.1.toNatClampNeg (vp_nar .byte k0.toInt8.toInt32))) := by rw [f_Mo_lay]
  exact W.vret hx hb hr (fun tE ht _ => ⟨⟨w2, rfl, ⟨(by rw [hf9]; exact ⟨hn1, fa7⟩), (by rw [hf9]; exact ⟨hn3, fa8⟩), (fun k hk => ((e2 k (by omega)).trans (e1 k (by omega))))⟩, cd_Pt ht hP⟩, hS.F ht⟩) hS.2.2 d_Mo_lay_21
def f_Mo_two (S : cd_Mo × cd_By) (k0 : Int32) : cd_Mo × cd_By := ((f_Mo_lay (f_Mo_lay S k0) (k0 >>> ((8 : Int32) &&& 31))).1, (f_Mo_lay (f_Mo_lay S k0) (k0 >>> ((8 : Int32) &&& 31))).2)
def o_Mo_two (S : cd_Mo × cd_By) (k0 : Int32) : Prop := (o_Mo_lay S k0) ∧ (o_Mo_lay (f_Mo_lay S k0) (k0 >>> ((8 : Int32) &&& 31)))
set_option maxHeartbeats 4000000 in
set_option maxRecDepth 100000 in
theorem c_Mo_two (l : Launch) (D : va_G) (tt : Nat → ClassId) (ad : Nat → Nat) (N : Nat) (A : Nat → Prop) (zs : Nat → Nat) (w0 : Nat → va_E) (q : Nat) (S : cd_Mo × cd_By) (k0 : Int32) (hR0 : cd_MoAt N tt ad w0 q S.1) (hR1 : cd_ByAt N tt ad w0 (q + 9) 8192 S.2) (ho : o_Mo_two S k0) : Met l y_Mo_two w_Mo_two ({ frames := 1, cells := 0, slots := 0, locals := 21 }) (va_Pc [.ref (ad q), .int k0] (cd_U D tt ad N A zs w0)) (va_Qv (fun w' => cd_MoAt N tt ad w' q ((f_Mo_two S k0).1) ∧ cd_ByAt N tt ad w' (q + 9) 8192 ((f_Mo_two S k0).2) ∧ (∀ k : Nat, (k < q ∨ q + 1 ≤ k) ∧ (k < (q + 9) ∨ (q + 9) + 1 ≤ k) → w' k = w0 k)) (fun w' t => cd_P D ad N A w' t.heap) A) 0 0 A := by
  refine Met.ofW (cc := b_Mo_two) (maxL := 2) (ret := none) (by decide) rfl ?_
  intro p e s m args below meth c s₁ B hml hv
  obtain ⟨rfl, hP, hK, hZ⟩ := hv
  have hx := B.exec
  have hb := B.bytes
  have hr := B.returns
  have hA : ∀ w ∈ cd_AW, w.before _ s = true := fun w h => atoms_spec (ws := w_Mo_two) B.pre w (List.mem_cons_of_mem _ h)
  have hown : s.vm.findClass R_Mo = some m.cls := findClass_of_methodNamed B.named
  have hlocks := B.notSynchronized
  have hS : va_S A s.heap s.heap [] := va_S.rf
  have hl := lv_entry ([.ref (ad q), .int k0]) (n := 2) (Nat.le_of_ble_eq_true rfl)
  rw [lg_entry_eq]
  generalize (lg_sl ([.ref (ad q), .int k0]) ++ List.replicate (2 - (lg_sl ([.ref (ad q), .int k0])).length) Slot.unset).toArray = ls at hl ⊢
  have hl : lv_has ls 2 [(0, .ref (ad q)), (1, .int k0)] := hl
  have ho : (o_Mo_lay S k0) ∧ (o_Mo_lay (f_Mo_lay S k0) (k0 >>> ((8 : Int32) &&& 31))) := ho
  obtain ⟨hn1, fa2⟩ := hR0
  refine lv_aload_n hx hb d_Mo_two_0 rfl (lv_at hl 0 rfl) ?_
  refine lv_iload_n hx hb d_Mo_two_1 rfl (lv_at hl 1 rfl) ?_
  refine va_callv (va_runV (As := [.int k0]) (rest := []) ⟨hx, hb, hml, hown, hA⟩ (c_Mo_lay l D tt ad N A zs w0 q S k0 (⟨hn1, fa2⟩) hR1 (ho.1)) (cwV 1 hA (cd_gV aw_637 aw_638 aw_788 aw_8 aw_639) rfl rfl rfl ⟨rfl, by decide, by decide, by decide +kernel⟩ ⟨Nat.le_of_ble_eq_true rfl, Nat.le_of_ble_eq_true rfl⟩) ⟨cd_blind, cd_recv hK hP (k := q) (by omega) fa2 rfl, fun U hU hW => ⟨rfl, cd_pre hK hP hZ hS U hU hW⟩⟩ rfl rfl hl.1 rfl (lv_room (Nat.le_of_ble_eq_true rfl)) d_Mo_two_2 ⟨Nat.zero_le _, Nat.zero_le _⟩) hS (fun _ _ h => h) (fun _ h => h) (fun w1 tE H locs ht hvm hr4 hP hz1 hk1 hS => ?_)
  have hP := cd_Pf ht hP
  obtain ⟨at6, at7, e1⟩ := hr4
  obtain ⟨hn8, fa9⟩ := at6
  refine lv_aload_n hx hb d_Mo_two_5 rfl (lv_at hl 0 rfl) ?_
  refine lv_iload_n hx hb d_Mo_two_6 rfl (lv_at hl 1 rfl) ?_
  refine lv_bipush (v := (8 : Int32)) hx hb d_Mo_two_7 (by decide) ?_
  refine lv_ishr hx hb d_Mo_two_9 ?_
  refine va_callv (va_runV (As := [.int (k0 >>> ((8 : Int32) &&& 31))]) (rest := []) ⟨hx, hb, hml, hown, hA⟩ (c_Mo_lay l D tt ad N A zs w1 q (f_Mo_lay S k0) (k0 >>> ((8 : Int32) &&& 31)) (⟨hn8, fa9⟩) at7 (ho.2)) (cwV 1 hA (cd_gV aw_637 aw_638 aw_788 aw_8 aw_639) rfl rfl rfl ⟨rfl, by decide, by decide, by decide +kernel⟩ ⟨Nat.le_of_ble_eq_true rfl, Nat.le_of_ble_eq_true rfl⟩) ⟨cd_blind, cd_recv hK hP (k := q) (by omega) fa9 rfl, fun U hU hW => ⟨rfl, cd_pre hK hP hZ hS U hU hW⟩⟩ rfl rfl hl.1 rfl (lv_room (Nat.le_of_ble_eq_true rfl)) d_Mo_two_10 ⟨Nat.zero_le _, Nat.zero_le _⟩) hS (fun _ _ h => h) (fun _ h => h) (fun w2 tE H locs ht hvm hr11 hP hz1 hk1 hS => ?_)
  have hP := cd_Pf ht hP
  obtain ⟨at13, at14, e2⟩ := hr11
  obtain ⟨hn15, fa16⟩ := at13
  have hf17 : (f_Mo_two S k0) = ((f_Mo_lay (f_Mo_lay S k0) (k0 >>> ((8 : Int32) &&& 31))).1, (f_Mo_lay (f_Mo_lay S k0) (k0 >>> ((8 : Int32) &&& 31))).2) := by rw [f_Mo_two]
  exact W.vret hx hb hr (fun tE ht _ => ⟨⟨w2, rfl, ⟨(by rw [hf17]; exact ⟨hn15, fa16⟩), (by rw [hf17]; exact at14), (fun k hk => ((e2 k (by omega)).trans (e1 k (by omega))))⟩, cd_Pt ht hP⟩, hS.F ht⟩) hS.2.2 d_Mo_two_13
def f_Mo_four (S : cd_Mo × cd_By) (k0 : Int32) : cd_Mo × cd_By := ((f_Mo_two (f_Mo_two S k0) (k0 >>> ((16 : Int32) &&& 31))).1, (f_Mo_two (f_Mo_two S k0) (k0 >>> ((16 : Int32) &&& 31))).2)
def o_Mo_four (S : cd_Mo × cd_By) (k0 : Int32) : Prop := (o_Mo_two S k0) ∧ (o_Mo_two (f_Mo_two S k0) (k0 >>> ((16 : Int32) &&& 31)))
set_option maxHeartbeats 4000000 in
set_option maxRecDepth 100000 in
theorem c_Mo_four (l : Launch) (D : va_G) (tt : Nat → ClassId) (ad : Nat → Nat) (N : Nat) (A : Nat → Prop) (zs : Nat → Nat) (w0 : Nat → va_E) (q : Nat) (S : cd_Mo × cd_By) (k0 : Int32) (hR0 : cd_MoAt N tt ad w0 q S.1) (hR1 : cd_ByAt N tt ad w0 (q + 9) 8192 S.2) (ho : o_Mo_four S k0) : Met l y_Mo_four w_Mo_four ({ frames := 2, cells := 0, slots := 0, locals := 42 }) (va_Pc [.ref (ad q), .int k0] (cd_U D tt ad N A zs w0)) (va_Qv (fun w' => cd_MoAt N tt ad w' q ((f_Mo_four S k0).1) ∧ cd_ByAt N tt ad w' (q + 9) 8192 ((f_Mo_four S k0).2) ∧ (∀ k : Nat, (k < q ∨ q + 1 ≤ k) ∧ (k < (q + 9) ∨ (q + 9) + 1 ≤ k) → w' k = w0 k)) (fun w' t => cd_P D ad N A w' t.heap) A) 0 0 A := by
  refine Met.ofW (cc := b_Mo_four) (maxL := 2) (ret := none) (by decide) rfl ?_
  intro p e s m args below meth c s₁ B hml hv
  obtain ⟨rfl, hP, hK, hZ⟩ := hv
  have hx := B.exec
  have hb := B.bytes
  have hr := B.returns
  have hA : ∀ w ∈ cd_AW, w.before _ s = true := fun w h => atoms_spec (ws := w_Mo_four) B.pre w (List.mem_cons_of_mem _ h)
  have hown : s.vm.findClass R_Mo = some m.cls := findClass_of_methodNamed B.named
  have hlocks := B.notSynchronized
  have hS : va_S A s.heap s.heap [] := va_S.rf
  have hl := lv_entry ([.ref (ad q), .int k0]) (n := 2) (Nat.le_of_ble_eq_true rfl)
  rw [lg_entry_eq]
  generalize (lg_sl ([.ref (ad q), .int k0]) ++ List.replicate (2 - (lg_sl ([.ref (ad q), .int k0])).length) Slot.unset).toArray = ls at hl ⊢
  have hl : lv_has ls 2 [(0, .ref (ad q)), (1, .int k0)] := hl
  have ho : (o_Mo_two S k0) ∧ (o_Mo_two (f_Mo_two S k0) (k0 >>> ((16 : Int32) &&& 31))) := ho
  obtain ⟨hn1, fa2⟩ := hR0
  refine lv_aload_n hx hb d_Mo_four_0 rfl (lv_at hl 0 rfl) ?_
  refine lv_iload_n hx hb d_Mo_four_1 rfl (lv_at hl 1 rfl) ?_
  refine va_callv (va_runV (As := [.int k0]) (rest := []) ⟨hx, hb, hml, hown, hA⟩ (c_Mo_two l D tt ad N A zs w0 q S k0 (⟨hn1, fa2⟩) hR1 (ho.1)) (cwV 1 hA (cd_gV aw_640 aw_641 aw_789 aw_8 aw_642) rfl rfl rfl ⟨rfl, by decide, by decide, by decide +kernel⟩ ⟨Nat.le_of_ble_eq_true rfl, Nat.le_of_ble_eq_true rfl⟩) ⟨cd_blind, cd_recv hK hP (k := q) (by omega) fa2 rfl, fun U hU hW => ⟨rfl, cd_pre hK hP hZ hS U hU hW⟩⟩ rfl rfl hl.1 rfl (lv_room (Nat.le_of_ble_eq_true rfl)) d_Mo_four_2 ⟨Nat.zero_le _, Nat.zero_le _⟩) hS (fun _ _ h => h) (fun _ h => h) (fun w1 tE H locs ht hvm hr4 hP hz1 hk1 hS => ?_)
  have hP := cd_Pf ht hP
  obtain ⟨at6, at7, e1⟩ := hr4
  obtain ⟨hn8, fa9⟩ := at6
  refine lv_aload_n hx hb d_Mo_four_5 rfl (lv_at hl 0 rfl) ?_
  refine lv_iload_n hx hb d_Mo_four_6 rfl (lv_at hl 1 rfl) ?_
  refine lv_bipush (v := (16 : Int32)) hx hb d_Mo_four_7 (by decide) ?_
  refine lv_ishr hx hb d_Mo_four_9 ?_
  refine va_callv (va_runV (As := [.int (k0 >>> ((16 : Int32) &&& 31))]) (rest := []) ⟨hx, hb, hml, hown, hA⟩ (c_Mo_two l D tt ad N A zs w1 q (f_Mo_two S k0) (k0 >>> ((16 : Int32) &&& 31)) (⟨hn8, fa9⟩) at7 (ho.2)) (cwV 1 hA (cd_gV aw_640 aw_641 aw_789 aw_8 aw_642) rfl rfl rfl ⟨rfl, by decide, by decide, by decide +kernel⟩ ⟨Nat.le_of_ble_eq_true rfl, Nat.le_of_ble_eq_true rfl⟩) ⟨cd_blind, cd_recv hK hP (k := q) (by omega) fa9 rfl, fun U hU hW => ⟨rfl, cd_pre hK hP hZ hS U hU hW⟩⟩ rfl rfl hl.1 rfl (lv_room (Nat.le_of_ble_eq_true rfl)) d_Mo_four_10 ⟨Nat.zero_le _, Nat.zero_le _⟩) hS (fun _ _ h => h) (fun _ h => h) (fun w2 tE H locs ht hvm hr11 hP hz1 hk1 hS => ?_)
  have hP := cd_Pf ht hP
  obtain ⟨at13, at14, e2⟩ := hr11
  obtain ⟨hn15, fa16⟩ := at13
  have hf17 : (f_Mo_four S k0) = ((f_Mo_two (f_Mo_two S k0) (k0 >>> ((16 : Int32) &&& 31))).1, (f_Mo_two (f_Mo_two S k0) (k0 >>> ((16 : Int32) &&& 31))).2) := by rw [f_Mo_four]
  exact W.vret hx hb hr (fun tE ht _ => ⟨⟨w2, rfl, ⟨(by rw [hf17]; exact ⟨hn15, fa16⟩), (by rw [hf17]; exact at14), (fun k hk => ((e2 k (by omega)).trans (e1 k (by omega))))⟩, cd_Pt ht hP⟩, hS.F ht⟩) hS.2.2 d_Mo_four_13
def f_Mo_filled_L4 (u : cd_Mo) (ms : cd_Ia) (mb : cd_By) (k0 : Int32) : Nat → Int32 → Int32 → Int32
  | 0, _, _ => default
  | gn + 1, x2, x3 => (if (ms k0.toNatClampNeg) ≤ x3 then x2 else (if (mb (((1024 : Int32) * k0) + x3).toNatClampNeg) = 0 then (f_Mo_filled_L4 u ms mb k0 gn x2 (x3 + (1 : Int32))) else (f_Mo_filled_L4 u ms mb k0 gn (((64 : Int32) * (x3 / (64 : Int32))) + (64 : Int32)) (x3 + (1 : Int32)))))
def f_Mo_filled (u : cd_Mo) (ms : cd_Ia) (mb : cd_By) (k0 : Int32) : Int32 := (f_Mo_filled_L4 u ms mb k0 1025 (0 : Int32) (0 : Int32))
def o_Mo_filled_L4 (u : cd_Mo) (ms : cd_Ia) (mb : cd_By) (k0 : Int32) : Nat → Int32 → Int32 → Prop
  | 0, _, _ => False
  | gn + 1, x2, x3 => (vp_in k0 18) ∧ (¬ (ms k0.toNatClampNeg) ≤ x3 → vp_in (((1024 : Int32) * k0) + x3) 18432) ∧ (¬ (ms k0.toNatClampNeg) ≤ x3 → (mb (((1024 : Int32) * k0) + x3).toNatClampNeg) = 0 → o_Mo_filled_L4 u ms mb k0 gn x2 (x3 + (1 : Int32))) ∧ (¬ (ms k0.toNatClampNeg) ≤ x3 → ¬ (mb (((1024 : Int32) * k0) + x3).toNatClampNeg) = 0 → o_Mo_filled_L4 u ms mb k0 gn (((64 : Int32) * (x3 / (64 : Int32))) + (64 : Int32)) (x3 + (1 : Int32)))
def o_Mo_filled (u : cd_Mo) (ms : cd_Ia) (mb : cd_By) (k0 : Int32) : Prop := (o_Mo_filled_L4 u ms mb k0 1025 (0 : Int32) (0 : Int32))
set_option maxHeartbeats 4000000 in
set_option maxRecDepth 100000 in
theorem c_Mo_filled (l : Launch) (D : va_G) (tt : Nat → ClassId) (ad : Nat → Nat) (N : Nat) (A : Nat → Prop) (zs : Nat → Nat) (w0 : Nat → va_E) (q : Nat) (u : cd_Mo) (ms : cd_Ia) (mb : cd_By) (k0 : Int32) (hR0 : cd_MoAt N tt ad w0 q u) (hR1 : cd_IaAt N tt ad w0 (q + 2) 18 ms) (hR2 : cd_ByAt N tt ad w0 (q + 4) 18432 mb) (ho : o_Mo_filled u ms mb k0) : Met l y_Mo_filled w_Mo_filled ({ frames := 0, cells := 0, slots := 0, locals := 0 }) (va_Pc [.ref (ad q), .int k0] (cd_U D tt ad N A zs w0)) (va_Qi (fun r w' => (f_Mo_filled u ms mb k0) = r ∧ w0 = w') (fun w' t => cd_P D ad N A w' t.heap) A) 0 0 A := by
  refine Met.ofW (cc := b_Mo_filled) (maxL := 4) (ret := (some .int)) (by decide) rfl ?_
  intro p e s m args below meth c s₁ B hml hv
  obtain ⟨rfl, hP, hK, hZ⟩ := hv
  have hx := B.exec
  have hb := B.bytes
  have hr := B.returns
  have hA : ∀ w ∈ cd_AW, w.before _ s = true := fun w h => atoms_spec (ws := w_Mo_filled) B.pre w (List.mem_cons_of_mem _ h)
  have hown : s.vm.findClass R_Mo = some m.cls := findClass_of_methodNamed B.named
  have hlocks := B.notSynchronized
  have L4 : ∀ (gn : Nat) (x2 : Int32) (x3 : Int32) (H : Heap) (locs : List Loc) (ls : Array Slot), lv_has ls 4 [(0, .ref (ad q)), (1, .int k0), (2, .int x2), (3, .int x3)] → (f_Mo_filled u ms mb k0) = f_Mo_filled_L4 u ms mb k0 gn x2 x3 → cd_MoAt N tt ad w0 q u → cd_IaAt N tt ad w0 (q + 2) 18 ms → cd_ByAt N tt ad w0 (q + 4) 18432 mb → cd_P D ad N A w0 H → va_S A s.heap H locs → o_Mo_filled_L4 u ms mb k0 gn x2 x3 → W p l e (headSpec w_Mo_filled ({ frames := 0, cells := 0, slots := 0, locals := 0 })).room s m [.ref (ad q), .int k0].toArray below meth c H locs 0 0 (MQ below (va_Qi (fun r w' => (f_Mo_filled u ms mb k0) = r ∧ w0 = w') (fun w' t => cd_P D ad N A w' t.heap) A) [.ref (ad q), .int k0].toArray s 0 0 A) (F0 m 4 ls []) := by
    intro gn
    induction gn with
    | zero => intro x2 x3 H locs ls hl he hL0 hL1 hL2 hP hS ho; exact ho.elim
    | succ gn ih =>
      intro x2 x3 H locs ls hl he hL0 hL1 hL2 hP hS ho
      have ho : (vp_in k0 18) ∧ (¬ (ms k0.toNatClampNeg) ≤ x3 → vp_in (((1024 : Int32) * k0) + x3) 18432) ∧ (¬ (ms k0.toNatClampNeg) ≤ x3 → (mb (((1024 : Int32) * k0) + x3).toNatClampNeg) = 0 → o_Mo_filled_L4 u ms mb k0 gn x2 (x3 + (1 : Int32))) ∧ (¬ (ms k0.toNatClampNeg) ≤ x3 → ¬ (mb (((1024 : Int32) * k0) + x3).toNatClampNeg) = 0 → o_Mo_filled_L4 u ms mb k0 gn (((64 : Int32) * (x3 / (64 : Int32))) + (64 : Int32)) (x3 + (1 : Int32))) := ho
      obtain ⟨hn1, fa2⟩ := hL0
      refine lv_iload_n hx hb d_Mo_filled_4 rfl (lv_at hl 3 rfl) ?_
      refine lv_aload_n hx hb d_Mo_filled_5 rfl (lv_at hl 0 rfl) ?_
      refine g_get (ci := 7) (C := R_Mo) (T := F_Mo) (Nf := 16) (v := .ref (ad (q + 2))) hx hb hA in_Mo hown hK hP (k := q) (by omega) fa2 rfl 2 (by decide) (hA _ aw_562) (fun _ h9 => h9) rfl d_Mo_filled_6 ?_
      refine lv_iload_n hx hb d_Mo_filled_9 rfl (lv_at hl 1 rfl) ?_
      obtain ⟨hn3, fa4⟩ := hL1
      refine g_iald hx hb hK hP (k := (q + 2)) (by omega) fa4 rfl (ho.1) d_Mo_filled_10 ?_
      refine lv_icmp_ge (tgt := 50) hx hb d_Mo_filled_11 (by decide) (fun hc5 => ?_) (fun hc5 => ?_)
      · refine lv_iload_n hx hb d_Mo_filled_50 rfl (lv_at hl 2 rfl) ?_
        have hf6 : (f_Mo_filled u ms mb k0) = x2 := by rw [he, f_Mo_filled_L4, if_pos hc5]
        exact W.iret (v := x2) hx hb hr (fun tE ht _ => ⟨⟨_, w0, rfl, ⟨hf6, rfl⟩, cd_Pt ht hP⟩, hS.F ht⟩) hS.2.2 d_Mo_filled_51
      · refine lv_aload_n hx hb d_Mo_filled_14 rfl (lv_at hl 0 rfl) ?_
        refine g_get (ci := 7) (C := R_Mo) (T := F_Mo) (Nf := 16) (v := .ref (ad (q + 4))) hx hb hA in_Mo hown hK hP (k := q) (by omega) fa2 rfl 4 (by decide) (hA _ aw_564) (fun _ h9 => h9) rfl d_Mo_filled_15 ?_
        refine lv_sipush (v := (1024 : Int32)) hx hb d_Mo_filled_18 (by decide) ?_
        refine lv_iload_n hx hb d_Mo_filled_21 rfl (lv_at hl 1 rfl) ?_
        refine lv_imul hx hb d_Mo_filled_22 ?_
        refine lv_iload_n hx hb d_Mo_filled_23 rfl (lv_at hl 3 rfl) ?_
        refine lv_iadd hx hb d_Mo_filled_24 ?_
        obtain ⟨hn7, fa8⟩ := hL2
        refine g_bald hx hb hK hP (k := (q + 4)) (by omega) fa8 rfl (ho.2.1 hc5) d_Mo_filled_25 ?_
        refine lv_if_eq (tgt := 42) hx hb d_Mo_filled_26 (by decide) (fun hc9 => ?_) (fun hc9 => ?_)
        · refine lv_iload_n hx hb d_Mo_filled_42 rfl (lv_at hl 2 rfl) ?_
          refine lv_istore_n (lv' := [(2, .int x2), (0, .ref (ad q)), (1, .int k0), (3, .int x3)]) hx hb d_Mo_filled_43 rfl hl (by decide) rfl (fun ls hl => ?_)
          refine lv_iinc (k := 3) (v := (x3 + (1 : Int32))) (lv' := [(3, .int (x3 + (1 : Int32))), (2, .int x2), (0, .ref (ad q)), (1, .int k0)]) hx hb d_Mo_filled_44 hl rfl (cd_inc _ _ _ (by decide)) (by decide) rfl (fun ls hl => ?_)
          refine lv_goto (tgt := 4) hx hb d_Mo_filled_47 (by decide) ?_
          exact ih x2 (x3 + (1 : Int32)) H locs ls (lv_sub hl [2, 3, 1, 0] rfl) (show (f_Mo_filled u ms mb k0) = f_Mo_filled_L4 u ms mb k0 gn x2 (x3 + (1 : Int32)) by rw [he, f_Mo_filled_L4, if_neg hc5, if_pos hc9]) (⟨hn1, fa2⟩) (⟨hn3, fa4⟩) (⟨hn7, fa8⟩) hP hS (ho.2.2.1 hc5 hc9)
        · refine lv_bipush (v := (64 : Int32)) hx hb d_Mo_filled_29 (by decide) ?_
          refine lv_iload_n hx hb d_Mo_filled_31 rfl (lv_at hl 3 rfl) ?_
          refine lv_bipush (v := (64 : Int32)) hx hb d_Mo_filled_32 (by decide) ?_
          refine lv_idiv hx hb d_Mo_filled_34 (by decide) ?_
          refine lv_imul hx hb d_Mo_filled_35 ?_
          refine lv_bipush (v := (64 : Int32)) hx hb d_Mo_filled_36 (by decide) ?_
          refine lv_iadd hx hb d_Mo_filled_38 ?_
          refine lv_goto (tgt := 43) hx hb d_Mo_filled_39 (by decide) ?_
          refine lv_istore_n (lv' := [(2, .int (((64 : Int32) * (x3 / (64 : Int32))) + (64 : Int32))), (0, .ref (ad q)), (1, .int k0), (3, .int x3)]) hx hb d_Mo_filled_43 rfl hl (by decide) rfl (fun ls hl => ?_)
          refine lv_iinc (k := 3) (v := (x3 + (1 : Int32))) (lv' := [(3, .int (x3 + (1 : Int32))), (2, .int (((64 : Int32) * (x3 / (64 : Int32))) + (64 : Int32))), (0, .ref (ad q)), (1, .int k0)]) hx hb d_Mo_filled_44 hl rfl (cd_inc _ _ _ (by decide)) (by decide) rfl (fun ls hl => ?_)
          refine lv_goto (tgt := 4) hx hb d_Mo_filled_47 (by decide) ?_
          exact ih (((64 : Int32) * (x3 / (64 : Int32))) + (64 : Int32)) (x3 + (1 : Int32)) H locs ls (lv_sub hl [2, 3, 1, 0] rfl) (show (f_Mo_filled u ms mb k0) = f_Mo_filled_L4 u ms mb k0 gn (((64 : Int32) * (x3 / (64 : Int32))) + (64 : Int32)) (x3 + (1 : Int32)) by rw [he, f_Mo_filled_L4, if_neg hc5, if_neg hc9]) (⟨hn1, fa2⟩) (⟨hn3, fa4⟩) (⟨hn7, fa8⟩) hP hS (ho.2.2.2 hc5 hc9)
  have hS : va_S A s.heap s.heap [] := va_S.rf
  have hl := lv_entry ([.ref (ad q), .int k0]) (n := 4) (Nat.le_of_ble_eq_true rfl)
  rw [lg_entry_eq]
  generalize (lg_sl ([.ref (ad q), .int k0]) ++ List.replicate (4 - (lg_sl ([.ref (ad q), .int k0])).length) Slot.unset).toArray = ls at hl ⊢
  have hl : lv_has ls 4 [(0, .ref (ad q)), (1, .int k0)] := hl
  have ho : (o_Mo_filled_L4 u ms mb k0 1025 (0 : Int32) (0 : Int32)) := ho
  obtain ⟨hn10, fa11⟩ := hR0
  refine lv_iconst (v := (0 : Int32)) hx hb d_Mo_filled_0 (by decide) ?_
  refine lv_istore_n (lv' := [(2, .int (0 : Int32)), (0, .ref (ad q)), (1, .int k0)]) hx hb d_Mo_filled_1 rfl hl (by decide) rfl (fun ls hl => ?_)
  refine lv_iconst (v := (0 : Int32)) hx hb d_Mo_filled_2 (by decide) ?_
  refine lv_istore_n (lv' := [(3, .int (0 : Int32)), (2, .int (0 : Int32)), (0, .ref (ad q)), (1, .int k0)]) hx hb d_Mo_filled_3 rfl hl (by decide) rfl (fun ls hl => ?_)
  exact L4 1025 (0 : Int32) (0 : Int32) s.heap [] ls (lv_sub hl [2, 3, 1, 0] rfl) (show (f_Mo_filled u ms mb k0) = f_Mo_filled_L4 u ms mb k0 1025 (0 : Int32) (0 : Int32) by rw [f_Mo_filled]) (⟨hn10, fa11⟩) hR1 hR2 hP hS (ho)
def f_Mo_above_L4 (u : cd_Mo) (ma : cd_Ia) (mr : cd_Ia) (k0 : Int32) : Nat → Int32 → Int32 → Int32
  | 0, _, _ => default
  | gn + 1, x2, x3 => (if (mr (0 : Int32).toNatClampNeg) ≤ x3 then x2 else (if (ma x3.toNatClampNeg) ≤ k0 then (f_Mo_above_L4 u ma mr k0 gn x2 (x3 + (1 : Int32))) else (if x2 = (-1 : Int32) then (f_Mo_above_L4 u ma mr k0 gn x3 (x3 + (1 : Int32))) else (if (ma x2.toNatClampNeg) ≤ (ma x3.toNatClampNeg) then (f_Mo_above_L4 u ma mr k0 gn x2 (x3 + (1 : Int32))) else (f_Mo_above_L4 u ma mr k0 gn x3 (x3 + (1 : Int32)))))))
def f_Mo_above (u : cd_Mo) (ma : cd_Ia) (mr : cd_Ia) (k0 : Int32) : Int32 := (f_Mo_above_L4 u ma mr k0 7 (-1 : Int32) (0 : Int32))
def o_Mo_above_L4 (u : cd_Mo) (ma : cd_Ia) (mr : cd_Ia) (k0 : Int32) : Nat → Int32 → Int32 → Prop
  | 0, _, _ => False
  | gn + 1, x2, x3 => (vp_in (0 : Int32) 3) ∧ (¬ (mr (0 : Int32).toNatClampNeg) ≤ x3 → vp_in x3 18) ∧ (¬ (mr (0 : Int32).toNatClampNeg) ≤ x3 → (ma x3.toNatClampNeg) ≤ k0 → o_Mo_above_L4 u ma mr k0 gn x2 (x3 + (1 : Int32))) ∧ (¬ (mr (0 : Int32).toNatClampNeg) ≤ x3 → ¬ (ma x3.toNatClampNeg) ≤ k0 → x2 = (-1 : Int32) → o_Mo_above_L4 u ma mr k0 gn x3 (x3 + (1 : Int32))) ∧ (¬ (mr (0 : Int32).toNatClampNeg) ≤ x3 → ¬ (ma x3.toNatClampNeg) ≤ k0 → ¬ x2 = (-1 : Int32) → vp_in x3 18) ∧ (¬ (mr (0 : Int32).toNatClampNeg) ≤ x3 → ¬ (ma x3.toNatClampNeg) ≤ k0 → ¬ x2 = (-1 : Int32) → vp_in x2 18) ∧ (¬ (mr (0 : Int32).toNatClampNeg) ≤ x3 → ¬ (ma x3.toNatClampNeg) ≤ k0 → ¬ x2 = (-1 : Int32) → (ma x2.toNatClampNeg) ≤ (ma x3.toNatClampNeg) → o_Mo_above_L4 u ma mr k0 gn x2 (x3 + (1 : Int32))) ∧ (¬ (mr (0 : Int32).toNatClampNeg) ≤ x3 → ¬ (ma x3.toNatClampNeg) ≤ k0 → ¬ x2 = (-1 : Int32) → ¬ (ma x2.toNatClampNeg) ≤ (ma x3.toNatClampNeg) → o_Mo_above_L4 u ma mr k0 gn x3 (x3 + (1 : Int32)))
def o_Mo_above (u : cd_Mo) (ma : cd_Ia) (mr : cd_Ia) (k0 : Int32) : Prop := (o_Mo_above_L4 u ma mr k0 7 (-1 : Int32) (0 : Int32))
set_option maxHeartbeats 4000000 in
set_option maxRecDepth 100000 in
theorem c_Mo_above (l : Launch) (D : va_G) (tt : Nat → ClassId) (ad : Nat → Nat) (N : Nat) (A : Nat → Prop) (zs : Nat → Nat) (w0 : Nat → va_E) (q : Nat) (u : cd_Mo) (ma : cd_Ia) (mr : cd_Ia) (k0 : Int32) (hR0 : cd_MoAt N tt ad w0 q u) (hR1 : cd_IaAt N tt ad w0 (q + 1) 18 ma) (hR2 : cd_IaAt N tt ad w0 (q + 5) 3 mr) (ho : o_Mo_above u ma mr k0) : Met l y_Mo_above w_Mo_above ({ frames := 0, cells := 0, slots := 0, locals := 0 }) (va_Pc [.ref (ad q), .int k0] (cd_U D tt ad N A zs w0)) (va_Qi (fun r w' => (f_Mo_above u ma mr k0) = r ∧ w0 = w') (fun w' t => cd_P D ad N A w' t.heap) A) 0 0 A := by
  refine Met.ofW (cc := b_Mo_above) (maxL := 4) (ret := (some .int)) (by decide) rfl ?_
  intro p e s m args below meth c s₁ B hml hv
  obtain ⟨rfl, hP, hK, hZ⟩ := hv
  have hx := B.exec
  have hb := B.bytes
  have hr := B.returns
  have hA : ∀ w ∈ cd_AW, w.before _ s = true := fun w h => atoms_spec (ws := w_Mo_above) B.pre w (List.mem_cons_of_mem _ h)
  have hown : s.vm.findClass R_Mo = some m.cls := findClass_of_methodNamed B.named
  have hlocks := B.notSynchronized
  have L4 : ∀ (gn : Nat) (x2 : Int32) (x3 : Int32) (H : Heap) (locs : List Loc) (ls : Array Slot), lv_has ls 4 [(0, .ref (ad q)), (1, .int k0), (2, .int x2), (3, .int x3)] → (f_Mo_above u ma mr k0) = f_Mo_above_L4 u ma mr k0 gn x2 x3 → cd_MoAt N tt ad w0 q u → cd_IaAt N tt ad w0 (q + 1) 18 ma → cd_IaAt N tt ad w0 (q + 5) 3 mr → cd_P D ad N A w0 H → va_S A s.heap H locs → o_Mo_above_L4 u ma mr k0 gn x2 x3 → W p l e (headSpec w_Mo_above ({ frames := 0, cells := 0, slots := 0, locals := 0 })).room s m [.ref (ad q), .int k0].toArray below meth c H locs 0 0 (MQ below (va_Qi (fun r w' => (f_Mo_above u ma mr k0) = r ∧ w0 = w') (fun w' t => cd_P D ad N A w' t.heap) A) [.ref (ad q), .int k0].toArray s 0 0 A) (F0 m 4 ls []) := by
    intro gn
    induction gn with
    | zero => intro x2 x3 H locs ls hl he hL0 hL1 hL2 hP hS ho; exact ho.elim
    | succ gn ih =>
      intro x2 x3 H locs ls hl he hL0 hL1 hL2 hP hS ho
      have ho : (vp_in (0 : Int32) 3) ∧ (¬ (mr (0 : Int32).toNatClampNeg) ≤ x3 → vp_in x3 18) ∧ (¬ (mr (0 : Int32).toNatClampNeg) ≤ x3 → (ma x3.toNatClampNeg) ≤ k0 → o_Mo_above_L4 u ma mr k0 gn x2 (x3 + (1 : Int32))) ∧ (¬ (mr (0 : Int32).toNatClampNeg) ≤ x3 → ¬ (ma x3.toNatClampNeg) ≤ k0 → x2 = (-1 : Int32) → o_Mo_above_L4 u ma mr k0 gn x3 (x3 + (1 : Int32))) ∧ (¬ (mr (0 : Int32).toNatClampNeg) ≤ x3 → ¬ (ma x3.toNatClampNeg) ≤ k0 → ¬ x2 = (-1 : Int32) → vp_in x3 18) ∧ (¬ (mr (0 : Int32).toNatClampNeg) ≤ x3 → ¬ (ma x3.toNatClampNeg) ≤ k0 → ¬ x2 = (-1 : Int32) → vp_in x2 18) ∧ (¬ (mr (0 : Int32).toNatClampNeg) ≤ x3 → ¬ (ma x3.toNatClampNeg) ≤ k0 → ¬ x2 = (-1 : Int32) → (ma x2.toNatClampNeg) ≤ (ma x3.toNatClampNeg) → o_Mo_above_L4 u ma mr k0 gn x2 (x3 + (1 : Int32))) ∧ (¬ (mr (0 : Int32).toNatClampNeg) ≤ x3 → ¬ (ma x3.toNatClampNeg) ≤ k0 → ¬ x2 = (-1 : Int32) → ¬ (ma x2.toNatClampNeg) ≤ (ma x3.toNatClampNeg) → o_Mo_above_L4 u ma mr k0 gn x3 (x3 + (1 : Int32))) := ho
      obtain ⟨hn1, fa2⟩ := hL0
      refine lv_iload_n hx hb d_Mo_above_4 rfl (lv_at hl 3 rfl) ?_
      refine lv_aload_n hx hb d_Mo_above_5 rfl (lv_at hl 0 rfl) ?_
      refine g_get (ci := 7) (C := R_Mo) (T := F_Mo) (Nf := 16) (v := .ref (ad (q + 5))) hx hb hA in_Mo hown hK hP (k := q) (by omega) fa2 rfl 5 (by decide) (hA _ aw_565) (fun _ h9 => h9) rfl d_Mo_above_6 ?_
      refine lv_iconst (v := (0 : Int32)) hx hb d_Mo_above_9 (by decide) ?_
      obtain ⟨hn3, fa4⟩ := hL2
      refine g_iald hx hb hK hP (k := (q + 5)) (by omega) fa4 rfl (ho.1) d_Mo_above_10 ?_
      refine lv_icmp_ge (tgt := 52) hx hb d_Mo_above_11 (by decide) (fun hc5 => ?_) (fun hc5 => ?_)
      · refine lv_iload_n hx hb d_Mo_above_52 rfl (lv_at hl 2 rfl) ?_
        have hf6 : (f_Mo_above u ma mr k0) = x2 := by rw [he, f_Mo_above_L4, if_pos hc5]
        exact W.iret (v := x2) hx hb hr (fun tE ht _ => ⟨⟨_, w0, rfl, ⟨hf6, rfl⟩, cd_Pt ht hP⟩, hS.F ht⟩) hS.2.2 d_Mo_above_53
      · refine lv_aload_n hx hb d_Mo_above_14 rfl (lv_at hl 0 rfl) ?_
        refine g_get (ci := 7) (C := R_Mo) (T := F_Mo) (Nf := 16) (v := .ref (ad (q + 1))) hx hb hA in_Mo hown hK hP (k := q) (by omega) fa2 rfl 1 (by decide) (hA _ aw_561) (fun _ h9 => h9) rfl d_Mo_above_15 ?_
        refine lv_iload_n hx hb d_Mo_above_18 rfl (lv_at hl 3 rfl) ?_
        obtain ⟨hn7, fa8⟩ := hL1
        refine g_iald hx hb hK hP (k := (q + 1)) (by omega) fa8 rfl (ho.2.1 hc5) d_Mo_above_19 ?_
        refine lv_iload_n hx hb d_Mo_above_20 rfl (lv_at hl 1 rfl) ?_
        refine lv_icmp_le (tgt := 46) hx hb d_Mo_above_21 (by decide) (fun hc9 => ?_) (fun hc9 => ?_)
        · refine lv_iinc (k := 3) (v := (x3 + (1 : Int32))) (lv' := [(3, .int (x3 + (1 : Int32))), (0, .ref (ad q)), (1, .int k0), (2, .int x2)]) hx hb d_Mo_above_46 hl rfl (cd_inc _ _ _ (by decide)) (by decide) rfl (fun ls hl => ?_)
          refine lv_goto (tgt := 4) hx hb d_Mo_above_49 (by decide) ?_
          exact ih x2 (x3 + (1 : Int32)) H locs ls (lv_sub hl [1, 2, 3, 0] rfl) (show (f_Mo_above u ma mr k0) = f_Mo_above_L4 u ma mr k0 gn x2 (x3 + (1 : Int32)) by rw [he, f_Mo_above_L4, if_neg hc5, if_pos hc9]) (⟨hn1, fa2⟩) (⟨hn7, fa8⟩) (⟨hn3, fa4⟩) hP hS (ho.2.2.1 hc5 hc9)
        · refine lv_iload_n hx hb d_Mo_above_24 rfl (lv_at hl 2 rfl) ?_
          refine lv_iconst (v := (-1 : Int32)) hx hb d_Mo_above_25 (by decide) ?_
          refine lv_icmp_eq (tgt := 44) hx hb d_Mo_above_26 (by decide) (fun hc10 => ?_) (fun hc10 => ?_)
          · refine lv_iload_n hx hb d_Mo_above_44 rfl (lv_at hl 3 rfl) ?_
            refine lv_istore_n (lv' := [(2, .int x3), (0, .ref (ad q)), (1, .int k0), (3, .int x3)]) hx hb d_Mo_above_45 rfl hl (by decide) rfl (fun ls hl => ?_)
            refine lv_iinc (k := 3) (v := (x3 + (1 : Int32))) (lv' := [(3, .int (x3 + (1 : Int32))), (2, .int x3), (0, .ref (ad q)), (1, .int k0)]) hx hb d_Mo_above_46 hl rfl (cd_inc _ _ _ (by decide)) (by decide) rfl (fun ls hl => ?_)
            refine lv_goto (tgt := 4) hx hb d_Mo_above_49 (by decide) ?_
            exact ih x3 (x3 + (1 : Int32)) H locs ls (lv_sub hl [2, 3, 1, 0] rfl) (show (f_Mo_above u ma mr k0) = f_Mo_above_L4 u ma mr k0 gn x3 (x3 + (1 : Int32)) by rw [he, f_Mo_above_L4, if_neg hc5, if_neg hc9, if_pos hc10]) (⟨hn1, fa2⟩) (⟨hn7, fa8⟩) (⟨hn3, fa4⟩) hP hS (ho.2.2.2.1 hc5 hc9 hc10)
          · refine lv_aload_n hx hb d_Mo_above_29 rfl (lv_at hl 0 rfl) ?_
            refine g_get (ci := 7) (C := R_Mo) (T := F_Mo) (Nf := 16) (v := .ref (ad (q + 1))) hx hb hA in_Mo hown hK hP (k := q) (by omega) fa2 rfl 1 (by decide) (hA _ aw_561) (fun _ h9 => h9) rfl d_Mo_above_30 ?_
            refine lv_iload_n hx hb d_Mo_above_33 rfl (lv_at hl 3 rfl) ?_
            refine g_iald hx hb hK hP (k := (q + 1)) (by omega) fa8 rfl (ho.2.2.2.2.1 hc5 hc9 hc10) d_Mo_above_34 ?_
            refine lv_aload_n hx hb d_Mo_above_35 rfl (lv_at hl 0 rfl) ?_
            refine g_get (ci := 7) (C := R_Mo) (T := F_Mo) (Nf := 16) (v := .ref (ad (q + 1))) hx hb hA in_Mo hown hK hP (k := q) (by omega) fa2 rfl 1 (by decide) (hA _ aw_561) (fun _ h9 => h9) rfl d_Mo_above_36 ?_
            refine lv_iload_n hx hb d_Mo_above_39 rfl (lv_at hl 2 rfl) ?_
            refine g_iald hx hb hK hP (k := (q + 1)) (by omega) fa8 rfl (ho.2.2.2.2.2.1 hc5 hc9 hc10) d_Mo_above_40 ?_
            refine lv_icmp_ge (tgt := 46) hx hb d_Mo_above_41 (by decide) (fun hc11 => ?_) (fun hc11 => ?_)
            · refine lv_iinc (k := 3) (v := (x3 + (1 : Int32))) (lv' := [(3, .int (x3 + (1 : Int32))), (0, .ref (ad q)), (1, .int k0), (2, .int x2)]) hx hb d_Mo_above_46 hl rfl (cd_inc _ _ _ (by decide)) (by decide) rfl (fun ls hl => ?_)
              refine lv_goto (tgt := 4) hx hb d_Mo_above_49 (by decide) ?_
              exact ih x2 (x3 + (1 : Int32)) H locs ls (lv_sub hl [1, 2, 3, 0] rfl) (show (f_Mo_above u ma mr k0) = f_Mo_above_L4 u ma mr k0 gn x2 (x3 + (1 : Int32)) by rw [he, f_Mo_above_L4, if_neg hc5, if_neg hc9, if_neg hc10, if_pos hc11]) (⟨hn1, fa2⟩) (⟨hn7, fa8⟩) (⟨hn3, fa4⟩) hP hS (ho.2.2.2.2.2.2.1 hc5 hc9 hc10 hc11)
            · refine lv_iload_n hx hb d_Mo_above_44 rfl (lv_at hl 3 rfl) ?_
              refine lv_istore_n (lv' := [(2, .int x3), (0, .ref (ad q)), (1, .int k0), (3, .int x3)]) hx hb d_Mo_above_45 rfl hl (by decide) rfl (fun ls hl => ?_)
              refine lv_iinc (k := 3) (v := (x3 + (1 : Int32))) (lv' := [(3, .int (x3 + (1 : Int32))), (2, .int x3), (0, .ref (ad q)), (1, .int k0)]) hx hb d_Mo_above_46 hl rfl (cd_inc _ _ _ (by decide)) (by decide) rfl (fun ls hl => ?_)
              refine lv_goto (tgt := 4) hx hb d_Mo_above_49 (by decide) ?_
              exact ih x3 (x3 + (1 : Int32)) H locs ls (lv_sub hl [2, 3, 1, 0] rfl) (show (f_Mo_above u ma mr k0) = f_Mo_above_L4 u ma mr k0 gn x3 (x3 + (1 : Int32)) by rw [he, f_Mo_above_L4, if_neg hc5, if_neg hc9, if_neg hc10, if_neg hc11]) (⟨hn1, fa2⟩) (⟨hn7, fa8⟩) (⟨hn3, fa4⟩) hP hS (ho.2.2.2.2.2.2.2 hc5 hc9 hc10 hc11)
  have hS : va_S A s.heap s.heap [] := va_S.rf
  have hl := lv_entry ([.ref (ad q), .int k0]) (n := 4) (Nat.le_of_ble_eq_true rfl)
  rw [lg_entry_eq]
  generalize (lg_sl ([.ref (ad q), .int k0]) ++ List.replicate (4 - (lg_sl ([.ref (ad q), .int k0])).length) Slot.unset).toArray = ls at hl ⊢
  have hl : lv_has ls 4 [(0, .ref (ad q)), (1, .int k0)] := hl
  have ho : (o_Mo_above_L4 u ma mr k0 7 (-1 : Int32) (0 : Int32)) := ho
  obtain ⟨hn12, fa13⟩ := hR0
  refine lv_iconst (v := (-1 : Int32)) hx hb d_Mo_above_0 (by decide) ?_
  refine lv_istore_n (lv' := [(2, .int (-1 : Int32)), (0, .ref (ad q)), (1, .int k0)]) hx hb d_Mo_above_1 rfl hl (by decide) rfl (fun ls hl => ?_)
  refine lv_iconst (v := (0 : Int32)) hx hb d_Mo_above_2 (by decide) ?_
  refine lv_istore_n (lv' := [(3, .int (0 : Int32)), (2, .int (-1 : Int32)), (0, .ref (ad q)), (1, .int k0)]) hx hb d_Mo_above_3 rfl hl (by decide) rfl (fun ls hl => ?_)
  exact L4 7 (-1 : Int32) (0 : Int32) s.heap [] ls (lv_sub hl [2, 3, 1, 0] rfl) (show (f_Mo_above u ma mr k0) = f_Mo_above_L4 u ma mr k0 7 (-1 : Int32) (0 : Int32) by rw [f_Mo_above]) (⟨hn12, fa13⟩) hR1 hR2 hP hS (ho)
def f_Mo_programHeader (S : cd_Mo × cd_By) (k0 : Int32) (k1 : Int32) (k2 : Int32) (k3 : Int32) (k4 : Int32) (k5 : Int32) (k6 : Int32) : cd_Mo × cd_By := ((f_Mo_four (f_Mo_four (f_Mo_four (f_Mo_four (f_Mo_four (f_Mo_four (f_Mo_four (f_Mo_four S k0) k1) k2) (0 : Int32)) k3) k4) k5) k6).1, (f_Mo_four (f_Mo_four (f_Mo_four (f_Mo_four (f_Mo_four (f_Mo_four (f_Mo_four (f_Mo_four S k0) k1) k2) (0 : Int32)) k3) k4) k5) k6).2)
def o_Mo_programHeader (S : cd_Mo × cd_By) (k0 : Int32) (k1 : Int32) (k2 : Int32) (k3 : Int32) (k4 : Int32) (k5 : Int32) (k6 : Int32) : Prop := (o_Mo_four S k0) ∧ (o_Mo_four (f_Mo_four S k0) k1) ∧ (o_Mo_four (f_Mo_four (f_Mo_four S k0) k1) k2) ∧ (o_Mo_four (f_Mo_four (f_Mo_four (f_Mo_four S k0) k1) k2) (0 : Int32)) ∧ (o_Mo_four (f_Mo_four (f_Mo_four (f_Mo_four (f_Mo_four S k0) k1) k2) (0 : Int32)) k3) ∧ (o_Mo_four (f_Mo_four (f_Mo_four (f_Mo_four (f_Mo_four (f_Mo_four S k0) k1) k2) (0 : Int32)) k3) k4) ∧ (o_Mo_four (f_Mo_four (f_Mo_four (f_Mo_four (f_Mo_four (f_Mo_four (f_Mo_four S k0) k1) k2) (0 : Int32)) k3) k4) k5) ∧ (o_Mo_four (f_Mo_four (f_Mo_four (f_Mo_four (f_Mo_four (f_Mo_four (f_Mo_four (f_Mo_four S k0) k1) k2) (0 : Int32)) k3) k4) k5) k6)
set_option maxHeartbeats 4000000 in
set_option maxRecDepth 100000 in
theorem c_Mo_programHeader (l : Launch) (D : va_G) (tt : Nat → ClassId) (ad : Nat → Nat) (N : Nat) (A : Nat → Prop) (zs : Nat → Nat) (w0 : Nat → va_E) (q : Nat) (S : cd_Mo × cd_By) (k0 : Int32) (k1 : Int32) (k2 : Int32) (k3 : Int32) (k4 : Int32) (k5 : Int32) (k6 : Int32) (hR0 : cd_MoAt N tt ad w0 q S.1) (hR1 : cd_ByAt N tt ad w0 (q + 9) 8192 S.2) (ho : o_Mo_programHeader S k0 k1 k2 k3 k4 k5 k6) : Met l y_Mo_programHeader w_Mo_programHeader ({ frames := 3, cells := 0, slots := 0, locals := 63 }) (va_Pc [.ref (ad q), .int k0, .int k1, .int k2, .int k3, .int k4, .int k5, .int k6] (cd_U D tt ad N A zs w0)) (va_Qv (fun w' => cd_MoAt N tt ad w' q ((f_Mo_programHeader S k0 k1 k2 k3 k4 k5 k6).1) ∧ cd_ByAt N tt ad w' (q + 9) 8192 ((f_Mo_programHeader S k0 k1 k2 k3 k4 k5 k6).2) ∧ (∀ k : Nat, (k < q ∨ q + 1 ≤ k) ∧ (k < (q + 9) ∨ (q + 9) + 1 ≤ k) → w' k = w0 k)) (fun w' t => cd_P D ad N A w' t.heap) A) 0 0 A := by
  refine Met.ofW (cc := b_Mo_programHeader) (maxL := 8) (ret := none) (by decide) rfl ?_
  intro p e s m args below meth c s₁ B hml hv
  obtain ⟨rfl, hP, hK, hZ⟩ := hv
  have hx := B.exec
  have hb := B.bytes
  have hr := B.returns
  have hA : ∀ w ∈ cd_AW, w.before _ s = true := fun w h => atoms_spec (ws := w_Mo_programHeader) B.pre w (List.mem_cons_of_mem _ h)
  have hown : s.vm.findClass R_Mo = some m.cls := findClass_of_methodNamed B.named
  have hlocks := B.notSynchronized
  have hS : va_S A s.heap s.heap [] := va_S.rf
  have hl := lv_entry ([.ref (ad q), .int k0, .int k1, .int k2, .int k3, .int k4, .int k5, .int k6]) (n := 8) (Nat.le_of_ble_eq_true rfl)
  rw [lg_entry_eq]
  generalize (lg_sl ([.ref (ad q), .int k0, .int k1, .int k2, .int k3, .int k4, .int k5, .int k6]) ++ List.replicate (8 - (lg_sl ([.ref (ad q), .int k0, .int k1, .int k2, .int k3, .int k4, .int k5, .int k6])).length) Slot.unset).toArray = ls at hl ⊢
  have hl : lv_has ls 8 [(0, .ref (ad q)), (1, .int k0), (2, .int k1), (3, .int k2), (4, .int k3), (5, .int k4), (6, .int k5), (7, .int k6)] := hl
  have ho : (o_Mo_four S k0) ∧ (o_Mo_four (f_Mo_four S k0) k1) ∧ (o_Mo_four (f_Mo_four (f_Mo_four S k0) k1) k2) ∧ (o_Mo_four (f_Mo_four (f_Mo_four (f_Mo_four S k0) k1) k2) (0 : Int32)) ∧ (o_Mo_four (f_Mo_four (f_Mo_four (f_Mo_four (f_Mo_four S k0) k1) k2) (0 : Int32)) k3) ∧ (o_Mo_four (f_Mo_four (f_Mo_four (f_Mo_four (f_Mo_four (f_Mo_four S k0) k1) k2) (0 : Int32)) k3) k4) ∧ (o_Mo_four (f_Mo_four (f_Mo_four (f_Mo_four (f_Mo_four (f_Mo_four (f_Mo_four S k0) k1) k2) (0 : Int32)) k3) k4) k5) ∧ (o_Mo_four (f_Mo_four (f_Mo_four (f_Mo_four (f_Mo_four (f_Mo_four (f_Mo_four (f_Mo_four S k0) k1) k2) (0 : Int32)) k3) k4) k5) k6) := ho
  obtain ⟨hn1, fa2⟩ := hR0
  refine lv_aload_n hx hb d_Mo_programHeader_0 rfl (lv_at hl 0 rfl) ?_
  refine lv_iload_n hx hb d_Mo_programHeader_1 rfl (lv_at hl 1 rfl) ?_
  refine va_callv (va_runV (As := [.int k0]) (rest := []) ⟨hx, hb, hml, hown, hA⟩ (c_Mo_four l D tt ad N A zs w0 q S k0 (⟨hn1, fa2⟩) hR1 (ho.1)) (cwV 1 hA (cd_gV aw_643 aw_644 aw_790 aw_8 aw_645) rfl rfl rfl ⟨rfl, by decide, by decide, by decide +kernel⟩ ⟨Nat.le_of_ble_eq_true rfl, Nat.le_of_ble_eq_true rfl⟩) ⟨cd_blind, cd_recv hK hP (k := q) (by omega) fa2 rfl, fun U hU hW => ⟨rfl, cd_pre hK hP hZ hS U hU hW⟩⟩ rfl rfl hl.1 rfl (lv_room (Nat.le_of_ble_eq_true rfl)) d_Mo_programHeader_2 ⟨Nat.zero_le _, Nat.zero_le _⟩) hS (fun _ _ h => h) (fun _ h => h) (fun w1 tE H locs ht hvm hr4 hP hz1 hk1 hS => ?_)
  have hP := cd_Pf ht hP
  obtain ⟨at6, at7, e1⟩ := hr4
  obtain ⟨hn8, fa9⟩ := at6
  refine lv_aload_n hx hb d_Mo_programHeader_5 rfl (lv_at hl 0 rfl) ?_
  refine lv_iload_n hx hb d_Mo_programHeader_6 rfl (lv_at hl 2 rfl) ?_
  refine va_callv (va_runV (As := [.int k1]) (rest := []) ⟨hx, hb, hml, hown, hA⟩ (c_Mo_four l D tt ad N A zs w1 q (f_Mo_four S k0) k1 (⟨hn8, fa9⟩) at7 (ho.2.1)) (cwV 1 hA (cd_gV aw_643 aw_644 aw_790 aw_8 aw_645) rfl rfl rfl ⟨rfl, by decide, by decide, by decide +kernel⟩ ⟨Nat.le_of_ble_eq_true rfl, Nat.le_of_ble_eq_true rfl⟩) ⟨cd_blind, cd_recv hK hP (k := q) (by omega) fa9 rfl, fun U hU hW => ⟨rfl, cd_pre hK hP hZ hS U hU hW⟩⟩ rfl rfl hl.1 rfl (lv_room (Nat.le_of_ble_eq_true rfl)) d_Mo_programHeader_7 ⟨Nat.zero_le _, Nat.zero_le _⟩) hS (fun _ _ h => h) (fun _ h => h) (fun w2 tE H locs ht hvm hr11 hP hz1 hk1 hS => ?_)
  have hP := cd_Pf ht hP
  obtain ⟨at13, at14, e2⟩ := hr11
  obtain ⟨hn15, fa16⟩ := at13
  refine lv_aload_n hx hb d_Mo_programHeader_10 rfl (lv_at hl 0 rfl) ?_
  refine lv_iload_n hx hb d_Mo_programHeader_11 rfl (lv_at hl 3 rfl) ?_
  refine va_callv (va_runV (As := [.int k2]) (rest := []) ⟨hx, hb, hml, hown, hA⟩ (c_Mo_four l D tt ad N A zs w2 q (f_Mo_four (f_Mo_four S k0) k1) k2 (⟨hn15, fa16⟩) at14 (ho.2.2.1)) (cwV 1 hA (cd_gV aw_643 aw_644 aw_790 aw_8 aw_645) rfl rfl rfl ⟨rfl, by decide, by decide, by decide +kernel⟩ ⟨Nat.le_of_ble_eq_true rfl, Nat.le_of_ble_eq_true rfl⟩) ⟨cd_blind, cd_recv hK hP (k := q) (by omega) fa16 rfl, fun U hU hW => ⟨rfl, cd_pre hK hP hZ hS U hU hW⟩⟩ rfl rfl hl.1 rfl (lv_room (Nat.le_of_ble_eq_true rfl)) d_Mo_programHeader_12 ⟨Nat.zero_le _, Nat.zero_le _⟩) hS (fun _ _ h => h) (fun _ h => h) (fun w3 tE H locs ht hvm hr18 hP hz1 hk1 hS => ?_)
  have hP := cd_Pf ht hP
  obtain ⟨at20, at21, e3⟩ := hr18
  obtain ⟨hn22, fa23⟩ := at20
  refine lv_aload_n hx hb d_Mo_programHeader_15 rfl (lv_at hl 0 rfl) ?_
  refine lv_iconst (v := (0 : Int32)) hx hb d_Mo_programHeader_16 (by decide) ?_
  refine va_callv (va_runV (As := [.int (0 : Int32)]) (rest := []) ⟨hx, hb, hml, hown, hA⟩ (c_Mo_four l D tt ad N A zs w3 q (f_Mo_four (f_Mo_four (f_Mo_four S k0) k1) k2) (0 : Int32) (⟨hn22, fa23⟩) at21 (ho.2.2.2.1)) (cwV 1 hA (cd_gV aw_643 aw_644 aw_790 aw_8 aw_645) rfl rfl rfl ⟨rfl, by decide, by decide, by decide +kernel⟩ ⟨Nat.le_of_ble_eq_true rfl, Nat.le_of_ble_eq_true rfl⟩) ⟨cd_blind, cd_recv hK hP (k := q) (by omega) fa23 rfl, fun U hU hW => ⟨rfl, cd_pre hK hP hZ hS U hU hW⟩⟩ rfl rfl hl.1 rfl (lv_room (Nat.le_of_ble_eq_true rfl)) d_Mo_programHeader_17 ⟨Nat.zero_le _, Nat.zero_le _⟩) hS (fun _ _ h => h) (fun _ h => h) (fun w4 tE H locs ht hvm hr25 hP hz1 hk1 hS => ?_)
  have hP := cd_Pf ht hP
  obtain ⟨at27, at28, e4⟩ := hr25
  obtain ⟨hn29, fa30⟩ := at27
  refine lv_aload_n hx hb d_Mo_programHeader_20 rfl (lv_at hl 0 rfl) ?_
  refine lv_iload hx hb d_Mo_programHeader_21 (lv_at hl 4 rfl) ?_
  refine va_callv (va_runV (As := [.int k3]) (rest := []) ⟨hx, hb, hml, hown, hA⟩ (c_Mo_four l D tt ad N A zs w4 q (f_Mo_four (f_Mo_four (f_Mo_four (f_Mo_four S k0) k1) k2) (0 : Int32)) k3 (⟨hn29, fa30⟩) at28 (ho.2.2.2.2.1)) (cwV 1 hA (cd_gV aw_643 aw_644 aw_790 aw_8 aw_645) rfl rfl rfl ⟨rfl, by decide, by decide, by decide +kernel⟩ ⟨Nat.le_of_ble_eq_true rfl, Nat.le_of_ble_eq_true rfl⟩) ⟨cd_blind, cd_recv hK hP (k := q) (by omega) fa30 rfl, fun U hU hW => ⟨rfl, cd_pre hK hP hZ hS U hU hW⟩⟩ rfl rfl hl.1 rfl (lv_room (Nat.le_of_ble_eq_true rfl)) d_Mo_programHeader_23 ⟨Nat.zero_le _, Nat.zero_le _⟩) hS (fun _ _ h => h) (fun _ h => h) (fun w5 tE H locs ht hvm hr32 hP hz1 hk1 hS => ?_)
  have hP := cd_Pf ht hP
  obtain ⟨at34, at35, e5⟩ := hr32
  obtain ⟨hn36, fa37⟩ := at34
  refine lv_aload_n hx hb d_Mo_programHeader_26 rfl (lv_at hl 0 rfl) ?_
  refine lv_iload hx hb d_Mo_programHeader_27 (lv_at hl 5 rfl) ?_
  refine va_callv (va_runV (As := [.int k4]) (rest := []) ⟨hx, hb, hml, hown, hA⟩ (c_Mo_four l D tt ad N A zs w5 q (f_Mo_four (f_Mo_four (f_Mo_four (f_Mo_four (f_Mo_four S k0) k1) k2) (0 : Int32)) k3) k4 (⟨hn36, fa37⟩) at35 (ho.2.2.2.2.2.1)) (cwV 1 hA (cd_gV aw_643 aw_644 aw_790 aw_8 aw_645) rfl rfl rfl ⟨rfl, by decide, by decide, by decide +kernel⟩ ⟨Nat.le_of_ble_eq_true rfl, Nat.le_of_ble_eq_true rfl⟩) ⟨cd_blind, cd_recv hK hP (k := q) (by omega) fa37 rfl, fun U hU hW => ⟨rfl, cd_pre hK hP hZ hS U hU hW⟩⟩ rfl rfl hl.1 rfl (lv_room (Nat.le_of_ble_eq_true rfl)) d_Mo_programHeader_29 ⟨Nat.zero_le _, Nat.zero_le _⟩) hS (fun _ _ h => h) (fun _ h => h) (fun w6 tE H locs ht hvm hr39 hP hz1 hk1 hS => ?_)
  have hP := cd_Pf ht hP
  obtain ⟨at41, at42, e6⟩ := hr39
  obtain ⟨hn43, fa44⟩ := at41
  refine lv_aload_n hx hb d_Mo_programHeader_32 rfl (lv_at hl 0 rfl) ?_
  refine lv_iload hx hb d_Mo_programHeader_33 (lv_at hl 6 rfl) ?_
  refine va_callv (va_runV (As := [.int k5]) (rest := []) ⟨hx, hb, hml, hown, hA⟩ (c_Mo_four l D tt ad N A zs w6 q (f_Mo_four (f_Mo_four (f_Mo_four (f_Mo_four (f_Mo_four (f_Mo_four S k0) k1) k2) (0 : Int32)) k3) k4) k5 (⟨hn43, fa44⟩) at42 (ho.2.2.2.2.2.2.1)) (cwV 1 hA (cd_gV aw_643 aw_644 aw_790 aw_8 aw_645) rfl rfl rfl ⟨rfl, by decide, by decide, by decide +kernel⟩ ⟨Nat.le_of_ble_eq_true rfl, Nat.le_of_ble_eq_true rfl⟩) ⟨cd_blind, cd_recv hK hP (k := q) (by omega) fa44 rfl, fun U hU hW => ⟨rfl, cd_pre hK hP hZ hS U hU hW⟩⟩ rfl rfl hl.1 rfl (lv_room (Nat.le_of_ble_eq_true rfl)) d_Mo_programHeader_35 ⟨Nat.zero_le _, Nat.zero_le _⟩) hS (fun _ _ h => h) (fun _ h => h) (fun w7 tE H locs ht hvm hr46 hP hz1 hk1 hS => ?_)
  have hP := cd_Pf ht hP
  obtain ⟨at48, at49, e7⟩ := hr46
  obtain ⟨hn50, fa51⟩ := at48
  refine lv_aload_n hx hb d_Mo_programHeader_38 rfl (lv_at hl 0 rfl) ?_
  refine lv_iload hx hb d_Mo_programHeader_39 (lv_at hl 7 rfl) ?_
  refine va_callv (va_runV (As := [.int k6]) (rest := []) ⟨hx, hb, hml, hown, hA⟩ (c_Mo_four l D tt ad N A zs w7 q (f_Mo_four (f_Mo_four (f_Mo_four (f_Mo_four (f_Mo_four (f_Mo_four (f_Mo_four S k0) k1) k2) (0 : Int32)) k3) k4) k5) k6 (⟨hn50, fa51⟩) at49 (ho.2.2.2.2.2.2.2)) (cwV 1 hA (cd_gV aw_643 aw_644 aw_790 aw_8 aw_645) rfl rfl rfl ⟨rfl, by decide, by decide, by decide +kernel⟩ ⟨Nat.le_of_ble_eq_true rfl, Nat.le_of_ble_eq_true rfl⟩) ⟨cd_blind, cd_recv hK hP (k := q) (by omega) fa51 rfl, fun U hU hW => ⟨rfl, cd_pre hK hP hZ hS U hU hW⟩⟩ rfl rfl hl.1 rfl (lv_room (Nat.le_of_ble_eq_true rfl)) d_Mo_programHeader_41 ⟨Nat.zero_le _, Nat.zero_le _⟩) hS (fun _ _ h => h) (fun _ h => h) (fun w8 tE H locs ht hvm hr53 hP hz1 hk1 hS => ?_)
  have hP := cd_Pf ht hP
  obtain ⟨at55, at56, e8⟩ := hr53
  obtain ⟨hn57, fa58⟩ := at55
  have hf59 : (f_Mo_programHeader S k0 k1 k2 k3 k4 k5 k6) = ((f_Mo_four (f_Mo_four (f_Mo_four (f_Mo_four (f_Mo_four (f_Mo_four (f_Mo_four (f_Mo_four S k0) k1) k2) (0 : Int32)) k3) k4) k5) k6).1, (f_Mo_four (f_Mo_four (f_Mo_four (f_Mo_four (f_Mo_four (f_Mo_four (f_Mo_four (f_Mo_four S k0) k1) k2) (0 : Int32)) k3) k4) k5) k6).2) := by rw [f_Mo_programHeader]
  exact W.vret hx hb hr (fun tE ht _ => ⟨⟨w8, rfl, ⟨(by rw [hf59]; exact ⟨hn57, fa58⟩), (by rw [hf59]; exact at56), (fun k hk => ((e8 k (by omega)).trans ((e7 k (by omega)).trans ((e6 k (by omega)).trans ((e5 k (by omega)).trans ((e4 k (by omega)).trans ((e3 k (by omega)).trans ((e2 k (by omega)).trans (e1 k (by omega))))))))))⟩, cd_Pt ht hP⟩, hS.F ht⟩) hS.2.2 d_Mo_programHeader_44
