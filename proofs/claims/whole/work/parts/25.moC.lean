def f_Mo_header_L26 (S : cd_Mo × cd_By) (mr : cd_Ia) : Nat → Int32 → (cd_Mo × cd_By) → cd_Mo × cd_By
  | 0, _, _ => default
  | gn + 1, x1, S' => (if (12 : Int32) ≤ x1 then ((f_Mo_two (f_Mo_two (f_Mo_two (f_Mo_two (f_Mo_two (f_Mo_two (f_Mo_four (f_Mo_four (f_Mo_four (f_Mo_four (f_Mo_four (f_Mo_two (f_Mo_two S' (4 : Int32)) (8 : Int32)) (1 : Int32)) (0 : Int32)) (52 : Int32)) (0 : Int32)) (0 : Int32)) (52 : Int32)) (32 : Int32)) ((mr (0 : Int32).toNatClampNeg) + (1 : Int32))) (0 : Int32)) (0 : Int32)) (0 : Int32)).1, (f_Mo_two (f_Mo_two (f_Mo_two (f_Mo_two (f_Mo_two (f_Mo_two (f_Mo_four (f_Mo_four (f_Mo_four (f_Mo_four (f_Mo_four (f_Mo_two (f_Mo_two S' (4 : Int32)) (8 : Int32)) (1 : Int32)) (0 : Int32)) (52 : Int32)) (0 : Int32)) (0 : Int32)) (52 : Int32)) (32 : Int32)) ((mr (0 : Int32).toNatClampNeg) + (1 : Int32))) (0 : Int32)) (0 : Int32)) (0 : Int32)).2) else (if (3 : Int32) ≤ x1 then (f_Mo_header_L26 S mr gn (x1 + (1 : Int32)) (f_Mo_lay S' (0 : Int32))) else (f_Mo_header_L26 S mr gn (x1 + (1 : Int32)) (f_Mo_lay S' (1 : Int32)))))
def f_Mo_header (S : cd_Mo × cd_By) (mr : cd_Ia) : cd_Mo × cd_By := (f_Mo_header_L26 S mr 13 (0 : Int32) (f_Mo_lay (f_Mo_lay (f_Mo_lay (f_Mo_lay S (127 : Int32)) (69 : Int32)) (76 : Int32)) (70 : Int32)))
def o_Mo_header_L26 (S : cd_Mo × cd_By) (mr : cd_Ia) : Nat → Int32 → (cd_Mo × cd_By) → Prop
  | 0, _, _ => False
  | gn + 1, x1, S' => ((12 : Int32) ≤ x1 → o_Mo_two S' (4 : Int32)) ∧ ((12 : Int32) ≤ x1 → o_Mo_two (f_Mo_two S' (4 : Int32)) (8 : Int32)) ∧ ((12 : Int32) ≤ x1 → o_Mo_four (f_Mo_two (f_Mo_two S' (4 : Int32)) (8 : Int32)) (1 : Int32)) ∧ ((12 : Int32) ≤ x1 → o_Mo_four (f_Mo_four (f_Mo_two (f_Mo_two S' (4 : Int32)) (8 : Int32)) (1 : Int32)) (0 : Int32)) ∧ ((12 : Int32) ≤ x1 → o_Mo_four (f_Mo_four (f_Mo_four (f_Mo_two (f_Mo_two S' (4 : Int32)) (8 : Int32)) (1 : Int32)) (0 : Int32)) (52 : Int32)) ∧ ((12 : Int32) ≤ x1 → o_Mo_four (f_Mo_four (f_Mo_four (f_Mo_four (f_Mo_two (f_Mo_two S' (4 : Int32)) (8 : Int32)) (1 : Int32)) (0 : Int32)) (52 : Int32)) (0 : Int32)) ∧ ((12 : Int32) ≤ x1 → o_Mo_four (f_Mo_four (f_Mo_four (f_Mo_four (f_Mo_four (f_Mo_two (f_Mo_two S' (4 : Int32)) (8 : Int32)) (1 : Int32)) (0 : Int32)) (52 : Int32)) (0 : Int32)) (0 : Int32)) ∧ ((12 : Int32) ≤ x1 → o_Mo_two (f_Mo_four (f_Mo_four (f_Mo_four (f_Mo_four (f_Mo_four (f_Mo_two (f_Mo_two S' (4 : Int32)) (8 : Int32)) (1 : Int32)) (0 : Int32)) (52 : Int32)) (0 : Int32)) (0 : Int32)) (52 : Int32)) ∧ ((12 : Int32) ≤ x1 → o_Mo_two (f_Mo_two (f_Mo_four (f_Mo_four (f_Mo_four (f_Mo_four (f_Mo_four (f_Mo_two (f_Mo_two S' (4 : Int32)) (8 : Int32)) (1 : Int32)) (0 : Int32)) (52 : Int32)) (0 : Int32)) (0 : Int32)) (52 : Int32)) (32 : Int32)) ∧ ((12 : Int32) ≤ x1 → vp_in (0 : Int32) 3) ∧ ((12 : Int32) ≤ x1 → o_Mo_two (f_Mo_two (f_Mo_two (f_Mo_four (f_Mo_four (f_Mo_four (f_Mo_four (f_Mo_four (f_Mo_two (f_Mo_two S' (4 : Int32)) (8 : Int32)) (1 : Int32)) (0 : Int32)) (52 : Int32)) (0 : Int32)) (0 : Int32)) (52 : Int32)) (32 : Int32)) ((mr (0 : Int32).toNatClampNeg) + (1 : Int32))) ∧ ((12 : Int32) ≤ x1 → o_Mo_two (f_Mo_two (f_Mo_two (f_Mo_two (f_Mo_four (f_Mo_four (f_Mo_four (f_Mo_four (f_Mo_four (f_Mo_two (f_Mo_two S' (4 : Int32)) (8 : Int32)) (1 : Int32)) (0 : Int32)) (52 : Int32)) (0 : Int32)) (0 : Int32)) (52 : Int32)) (32 : Int32)) ((mr (0 : Int32).toNatClampNeg) + (1 : Int32))) (0 : Int32)) ∧ ((12 : Int32) ≤ x1 → o_Mo_two (f_Mo_two (f_Mo_two (f_Mo_two (f_Mo_two (f_Mo_four (f_Mo_four (f_Mo_four (f_Mo_four (f_Mo_four (f_Mo_two (f_Mo_two S' (4 : Int32)) (8 : Int32)) (1 : Int32)) (0 : Int32)) (52 : Int32)) (0 : Int32)) (0 : Int32)) (52 : Int32)) (32 : Int32)) ((mr (0 : Int32).toNatClampNeg) + (1 : Int32))) (0 : Int32)) (0 : Int32)) ∧ ((12 : Int32) ≤ x1 → o_Mo_two (f_Mo_two (f_Mo_two (f_Mo_two (f_Mo_two (f_Mo_two (f_Mo_four (f_Mo_four (f_Mo_four (f_Mo_four (f_Mo_four (f_Mo_two (f_Mo_two S' (4 : Int32)) (8 : Int32)) (1 : Int32)) (0 : Int32)) (52 : Int32)) (0 : Int32)) (0 : Int32)) (52 : Int32)) (32 : Int32)) ((mr (0 : Int32).toNatClampNeg) + (1 : Int32))) (0 : Int32)) (0 : Int32)) (0 : Int32)) ∧ (¬ (12 : Int32) ≤ x1 → (3 : Int32) ≤ x1 → o_Mo_lay S' (0 : Int32)) ∧ (¬ (12 : Int32) ≤ x1 → (3 : Int32) ≤ x1 → o_Mo_header_L26 S mr gn (x1 + (1 : Int32)) (f_Mo_lay S' (0 : Int32))) ∧ (¬ (12 : Int32) ≤ x1 → ¬ (3 : Int32) ≤ x1 → o_Mo_lay S' (1 : Int32)) ∧ (¬ (12 : Int32) ≤ x1 → ¬ (3 : Int32) ≤ x1 → o_Mo_header_L26 S mr gn (x1 + (1 : Int32)) (f_Mo_lay S' (1 : Int32)))
def o_Mo_header (S : cd_Mo × cd_By) (mr : cd_Ia) : Prop := (o_Mo_lay S (127 : Int32)) ∧ (o_Mo_lay (f_Mo_lay S (127 : Int32)) (69 : Int32)) ∧ (o_Mo_lay (f_Mo_lay (f_Mo_lay S (127 : Int32)) (69 : Int32)) (76 : Int32)) ∧ (o_Mo_lay (f_Mo_lay (f_Mo_lay (f_Mo_lay S (127 : Int32)) (69 : Int32)) (76 : Int32)) (70 : Int32)) ∧ (o_Mo_header_L26 S mr 13 (0 : Int32) (f_Mo_lay (f_Mo_lay (f_Mo_lay (f_Mo_lay S (127 : Int32)) (69 : Int32)) (76 : Int32)) (70 : Int32)))
set_option maxHeartbeats 4000000 in
set_option maxRecDepth 100000 in
theorem c_Mo_header (l : Launch) (D : va_G) (tt : Nat → ClassId) (ad : Nat → Nat) (N : Nat) (A : Nat → Prop) (zs : Nat → Nat) (w0 : Nat → va_E) (q : Nat) (S : cd_Mo × cd_By) (mr : cd_Ia) (hR0 : cd_MoAt N tt ad w0 q S.1) (hR1 : cd_IaAt N tt ad w0 (q + 5) 3 mr) (hR2 : cd_ByAt N tt ad w0 (q + 9) 8192 S.2) (ho : o_Mo_header S mr) : Met l y_Mo_header w_Mo_header ({ frames := 3, cells := 0, slots := 0, locals := 63 }) (va_Pc [.ref (ad q)] (cd_U D tt ad N A zs w0)) (va_Qv (fun w' => cd_MoAt N tt ad w' q ((f_Mo_header S mr).1) ∧ cd_ByAt N tt ad w' (q + 9) 8192 ((f_Mo_header S mr).2) ∧ (∀ k : Nat, (k < q ∨ q + 1 ≤ k) ∧ (k < (q + 9) ∨ (q + 9) + 1 ≤ k) → w' k = w0 k)) (fun w' t => cd_P D ad N A w' t.heap) A) 0 0 A := by
  refine Met.ofW (cc := b_Mo_header) (maxL := 2) (ret := none) (by decide) rfl ?_
  intro p e s m args below meth c s₁ B hml hv
  obtain ⟨rfl, hP, hK, hZ⟩ := hv
  have hx := B.exec
  have hb := B.bytes
  have hr := B.returns
  have hA : ∀ w ∈ cd_AW, w.before _ s = true := fun w h => atoms_spec (ws := w_Mo_header) B.pre w (List.mem_cons_of_mem _ h)
  have hown : s.vm.findClass R_Mo = some m.cls := findClass_of_methodNamed B.named
  have hlocks := B.notSynchronized
  have L26 : ∀ (gn : Nat) (x1 : Int32) (S' : cd_Mo × cd_By) (w : Nat → va_E) (efr : ∀ k : Nat, (k < q ∨ q + 1 ≤ k) ∧ (k < (q + 9) ∨ (q + 9) + 1 ≤ k) → w k = w0 k) (H : Heap) (locs : List Loc) (ls : Array Slot), lv_has ls 2 [(0, .ref (ad q)), (1, .int x1)] → (f_Mo_header S mr) = f_Mo_header_L26 S mr gn x1 S' → cd_MoAt N tt ad w q S'.1 → cd_IaAt N tt ad w (q + 5) 3 mr → cd_ByAt N tt ad w (q + 9) 8192 S'.2 → cd_P D ad N A w H → va_S A s.heap H locs → o_Mo_header_L26 S mr gn x1 S' → W p l e (headSpec w_Mo_header ({ frames := 3, cells := 0, slots := 0, locals := 63 })).room s m [.ref (ad q)].toArray below meth c H locs 0 0 (MQ below (va_Qv (fun w' => cd_MoAt N tt ad w' q ((f_Mo_header S mr).1) ∧ cd_ByAt N tt ad w' (q + 9) 8192 ((f_Mo_header S mr).2) ∧ (∀ k : Nat, (k < q ∨ q + 1 ≤ k) ∧ (k < (q + 9) ∨ (q + 9) + 1 ≤ k) → w' k = w0 k)) (fun w' t => cd_P D ad N A w' t.heap) A) [.ref (ad q)].toArray s 0 0 A) (F0 m 26 ls []) := by
    intro gn
    induction gn with
    | zero => intro x1 S' w efr H locs ls hl he hL0 hL1 hL2 hP hS ho; exact ho.elim
    | succ gn ih =>
      intro x1 S' w efr H locs ls hl he hL0 hL1 hL2 hP hS ho
      have ho : ((12 : Int32) ≤ x1 → o_Mo_two S' (4 : Int32)) ∧ ((12 : Int32) ≤ x1 → o_Mo_two (f_Mo_two S' (4 : Int32)) (8 : Int32)) ∧ ((12 : Int32) ≤ x1 → o_Mo_four (f_Mo_two (f_Mo_two S' (4 : Int32)) (8 : Int32)) (1 : Int32)) ∧ ((12 : Int32) ≤ x1 → o_Mo_four (f_Mo_four (f_Mo_two (f_Mo_two S' (4 : Int32)) (8 : Int32)) (1 : Int32)) (0 : Int32)) ∧ ((12 : Int32) ≤ x1 → o_Mo_four (f_Mo_four (f_Mo_four (f_Mo_two (f_Mo_two S' (4 : Int32)) (8 : Int32)) (1 : Int32)) (0 : Int32)) (52 : Int32)) ∧ ((12 : Int32) ≤ x1 → o_Mo_four (f_Mo_four (f_Mo_four (f_Mo_four (f_Mo_two (f_Mo_two S' (4 : Int32)) (8 : Int32)) (1 : Int32)) (0 : Int32)) (52 : Int32)) (0 : Int32)) ∧ ((12 : Int32) ≤ x1 → o_Mo_four (f_Mo_four (f_Mo_four (f_Mo_four (f_Mo_four (f_Mo_two (f_Mo_two S' (4 : Int32)) (8 : Int32)) (1 : Int32)) (0 : Int32)) (52 : Int32)) (0 : Int32)) (0 : Int32)) ∧ ((12 : Int32) ≤ x1 → o_Mo_two (f_Mo_four (f_Mo_four (f_Mo_four (f_Mo_four (f_Mo_four (f_Mo_two (f_Mo_two S' (4 : Int32)) (8 : Int32)) (1 : Int32)) (0 : Int32)) (52 : Int32)) (0 : Int32)) (0 : Int32)) (52 : Int32)) ∧ ((12 : Int32) ≤ x1 → o_Mo_two (f_Mo_two (f_Mo_four (f_Mo_four (f_Mo_four (f_Mo_four (f_Mo_four (f_Mo_two (f_Mo_two S' (4 : Int32)) (8 : Int32)) (1 : Int32)) (0 : Int32)) (52 : Int32)) (0 : Int32)) (0 : Int32)) (52 : Int32)) (32 : Int32)) ∧ ((12 : Int32) ≤ x1 → vp_in (0 : Int32) 3) ∧ ((12 : Int32) ≤ x1 → o_Mo_two (f_Mo_two (f_Mo_two (f_Mo_four (f_Mo_four (f_Mo_four (f_Mo_four (f_Mo_four (f_Mo_two (f_Mo_two S' (4 : Int32)) (8 : Int32)) (1 : Int32)) (0 : Int32)) (52 : Int32)) (0 : Int32)) (0 : Int32)) (52 : Int32)) (32 : Int32)) ((mr (0 : Int32).toNatClampNeg) + (1 : Int32))) ∧ ((12 : Int32) ≤ x1 → o_Mo_two (f_Mo_two (f_Mo_two (f_Mo_two (f_Mo_four (f_Mo_four (f_Mo_four (f_Mo_four (f_Mo_four (f_Mo_two (f_Mo_two S' (4 : Int32)) (8 : Int32)) (1 : Int32)) (0 : Int32)) (52 : Int32)) (0 : Int32)) (0 : Int32)) (52 : Int32)) (32 : Int32)) ((mr (0 : Int32).toNatClampNeg) + (1 : Int32))) (0 : Int32)) ∧ ((12 : Int32) ≤ x1 → o_Mo_two (f_Mo_two (f_Mo_two (f_Mo_two (f_Mo_two (f_Mo_four (f_Mo_four (f_Mo_four (f_Mo_four (f_Mo_four (f_Mo_two (f_Mo_two S' (4 : Int32)) (8 : Int32)) (1 : Int32)) (0 : Int32)) (52 : Int32)) (0 : Int32)) (0 : Int32)) (52 : Int32)) (32 : Int32)) ((mr (0 : Int32).toNatClampNeg) + (1 : Int32))) (0 : Int32)) (0 : Int32)) ∧ ((12 : Int32) ≤ x1 → o_Mo_two (f_Mo_two (f_Mo_two (f_Mo_two (f_Mo_two (f_Mo_two (f_Mo_four (f_Mo_four (f_Mo_four (f_Mo_four (f_Mo_four (f_Mo_two (f_Mo_two S' (4 : Int32)) (8 : Int32)) (1 : Int32)) (0 : Int32)) (52 : Int32)) (0 : Int32)) (0 : Int32)) (52 : Int32)) (32 : Int32)) ((mr (0 : Int32).toNatClampNeg) + (1 : Int32))) (0 : Int32)) (0 : Int32)) (0 : Int32)) ∧ (¬ (12 : Int32) ≤ x1 → (3 : Int32) ≤ x1 → o_Mo_lay S' (0 : Int32)) ∧ (¬ (12 : Int32) ≤ x1 → (3 : Int32) ≤ x1 → o_Mo_header_L26 S mr gn (x1 + (1 : Int32)) (f_Mo_lay S' (0 : Int32))) ∧ (¬ (12 : Int32) ≤ x1 → ¬ (3 : Int32) ≤ x1 → o_Mo_lay S' (1 : Int32)) ∧ (¬ (12 : Int32) ≤ x1 → ¬ (3 : Int32) ≤ x1 → o_Mo_header_L26 S mr gn (x1 + (1 : Int32)) (f_Mo_lay S' (1 : Int32))) := ho
      obtain ⟨hn1, fa2⟩ := hL0
      refine lv_iload_n hx hb d_Mo_header_26 rfl (lv_at hl 1 rfl) ?_
      refine lv_bipush (v := (12 : Int32)) hx hb d_Mo_header_27 (by decide) ?_
      refine lv_icmp_ge (tgt := 52) hx hb d_Mo_header_29 (by decide) (fun hc3 => ?_) (fun hc3 => ?_)
      · refine lv_aload_n hx hb d_Mo_header_52 rfl (lv_at hl 0 rfl) ?_
        refine lv_iconst (v := (4 : Int32)) hx hb d_Mo_header_53 (by decide) ?_
        refine va_callv (va_runV (As := [.int (4 : Int32)]) (rest := []) ⟨hx, hb, hml, hown, hA⟩ (c_Mo_two l D tt ad N A zs w q S' (4 : Int32) (⟨hn1, fa2⟩) hL2 (ho.1 hc3)) (cwV 1 hA (cd_gV aw_640 aw_641 aw_789 aw_8 aw_642) rfl rfl rfl ⟨rfl, by decide, by decide, by decide +kernel⟩ ⟨Nat.le_of_ble_eq_true rfl, Nat.le_of_ble_eq_true rfl⟩) ⟨cd_blind, cd_recv hK hP (k := q) (by omega) fa2 rfl, fun U hU hW => ⟨rfl, cd_pre hK hP hZ hS U hU hW⟩⟩ rfl rfl hl.1 rfl (lv_room (Nat.le_of_ble_eq_true rfl)) d_Mo_header_54 ⟨Nat.zero_le _, Nat.zero_le _⟩) hS (fun _ _ h => h) (fun _ h => h) (fun w1 tE H locs ht hvm hr5 hP hz1 hk1 hS => ?_)
        have hP := cd_Pf ht hP
        obtain ⟨at7, at8, e1⟩ := hr5
        have at9 := cd_IaAt_keep hL1 (fun k h1 h2 => e1 k (by omega))
        obtain ⟨hn10, fa11⟩ := at7
        refine lv_aload_n hx hb d_Mo_header_57 rfl (lv_at hl 0 rfl) ?_
        refine lv_bipush (v := (8 : Int32)) hx hb d_Mo_header_58 (by decide) ?_
        refine va_callv (va_runV (As := [.int (8 : Int32)]) (rest := []) ⟨hx, hb, hml, hown, hA⟩ (c_Mo_two l D tt ad N A zs w1 q (f_Mo_two S' (4 : Int32)) (8 : Int32) (⟨hn10, fa11⟩) at8 (ho.2.1 hc3)) (cwV 1 hA (cd_gV aw_640 aw_641 aw_789 aw_8 aw_642) rfl rfl rfl ⟨rfl, by decide, by decide, by decide +kernel⟩ ⟨Nat.le_of_ble_eq_true rfl, Nat.le_of_ble_eq_true rfl⟩) ⟨cd_blind, cd_recv hK hP (k := q) (by omega) fa11 rfl, fun U hU hW => ⟨rfl, cd_pre hK hP hZ hS U hU hW⟩⟩ rfl rfl hl.1 rfl (lv_room (Nat.le_of_ble_eq_true rfl)) d_Mo_header_60 ⟨Nat.zero_le _, Nat.zero_le _⟩) hS (fun _ _ h => h) (fun _ h => h) (fun w2 tE H locs ht hvm hr13 hP hz1 hk1 hS => ?_)
        have hP := cd_Pf ht hP
        obtain ⟨at15, at16, e2⟩ := hr13
        have at17 := cd_IaAt_keep at9 (fun k h1 h2 => e2 k (by omega))
        obtain ⟨hn18, fa19⟩ := at15
        refine lv_aload_n hx hb d_Mo_header_63 rfl (lv_at hl 0 rfl) ?_
        refine lv_iconst (v := (1 : Int32)) hx hb d_Mo_header_64 (by decide) ?_
        refine va_callv (va_runV (As := [.int (1 : Int32)]) (rest := []) ⟨hx, hb, hml, hown, hA⟩ (c_Mo_four l D tt ad N A zs w2 q (f_Mo_two (f_Mo_two S' (4 : Int32)) (8 : Int32)) (1 : Int32) (⟨hn18, fa19⟩) at16 (ho.2.2.1 hc3)) (cwV 1 hA (cd_gV aw_643 aw_644 aw_790 aw_8 aw_645) rfl rfl rfl ⟨rfl, by decide, by decide, by decide +kernel⟩ ⟨Nat.le_of_ble_eq_true rfl, Nat.le_of_ble_eq_true rfl⟩) ⟨cd_blind, cd_recv hK hP (k := q) (by omega) fa19 rfl, fun U hU hW => ⟨rfl, cd_pre hK hP hZ hS U hU hW⟩⟩ rfl rfl hl.1 rfl (lv_room (Nat.le_of_ble_eq_true rfl)) d_Mo_header_65 ⟨Nat.zero_le _, Nat.zero_le _⟩) hS (fun _ _ h => h) (fun _ h => h) (fun w3 tE H locs ht hvm hr21 hP hz1 hk1 hS => ?_)
        have hP := cd_Pf ht hP
        obtain ⟨at23, at24, e3⟩ := hr21
        have at25 := cd_IaAt_keep at17 (fun k h1 h2 => e3 k (by omega))
        obtain ⟨hn26, fa27⟩ := at23
        refine lv_aload_n hx hb d_Mo_header_68 rfl (lv_at hl 0 rfl) ?_
        refine lv_iconst (v := (0 : Int32)) hx hb d_Mo_header_69 (by decide) ?_
        refine va_callv (va_runV (As := [.int (0 : Int32)]) (rest := []) ⟨hx, hb, hml, hown, hA⟩ (c_Mo_four l D tt ad N A zs w3 q (f_Mo_four (f_Mo_two (f_Mo_two S' (4 : Int32)) (8 : Int32)) (1 : Int32)) (0 : Int32) (⟨hn26, fa27⟩) at24 (ho.2.2.2.1 hc3)) (cwV 1 hA (cd_gV aw_643 aw_644 aw_790 aw_8 aw_645) rfl rfl rfl ⟨rfl, by decide, by decide, by decide +kernel⟩ ⟨Nat.le_of_ble_eq_true rfl, Nat.le_of_ble_eq_true rfl⟩) ⟨cd_blind, cd_recv hK hP (k := q) (by omega) fa27 rfl, fun U hU hW => ⟨rfl, cd_pre hK hP hZ hS U hU hW⟩⟩ rfl rfl hl.1 rfl (lv_room (Nat.le_of_ble_eq_true rfl)) d_Mo_header_70 ⟨Nat.zero_le _, Nat.zero_le _⟩) hS (fun _ _ h => h) (fun _ h => h) (fun w4 tE H locs ht hvm hr29 hP hz1 hk1 hS => ?_)
        have hP := cd_Pf ht hP
        obtain ⟨at31, at32, e4⟩ := hr29
        have at33 := cd_IaAt_keep at25 (fun k h1 h2 => e4 k (by omega))
        obtain ⟨hn34, fa35⟩ := at31
        refine lv_aload_n hx hb d_Mo_header_73 rfl (lv_at hl 0 rfl) ?_
        refine lv_bipush (v := (52 : Int32)) hx hb d_Mo_header_74 (by decide) ?_
        refine va_callv (va_runV (As := [.int (52 : Int32)]) (rest := []) ⟨hx, hb, hml, hown, hA⟩ (c_Mo_four l D tt ad N A zs w4 q (f_Mo_four (f_Mo_four (f_Mo_two (f_Mo_two S' (4 : Int32)) (8 : Int32)) (1 : Int32)) (0 : Int32)) (52 : Int32) (⟨hn34, fa35⟩) at32 (ho.2.2.2.2.1 hc3)) (cwV 1 hA (cd_gV aw_643 aw_644 aw_790 aw_8 aw_645) rfl rfl rfl ⟨rfl, by decide, by decide, by decide +kernel⟩ ⟨Nat.le_of_ble_eq_true rfl, Nat.le_of_ble_eq_true rfl⟩) ⟨cd_blind, cd_recv hK hP (k := q) (by omega) fa35 rfl, fun U hU hW => ⟨rfl, cd_pre hK hP hZ hS U hU hW⟩⟩ rfl rfl hl.1 rfl (lv_room (Nat.le_of_ble_eq_true rfl)) d_Mo_header_76 ⟨Nat.zero_le _, Nat.zero_le _⟩) hS (fun _ _ h => h) (fun _ h => h) (fun w5 tE H locs ht hvm hr37 hP hz1 hk1 hS => ?_)
        have hP := cd_Pf ht hP
        obtain ⟨at39, at40, e5⟩ := hr37
        have at41 := cd_IaAt_keep at33 (fun k h1 h2 => e5 k (by omega))
        obtain ⟨hn42, fa43⟩ := at39
        refine lv_aload_n hx hb d_Mo_header_79 rfl (lv_at hl 0 rfl) ?_
        refine lv_iconst (v := (0 : Int32)) hx hb d_Mo_header_80 (by decide) ?_
        refine va_callv (va_runV (As := [.int (0 : Int32)]) (rest := []) ⟨hx, hb, hml, hown, hA⟩ (c_Mo_four l D tt ad N A zs w5 q (f_Mo_four (f_Mo_four (f_Mo_four (f_Mo_two (f_Mo_two S' (4 : Int32)) (8 : Int32)) (1 : Int32)) (0 : Int32)) (52 : Int32)) (0 : Int32) (⟨hn42, fa43⟩) at40 (ho.2.2.2.2.2.1 hc3)) (cwV 1 hA (cd_gV aw_643 aw_644 aw_790 aw_8 aw_645) rfl rfl rfl ⟨rfl, by decide, by decide, by decide +kernel⟩ ⟨Nat.le_of_ble_eq_true rfl, Nat.le_of_ble_eq_true rfl⟩) ⟨cd_blind, cd_recv hK hP (k := q) (by omega) fa43 rfl, fun U hU hW => ⟨rfl, cd_pre hK hP hZ hS U hU hW⟩⟩ rfl rfl hl.1 rfl (lv_room (Nat.le_of_ble_eq_true rfl)) d_Mo_header_81 ⟨Nat.zero_le _, Nat.zero_le _⟩) hS (fun _ _ h => h) (fun _ h => h) (fun w6 tE H locs ht hvm hr45 hP hz1 hk1 hS => ?_)
        have hP := cd_Pf ht hP
        obtain ⟨at47, at48, e6⟩ := hr45
        have at49 := cd_IaAt_keep at41 (fun k h1 h2 => e6 k (by omega))
        obtain ⟨hn50, fa51⟩ := at47
        refine lv_aload_n hx hb d_Mo_header_84 rfl (lv_at hl 0 rfl) ?_
        refine lv_iconst (v := (0 : Int32)) hx hb d_Mo_header_85 (by decide) ?_
        refine va_callv (va_runV (As := [.int (0 : Int32)]) (rest := []) ⟨hx, hb, hml, hown, hA⟩ (c_Mo_four l D tt ad N A zs w6 q (f_Mo_four (f_Mo_four (f_Mo_four (f_Mo_four (f_Mo_two (f_Mo_two S' (4 : Int32)) (8 : Int32)) (1 : Int32)) (0 : Int32)) (52 : Int32)) (0 : Int32)) (0 : Int32) (⟨hn50, fa51⟩) at48 (ho.2.2.2.2.2.2.1 hc3)) (cwV 1 hA (cd_gV aw_643 aw_644 aw_790 aw_8 aw_645) rfl rfl rfl ⟨rfl, by decide, by decide, by decide +kernel⟩ ⟨Nat.le_of_ble_eq_true rfl, Nat.le_of_ble_eq_true rfl⟩) ⟨cd_blind, cd_recv hK hP (k := q) (by omega) fa51 rfl, fun U hU hW => ⟨rfl, cd_pre hK hP hZ hS U hU hW⟩⟩ rfl rfl hl.1 rfl (lv_room (Nat.le_of_ble_eq_true rfl)) d_Mo_header_86 ⟨Nat.zero_le _, Nat.zero_le _⟩) hS (fun _ _ h => h) (fun _ h => h) (fun w7 tE H locs ht hvm hr53 hP hz1 hk1 hS => ?_)
        have hP := cd_Pf ht hP
        obtain ⟨at55, at56, e7⟩ := hr53
        have at57 := cd_IaAt_keep at49 (fun k h1 h2 => e7 k (by omega))
        obtain ⟨hn58, fa59⟩ := at55
        refine lv_aload_n hx hb d_Mo_header_89 rfl (lv_at hl 0 rfl) ?_
        refine lv_bipush (v := (52 : Int32)) hx hb d_Mo_header_90 (by decide) ?_
        refine va_callv (va_runV (As := [.int (52 : Int32)]) (rest := []) ⟨hx, hb, hml, hown, hA⟩ (c_Mo_two l D tt ad N A zs w7 q (f_Mo_four (f_Mo_four (f_Mo_four (f_Mo_four (f_Mo_four (f_Mo_two (f_Mo_two S' (4 : Int32)) (8 : Int32)) (1 : Int32)) (0 : Int32)) (52 : Int32)) (0 : Int32)) (0 : Int32)) (52 : Int32) (⟨hn58, fa59⟩) at56 (ho.2.2.2.2.2.2.2.1 hc3)) (cwV 1 hA (cd_gV aw_640 aw_641 aw_789 aw_8 aw_642) rfl rfl rfl ⟨rfl, by decide, by decide, by decide +kernel⟩ ⟨Nat.le_of_ble_eq_true rfl, Nat.le_of_ble_eq_true rfl⟩) ⟨cd_blind, cd_recv hK hP (k := q) (by omega) fa59 rfl, fun U hU hW => ⟨rfl, cd_pre hK hP hZ hS U hU hW⟩⟩ rfl rfl hl.1 rfl (lv_room (Nat.le_of_ble_eq_true rfl)) d_Mo_header_92 ⟨Nat.zero_le _, Nat.zero_le _⟩) hS (fun _ _ h => h) (fun _ h => h) (fun w8 tE H locs ht hvm hr61 hP hz1 hk1 hS => ?_)
        have hP := cd_Pf ht hP
        obtain ⟨at63, at64, e8⟩ := hr61
        have at65 := cd_IaAt_keep at57 (fun k h1 h2 => e8 k (by omega))
        obtain ⟨hn66, fa67⟩ := at63
        refine lv_aload_n hx hb d_Mo_header_95 rfl (lv_at hl 0 rfl) ?_
        refine lv_bipush (v := (32 : Int32)) hx hb d_Mo_header_96 (by decide) ?_
        refine va_callv (va_runV (As := [.int (32 : Int32)]) (rest := []) ⟨hx, hb, hml, hown, hA⟩ (c_Mo_two l D tt ad N A zs w8 q (f_Mo_two (f_Mo_four (f_Mo_four (f_Mo_four (f_Mo_four (f_Mo_four (f_Mo_two (f_Mo_two S' (4 : Int32)) (8 : Int32)) (1 : Int32)) (0 : Int32)) (52 : Int32)) (0 : Int32)) (0 : Int32)) (52 : Int32)) (32 : Int32) (⟨hn66, fa67⟩) at64 (ho.2.2.2.2.2.2.2.2.1 hc3)) (cwV 1 hA (cd_gV aw_640 aw_641 aw_789 aw_8 aw_642) rfl rfl rfl ⟨rfl, by decide, by decide, by decide +kernel⟩ ⟨Nat.le_of_ble_eq_true rfl, Nat.le_of_ble_eq_true rfl⟩) ⟨cd_blind, cd_recv hK hP (k := q) (by omega) fa67 rfl, fun U hU hW => ⟨rfl, cd_pre hK hP hZ hS U hU hW⟩⟩ rfl rfl hl.1 rfl (lv_room (Nat.le_of_ble_eq_true rfl)) d_Mo_header_98 ⟨Nat.zero_le _, Nat.zero_le _⟩) hS (fun _ _ h => h) (fun _ h => h) (fun w9 tE H locs ht hvm hr69 hP hz1 hk1 hS => ?_)
        have hP := cd_Pf ht hP
        obtain ⟨at71, at72, e9⟩ := hr69
        have at73 := cd_IaAt_keep at65 (fun k h1 h2 => e9 k (by omega))
        obtain ⟨hn74, fa75⟩ := at71
        refine lv_aload_n hx hb d_Mo_header_101 rfl (lv_at hl 0 rfl) ?_
        refine lv_aload_n hx hb d_Mo_header_102 rfl (lv_at hl 0 rfl) ?_
        refine g_get (ci := 7) (C := R_Mo) (T := F_Mo) (Nf := 16) (v := .ref (ad (q + 5))) hx hb hA in_Mo hown hK hP (k := q) (by omega) fa75 rfl 5 (by decide) (hA _ aw_565) (fun _ h9 => h9) rfl d_Mo_header_103 ?_
        refine lv_iconst (v := (0 : Int32)) hx hb d_Mo_header_106 (by decide) ?_
        obtain ⟨hn76, fa77⟩ := at73
        refine g_iald hx hb hK hP (k := (q + 5)) (by omega) fa77 rfl (ho.2.2.2.2.2.2.2.2.2.1 hc3) d_Mo_header_107 ?_
        refine lv_iconst (v := (1 : Int32)) hx hb d_Mo_header_108 (by decide) ?_
        refine lv_iadd hx hb d_Mo_header_109 ?_
        refine va_callv (va_runV (As := [.int ((mr (0 : Int32).toNatClampNeg) + (1 : Int32))]) (rest := []) ⟨hx, hb, hml, hown, hA⟩ (c_Mo_two l D tt ad N A zs w9 q (f_Mo_two (f_Mo_two (f_Mo_four (f_Mo_four (f_Mo_four (f_Mo_four (f_Mo_four (f_Mo_two (f_Mo_two S' (4 : Int32)) (8 : Int32)) (1 : Int32)) (0 : Int32)) (52 : Int32)) (0 : Int32)) (0 : Int32)) (52 : Int32)) (32 : Int32)) ((mr (0 : Int32).toNatClampNeg) + (1 : Int32)) (⟨hn74, fa75⟩) at72 (ho.2.2.2.2.2.2.2.2.2.2.1 hc3)) (cwV 1 hA (cd_gV aw_640 aw_641 aw_789 aw_8 aw_642) rfl rfl rfl ⟨rfl, by decide, by decide, by decide +kernel⟩ ⟨Nat.le_of_ble_eq_true rfl, Nat.le_of_ble_eq_true rfl⟩) ⟨cd_blind, cd_recv hK hP (k := q) (by omega) fa75 rfl, fun U hU hW => ⟨rfl, cd_pre hK hP hZ hS U hU hW⟩⟩ rfl rfl hl.1 rfl (lv_room (Nat.le_of_ble_eq_true rfl)) d_Mo_header_110 ⟨Nat.zero_le _, Nat.zero_le _⟩) hS (fun _ _ h => h) (fun _ h => h) (fun w10 tE H locs ht hvm hr79 hP hz1 hk1 hS => ?_)
        have hP := cd_Pf ht hP
        obtain ⟨at81, at82, e10⟩ := hr79
        have fa83 := (e10 (q + 5) (by omega)).trans fa77
        obtain ⟨hn84, fa85⟩ := at81
        refine lv_aload_n hx hb d_Mo_header_113 rfl (lv_at hl 0 rfl) ?_
        refine lv_iconst (v := (0 : Int32)) hx hb d_Mo_header_114 (by decide) ?_
        refine va_callv (va_runV (As := [.int (0 : Int32)]) (rest := []) ⟨hx, hb, hml, hown, hA⟩ (c_Mo_two l D tt ad N A zs w10 q (f_Mo_two (f_Mo_two (f_Mo_two (f_Mo_four (f_Mo_four (f_Mo_four (f_Mo_four (f_Mo_four (f_Mo_two (f_Mo_two S' (4 : Int32)) (8 : Int32)) (1 : Int32)) (0 : Int32)) (52 : Int32)) (0 : Int32)) (0 : Int32)) (52 : Int32)) (32 : Int32)) ((mr (0 : Int32).toNatClampNeg) + (1 : Int32))) (0 : Int32) (⟨hn84, fa85⟩) at82 (ho.2.2.2.2.2.2.2.2.2.2.2.1 hc3)) (cwV 1 hA (cd_gV aw_640 aw_641 aw_789 aw_8 aw_642) rfl rfl rfl ⟨rfl, by decide, by decide, by decide +kernel⟩ ⟨Nat.le_of_ble_eq_true rfl, Nat.le_of_ble_eq_true rfl⟩) ⟨cd_blind, cd_recv hK hP (k := q) (by omega) fa85 rfl, fun U hU hW => ⟨rfl, cd_pre hK hP hZ hS U hU hW⟩⟩ rfl rfl hl.1 rfl (lv_room (Nat.le_of_ble_eq_true rfl)) d_Mo_header_115 ⟨Nat.zero_le _, Nat.zero_le _⟩) hS (fun _ _ h => h) (fun _ h => h) (fun w11 tE H locs ht hvm hr87 hP hz1 hk1 hS => ?_)
        have hP := cd_Pf ht hP
        obtain ⟨at89, at90, e11⟩ := hr87
        have fa91 := (e11 (q + 5) (by omega)).trans fa83
        obtain ⟨hn92, fa93⟩ := at89
        refine lv_aload_n hx hb d_Mo_header_118 rfl (lv_at hl 0 rfl) ?_
        refine lv_iconst (v := (0 : Int32)) hx hb d_Mo_header_119 (by decide) ?_
        refine va_callv (va_runV (As := [.int (0 : Int32)]) (rest := []) ⟨hx, hb, hml, hown, hA⟩ (c_Mo_two l D tt ad N A zs w11 q (f_Mo_two (f_Mo_two (f_Mo_two (f_Mo_two (f_Mo_four (f_Mo_four (f_Mo_four (f_Mo_four (f_Mo_four (f_Mo_two (f_Mo_two S' (4 : Int32)) (8 : Int32)) (1 : Int32)) (0 : Int32)) (52 : Int32)) (0 : Int32)) (0 : Int32)) (52 : Int32)) (32 : Int32)) ((mr (0 : Int32).toNatClampNeg) + (1 : Int32))) (0 : Int32)) (0 : Int32) (⟨hn92, fa93⟩) at90 (ho.2.2.2.2.2.2.2.2.2.2.2.2.1 hc3)) (cwV 1 hA (cd_gV aw_640 aw_641 aw_789 aw_8 aw_642) rfl rfl rfl ⟨rfl, by decide, by decide, by decide +kernel⟩ ⟨Nat.le_of_ble_eq_true rfl, Nat.le_of_ble_eq_true rfl⟩) ⟨cd_blind, cd_recv hK hP (k := q) (by omega) fa93 rfl, fun U hU hW => ⟨rfl, cd_pre hK hP hZ hS U hU hW⟩⟩ rfl rfl hl.1 rfl (lv_room (Nat.le_of_ble_eq_true rfl)) d_Mo_header_120 ⟨Nat.zero_le _, Nat.zero_le _⟩) hS (fun _ _ h => h) (fun _ h => h) (fun w12 tE H locs ht hvm hr95 hP hz1 hk1 hS => ?_)
        have hP := cd_Pf ht hP
        obtain ⟨at97, at98, e12⟩ := hr95
        have fa99 := (e12 (q + 5) (by omega)).trans fa91
        obtain ⟨hn100, fa101⟩ := at97
        refine lv_aload_n hx hb d_Mo_header_123 rfl (lv_at hl 0 rfl) ?_
        refine lv_iconst (v := (0 : Int32)) hx hb d_Mo_header_124 (by decide) ?_
        refine va_callv (va_runV (As := [.int (0 : Int32)]) (rest := []) ⟨hx, hb, hml, hown, hA⟩ (c_Mo_two l D tt ad N A zs w12 q (f_Mo_two (f_Mo_two (f_Mo_two (f_Mo_two (f_Mo_two (f_Mo_four (f_Mo_four (f_Mo_four (f_Mo_four (f_Mo_four (f_Mo_two (f_Mo_two S' (4 : Int32)) (8 : Int32)) (1 : Int32)) (0 : Int32)) (52 : Int32)) (0 : Int32)) (0 : Int32)) (52 : Int32)) (32 : Int32)) ((mr (0 : Int32).toNatClampNeg) + (1 : Int32))) (0 : Int32)) (0 : Int32)) (0 : Int32) (⟨hn100, fa101⟩) at98 (ho.2.2.2.2.2.2.2.2.2.2.2.2.2.1 hc3)) (cwV 1 hA (cd_gV aw_640 aw_641 aw_789 aw_8 aw_642) rfl rfl rfl ⟨rfl, by decide, by decide, by decide +kernel⟩ ⟨Nat.le_of_ble_eq_true rfl, Nat.le_of_ble_eq_true rfl⟩) ⟨cd_blind, cd_recv hK hP (k := q) (by omega) fa101 rfl, fun U hU hW => ⟨rfl, cd_pre hK hP hZ hS U hU hW⟩⟩ rfl rfl hl.1 rfl (lv_room (Nat.le_of_ble_eq_true rfl)) d_Mo_header_125 ⟨Nat.zero_le _, Nat.zero_le _⟩) hS (fun _ _ h => h) (fun _ h => h) (fun w13 tE H locs ht hvm hr103 hP hz1 hk1 hS => ?_)
        have hP := cd_Pf ht hP
        obtain ⟨at105, at106, e13⟩ := hr103
        have fa107 := (e13 (q + 5) (by omega)).trans fa99
        obtain ⟨hn108, fa109⟩ := at105
        have hf110 : (f_Mo_header S mr) = ((f_Mo_two (f_Mo_two (f_Mo_two (f_Mo_two (f_Mo_two (f_Mo_two (f_Mo_four (f_Mo_four (f_Mo_four (f_Mo_four (f_Mo_four (f_Mo_two (f_Mo_two S' (4 : Int32)) (8 : Int32)) (1 : Int32)) (0 : Int32)) (52 : Int32)) (0 : Int32)) (0 : Int32)) (52 : Int32)) (32 : Int32)) ((mr (0 : Int32).toNatClampNeg) + (1 : Int32))) (0 : Int32)) (0 : Int32)) (0 : Int32)).1, (f_Mo_two (f_Mo_two (f_Mo_two (f_Mo_two (f_Mo_two (f_Mo_two (f_Mo_four (f_Mo_four (f_Mo_four (f_Mo_four (f_Mo_four (f_Mo_two (f_Mo_two S' (4 : Int32)) (8 : Int32)) (1 : Int32)) (0 : Int32)) (52 : Int32)) (0 : Int32)) (0 : Int32)) (52 : Int32)) (32 : Int32)) ((mr (0 : Int32).toNatClampNeg) + (1 : Int32))) (0 : Int32)) (0 : Int32)) (0 : Int32)).2) := by rw [he, f_Mo_header_L26, if_pos hc3]
        exact W.vret hx hb hr (fun tE ht _ => ⟨⟨w13, rfl, ⟨(by rw [hf110]; exact ⟨hn108, fa109⟩), (by rw [hf110]; exact at106), (fun k hk => ((e13 k (by omega)).trans ((e12 k (by omega)).trans ((e11 k (by omega)).trans ((e10 k (by omega)).trans ((e9 k (by omega)).trans ((e8 k (by omega)).trans ((e7 k (by omega)).trans ((e6 k (by omega)).trans ((e5 k (by omega)).trans ((e4 k (by omega)).trans ((e3 k (by omega)).trans ((e2 k (by omega)).trans ((e1 k (by omega)).trans (efr k (by omega))))))))))))))))⟩, cd_Pt ht hP⟩, hS.F ht⟩) hS.2.2 d_Mo_header_128
      · refine lv_aload_n hx hb d_Mo_header_32 rfl (lv_at hl 0 rfl) ?_
        refine lv_iload_n hx hb d_Mo_header_33 rfl (lv_at hl 1 rfl) ?_
        refine lv_iconst (v := (3 : Int32)) hx hb d_Mo_header_34 (by decide) ?_
        refine lv_icmp_ge (tgt := 42) hx hb d_Mo_header_35 (by decide) (fun hc111 => ?_) (fun hc111 => ?_)
        · refine lv_iconst (v := (0 : Int32)) hx hb d_Mo_header_42 (by decide) ?_
          refine va_callv (va_runV (As := [.int (0 : Int32)]) (rest := []) ⟨hx, hb, hml, hown, hA⟩ (c_Mo_lay l D tt ad N A zs w q S' (0 : Int32) (⟨hn1, fa2⟩) hL2 (ho.2.2.2.2.2.2.2.2.2.2.2.2.2.2.1 hc3 hc111)) (cwV 1 hA (cd_gV aw_637 aw_638 aw_788 aw_8 aw_639) rfl rfl rfl ⟨rfl, by decide, by decide, by decide +kernel⟩ ⟨Nat.le_of_ble_eq_true rfl, Nat.le_of_ble_eq_true rfl⟩) ⟨cd_blind, cd_recv hK hP (k := q) (by omega) fa2 rfl, fun U hU hW => ⟨rfl, cd_pre hK hP hZ hS U hU hW⟩⟩ rfl rfl hl.1 rfl (lv_room (Nat.le_of_ble_eq_true rfl)) d_Mo_header_43 ⟨Nat.zero_le _, Nat.zero_le _⟩) hS (fun _ _ h => h) (fun _ h => h) (fun w14 tE H locs ht hvm hr113 hP hz1 hk1 hS => ?_)
          have hP := cd_Pf ht hP
          obtain ⟨at115, at116, e14⟩ := hr113
          have at117 := cd_IaAt_keep hL1 (fun k h1 h2 => e14 k (by omega))
          obtain ⟨hn118, fa119⟩ := at115
          refine lv_iinc (k := 1) (v := (x1 + (1 : Int32))) (lv' := [(1, .int (x1 + (1 : Int32))), (0, .ref (ad q))]) hx hb d_Mo_header_46 hl rfl (cd_inc _ _ _ (by decide)) (by decide) rfl (fun ls hl => ?_)
          refine lv_goto (tgt := 26) hx hb d_Mo_header_49 (by decide) ?_
          exact ih (x1 + (1 : Int32)) (f_Mo_lay S' (0 : Int32)) w14 (fun k hk => ((e14 k (by omega)).trans (efr k (by omega)))) H locs ls (lv_sub hl [1, 0] rfl) (show (f_Mo_header S mr) = f_Mo_header_L26 S mr gn (x1 + (1 : Int32)) (f_Mo_lay S' (0 : Int32)) by rw [he, f_Mo_header_L26, if_neg hc3, if_pos hc111]) (⟨hn118, fa119⟩) at117 at116 hP hS (ho.2.2.2.2.2.2.2.2.2.2.2.2.2.2.2.1 hc3 hc111)
        · refine lv_iconst (v := (1 : Int32)) hx hb d_Mo_header_38 (by decide) ?_
          refine lv_goto (tgt := 43) hx hb d_Mo_header_39 (by decide) ?_
          refine va_callv (va_runV (As := [.int (1 : Int32)]) (rest := []) ⟨hx, hb, hml, hown, hA⟩ (c_Mo_lay l D tt ad N A zs w q S' (1 : Int32) (⟨hn1, fa2⟩) hL2 (ho.2.2.2.2.2.2.2.2.2.2.2.2.2.2.2.2.1 hc3 hc111)) (cwV 1 hA (cd_gV aw_637 aw_638 aw_788 aw_8 aw_639) rfl rfl rfl ⟨rfl, by decide, by decide, by decide +kernel⟩ ⟨Nat.le_of_ble_eq_true rfl, Nat.le_of_ble_eq_true rfl⟩) ⟨cd_blind, cd_recv hK hP (k := q) (by omega) fa2 rfl, fun U hU hW => ⟨rfl, cd_pre hK hP hZ hS U hU hW⟩⟩ rfl rfl hl.1 rfl (lv_room (Nat.le_of_ble_eq_true rfl)) d_Mo_header_43 ⟨Nat.zero_le _, Nat.zero_le _⟩) hS (fun _ _ h => h) (fun _ h => h) (fun w15 tE H locs ht hvm hr121 hP hz1 hk1 hS => ?_)
          have hP := cd_Pf ht hP
          obtain ⟨at123, at124, e15⟩ := hr121
          have at125 := cd_IaAt_keep hL1 (fun k h1 h2 => e15 k (by omega))
          obtain ⟨hn126, fa127⟩ := at123
          refine lv_iinc (k := 1) (v := (x1 + (1 : Int32))) (lv' := [(1, .int (x1 + (1 : Int32))), (0, .ref (ad q))]) hx hb d_Mo_header_46 hl rfl (cd_inc _ _ _ (by decide)) (by decide) rfl (fun ls hl => ?_)
          refine lv_goto (tgt := 26) hx hb d_Mo_header_49 (by decide) ?_
          exact ih (x1 + (1 : Int32)) (f_Mo_lay S' (1 : Int32)) w15 (fun k hk => ((e15 k (by omega)).trans (efr k (by omega)))) H locs ls (lv_sub hl [1, 0] rfl) (show (f_Mo_header S mr) = f_Mo_header_L26 S mr gn (x1 + (1 : Int32)) (f_Mo_lay S' (1 : Int32)) by rw [he, f_Mo_header_L26, if_neg hc3, if_neg hc111]) (⟨hn126, fa127⟩) at125 at124 hP hS (ho.2.2.2.2.2.2.2.2.2.2.2.2.2.2.2.2.2 hc3 hc111)
  have hS : va_S A s.heap s.heap [] := va_S.rf
  have hl := lv_entry ([.ref (ad q)]) (n := 2) (Nat.le_of_ble_eq_true rfl)
  rw [lg_entry_eq]
  generalize (lg_sl ([.ref (ad q)]) ++ List.replicate (2 - (lg_sl ([.ref (ad q)])).length) Slot.unset).toArray = ls at hl ⊢
  have hl : lv_has ls 2 [(0, .ref (ad q))] := hl
  have ho : (o_Mo_lay S (127 : Int32)) ∧ (o_Mo_lay (f_Mo_lay S (127 : Int32)) (69 : Int32)) ∧ (o_Mo_lay (f_Mo_lay (f_Mo_lay S (127 : Int32)) (69 : Int32)) (76 : Int32)) ∧ (o_Mo_lay (f_Mo_lay (f_Mo_lay (f_Mo_lay S (127 : Int32)) (69 : Int32)) (76 : Int32)) (70 : Int32)) ∧ (o_Mo_header_L26 S mr 13 (0 : Int32) (f_Mo_lay (f_Mo_lay (f_Mo_lay (f_Mo_lay S (127 : Int32)) (69 : Int32)) (76 : Int32)) (70 : Int32))) := ho
  obtain ⟨hn128, fa129⟩ := hR0
  refine lv_aload_n hx hb d_Mo_header_0 rfl (lv_at hl 0 rfl) ?_
  refine lv_bipush (v := (127 : Int32)) hx hb d_Mo_header_1 (by decide) ?_
  refine va_callv (va_runV (As := [.int (127 : Int32)]) (rest := []) ⟨hx, hb, hml, hown, hA⟩ (c_Mo_lay l D tt ad N A zs w0 q S (127 : Int32) (⟨hn128, fa129⟩) hR2 (ho.1)) (cwV 1 hA (cd_gV aw_637 aw_638 aw_788 aw_8 aw_639) rfl rfl rfl ⟨rfl, by decide, by decide, by decide +kernel⟩ ⟨Nat.le_of_ble_eq_true rfl, Nat.le_of_ble_eq_true rfl⟩) ⟨cd_blind, cd_recv hK hP (k := q) (by omega) fa129 rfl, fun U hU hW => ⟨rfl, cd_pre hK hP hZ hS U hU hW⟩⟩ rfl rfl hl.1 rfl (lv_room (Nat.le_of_ble_eq_true rfl)) d_Mo_header_3 ⟨Nat.zero_le _, Nat.zero_le _⟩) hS (fun _ _ h => h) (fun _ h => h) (fun w16 tE H locs ht hvm hr131 hP hz1 hk1 hS => ?_)
  have hP := cd_Pf ht hP
  obtain ⟨at133, at134, e16⟩ := hr131
  have at135 := cd_IaAt_keep hR1 (fun k h1 h2 => e16 k (by omega))
  obtain ⟨hn136, fa137⟩ := at133
  refine lv_aload_n hx hb d_Mo_header_6 rfl (lv_at hl 0 rfl) ?_
  refine lv_bipush (v := (69 : Int32)) hx hb d_Mo_header_7 (by decide) ?_
  refine va_callv (va_runV (As := [.int (69 : Int32)]) (rest := []) ⟨hx, hb, hml, hown, hA⟩ (c_Mo_lay l D tt ad N A zs w16 q (f_Mo_lay S (127 : Int32)) (69 : Int32) (⟨hn136, fa137⟩) at134 (ho.2.1)) (cwV 1 hA (cd_gV aw_637 aw_638 aw_788 aw_8 aw_639) rfl rfl rfl ⟨rfl, by decide, by decide, by decide +kernel⟩ ⟨Nat.le_of_ble_eq_true rfl, Nat.le_of_ble_eq_true rfl⟩) ⟨cd_blind, cd_recv hK hP (k := q) (by omega) fa137 rfl, fun U hU hW => ⟨rfl, cd_pre hK hP hZ hS U hU hW⟩⟩ rfl rfl hl.1 rfl (lv_room (Nat.le_of_ble_eq_true rfl)) d_Mo_header_9 ⟨Nat.zero_le _, Nat.zero_le _⟩) hS (fun _ _ h => h) (fun _ h => h) (fun w17 tE H locs ht hvm hr139 hP hz1 hk1 hS => ?_)
  have hP := cd_Pf ht hP
  obtain ⟨at141, at142, e17⟩ := hr139
  have at143 := cd_IaAt_keep at135 (fun k h1 h2 => e17 k (by omega))
  obtain ⟨hn144, fa145⟩ := at141
  refine lv_aload_n hx hb d_Mo_header_12 rfl (lv_at hl 0 rfl) ?_
  refine lv_bipush (v := (76 : Int32)) hx hb d_Mo_header_13 (by decide) ?_
  refine va_callv (va_runV (As := [.int (76 : Int32)]) (rest := []) ⟨hx, hb, hml, hown, hA⟩ (c_Mo_lay l D tt ad N A zs w17 q (f_Mo_lay (f_Mo_lay S (127 : Int32)) (69 : Int32)) (76 : Int32) (⟨hn144, fa145⟩) at142 (ho.2.2.1)) (cwV 1 hA (cd_gV aw_637 aw_638 aw_788 aw_8 aw_639) rfl rfl rfl ⟨rfl, by decide, by decide, by decide +kernel⟩ ⟨Nat.le_of_ble_eq_true rfl, Nat.le_of_ble_eq_true rfl⟩) ⟨cd_blind, cd_recv hK hP (k := q) (by omega) fa145 rfl, fun U hU hW => ⟨rfl, cd_pre hK hP hZ hS U hU hW⟩⟩ rfl rfl hl.1 rfl (lv_room (Nat.le_of_ble_eq_true rfl)) d_Mo_header_15 ⟨Nat.zero_le _, Nat.zero_le _⟩) hS (fun _ _ h => h) (fun _ h => h) (fun w18 tE H locs ht hvm hr147 hP hz1 hk1 hS => ?_)
  have hP := cd_Pf ht hP
  obtain ⟨at149, at150, e18⟩ := hr147
  have at151 := cd_IaAt_keep at143 (fun k h1 h2 => e18 k (by omega))
  obtain ⟨hn152, fa153⟩ := at149
  refine lv_aload_n hx hb d_Mo_header_18 rfl (lv_at hl 0 rfl) ?_
  refine lv_bipush (v := (70 : Int32)) hx hb d_Mo_header_19 (by decide) ?_
  refine va_callv (va_runV (As := [.int (70 : Int32)]) (rest := []) ⟨hx, hb, hml, hown, hA⟩ (c_Mo_lay l D tt ad N A zs w18 q (f_Mo_lay (f_Mo_lay (f_Mo_lay S (127 : Int32)) (69 : Int32)) (76 : Int32)) (70 : Int32) (⟨hn152, fa153⟩) at150 (ho.2.2.2.1)) (cwV 1 hA (cd_gV aw_637 aw_638 aw_788 aw_8 aw_639) rfl rfl rfl ⟨rfl, by decide, by decide, by decide +kernel⟩ ⟨Nat.le_of_ble_eq_true rfl, Nat.le_of_ble_eq_true rfl⟩) ⟨cd_blind, cd_recv hK hP (k := q) (by omega) fa153 rfl, fun U hU hW => ⟨rfl, cd_pre hK hP hZ hS U hU hW⟩⟩ rfl rfl hl.1 rfl (lv_room (Nat.le_of_ble_eq_true rfl)) d_Mo_header_21 ⟨Nat.zero_le _, Nat.zero_le _⟩) hS (fun _ _ h => h) (fun _ h => h) (fun w19 tE H locs ht hvm hr155 hP hz1 hk1 hS => ?_)
  have hP := cd_Pf ht hP
  obtain ⟨at157, at158, e19⟩ := hr155
  have at159 := cd_IaAt_keep at151 (fun k h1 h2 => e19 k (by omega))
  obtain ⟨hn160, fa161⟩ := at157
  refine lv_iconst (v := (0 : Int32)) hx hb d_Mo_header_24 (by decide) ?_
  refine lv_istore_n (lv' := [(1, .int (0 : Int32)), (0, .ref (ad q))]) hx hb d_Mo_header_25 rfl hl (by decide) rfl (fun ls hl => ?_)
  exact L26 13 (0 : Int32) (f_Mo_lay (f_Mo_lay (f_Mo_lay (f_Mo_lay S (127 : Int32)) (69 : Int32)) (76 : Int32)) (70 : Int32)) w19 (fun k hk => ((e19 k (by omega)).trans ((e18 k (by omega)).trans ((e17 k (by omega)).trans (e16 k (by omega)))))) H locs ls (lv_sub hl [1, 0] rfl) (show (f_Mo_header S mr) = f_Mo_header_L26 S mr 13 (0 : Int32) (f_Mo_lay (f_Mo_lay (f_Mo_lay (f_Mo_lay S (127 : Int32)) (69 : Int32)) (76 : Int32)) (70 : Int32)) by rw [f_Mo_header]) (⟨hn160, fa161⟩) at159 at158 hP hS (ho.2.2.2.2)
def f_Mo_dump_L254 (S : cd_Mo × cd_By) (ma : cd_Ia) (ms : cd_Ia) (mf : cd_Ia) (mb : cd_By) (mr : cd_Ia) (mt : cd_Ia) (mi : cd_Ia) (mg : cd_Ia) (K : Int32 → Int32 → Int32 → (cd_Mo × cd_By) → Int32 × cd_Mo × cd_By) : Nat → Int32 → Int32 → Int32 → (cd_Mo × cd_By) → Int32 × cd_Mo × cd_By
  | 0, _, _, _, _ => default
  | gn + 1, x2, x3, x4, S' => (if x3 ≤ x4 then (K x2 x3 x4 S') else (f_Mo_dump_L254 S ma ms mf mb mr mt mi mg K gn x2 x3 (x4 + (1 : Int32)) (f_Mo_lay S' (mb (((1024 : Int32) * x2) + x4).toNatClampNeg))))
def f_Mo_dump_L240 (S : cd_Mo × cd_By) (ma : cd_Ia) (ms : cd_Ia) (mf : cd_Ia) (mb : cd_By) (mr : cd_Ia) (mt : cd_Ia) (mi : cd_Ia) (mg : cd_Ia) : Nat → Int32 → (cd_Mo × cd_By) → Int32 × cd_Mo × cd_By
  | 0, _, _ => default
  | gn + 1, x2, S' => (if x2 = (-1 : Int32) then (S'.1.2.1, S'.1, S'.2) else (f_Mo_dump_L254 S ma ms mf mb mr mt mi mg (fun (x2' : Int32) (x3' : Int32) (x4' : Int32) (S'' : cd_Mo × cd_By) => (f_Mo_dump_L240 S ma ms mf mb mr mt mi mg gn (f_Mo_above S''.1 ma mr (ma x2'.toNatClampNeg)) S'')) 1025 x2 (f_Mo_filled S'.1 ms mb x2) (0 : Int32) S'))
def f_Mo_dump_L201 (S : cd_Mo × cd_By) (ma : cd_Ia) (ms : cd_Ia) (mf : cd_Ia) (mb : cd_By) (mr : cd_Ia) (mt : cd_Ia) (mi : cd_Ia) (mg : cd_Ia) (K : Int32 → Int32 → (cd_Mo × cd_By) → Int32 × cd_Mo × cd_By) : Nat → Int32 → Int32 → (cd_Mo × cd_By) → Int32 × cd_Mo × cd_By
  | 0, _, _, _ => default
  | gn + 1, x2, x3, S' => (if (8 : Int32) ≤ x3 then (K x2 x3 S') else (f_Mo_dump_L201 S ma ms mf mb mr mt mi mg K gn x2 (x3 + (1 : Int32)) (f_Mo_four S' (mg (((8 : Int32) * x2) + x3).toNatClampNeg))))
def f_Mo_dump_L134 (S : cd_Mo × cd_By) (ma : cd_Ia) (ms : cd_Ia) (mf : cd_Ia) (mb : cd_By) (mr : cd_Ia) (mt : cd_Ia) (mi : cd_Ia) (mg : cd_Ia) : Nat → Int32 → (cd_Mo × cd_By) → Int32 × cd_Mo × cd_By
  | 0, _, _ => default
  | gn + 1, x2, S' => (if (mt (0 : Int32).toNatClampNeg) ≤ x2 then (f_Mo_dump_L240 S ma ms mf mb mr mt mi mg 7 (f_Mo_above S'.1 ma mr (-1 : Int32)) S') else (f_Mo_dump_L201 S ma ms mf mb mr mt mi mg (fun (x2'' : Int32) (x3'' : Int32) (S''' : cd_Mo × cd_By) => (f_Mo_dump_L134 S ma ms mf mb mr mt mi mg gn (x2'' + (1 : Int32)) S''')) 9 x2 (0 : Int32) (f_Mo_four (f_Mo_four (f_Mo_lay (f_Mo_lay (f_Mo_lay (f_Mo_lay (f_Mo_four (f_Mo_four (f_Mo_four S' (5 : Int32)) (36 : Int32)) (1 : Int32)) (67 : Int32)) (79 : Int32)) (82 : Int32)) (69 : Int32)) (0 : Int32)) (mi x2.toNatClampNeg))))
def f_Mo_dump_L74 (S : cd_Mo × cd_By) (ma : cd_Ia) (ms : cd_Ia) (mf : cd_Ia) (mb : cd_By) (mr : cd_Ia) (mt : cd_Ia) (mi : cd_Ia) (mg : cd_Ia) : Nat → Int32 → Int32 → (cd_Mo × cd_By) → Int32 × cd_Mo × cd_By
  | 0, _, _, _ => default
  | gn + 1, x1, x2, S' => (if x2 = (-1 : Int32) then (f_Mo_dump_L134 S ma ms mf mb mr mt mi mg 4 (0 : Int32) S') else (f_Mo_dump_L74 S ma ms mf mb mr mt mi mg gn (x1 + (f_Mo_filled ((f_Mo_programHeader S' (1 : Int32) x1 (ma x2.toNatClampNeg) (f_Mo_filled S'.1 ms mb x2) (ms x2.toNatClampNeg) (mf x2.toNatClampNeg) (64 : Int32)).1) ms mb x2)) (f_Mo_above ((f_Mo_programHeader S' (1 : Int32) x1 (ma x2.toNatClampNeg) (f_Mo_filled S'.1 ms mb x2) (ms x2.toNatClampNeg) (mf x2.toNatClampNeg) (64 : Int32)).1) ma mr (ma x2.toNatClampNeg)) (f_Mo_programHeader S' (1 : Int32) x1 (ma x2.toNatClampNeg) (f_Mo_filled S'.1 ms mb x2) (ms x2.toNatClampNeg) (mf x2.toNatClampNeg) (64 : Int32))))
def f_Mo_dump (S : cd_Mo × cd_By) (ma : cd_Ia) (ms : cd_Ia) (mf : cd_Ia) (mb : cd_By) (mr : cd_Ia) (mt : cd_Ia) (mi : cd_Ia) (mg : cd_Ia) : Int32 × cd_Mo × cd_By := (f_Mo_dump_L74 S ma ms mf mb mr mt mi mg 7 (((52 : Int32) + ((32 : Int32) * ((mr (0 : Int32).toNatClampNeg) + (1 : Int32)))) + ((56 : Int32) * (mt (0 : Int32).toNatClampNeg))) (f_Mo_above ((f_Mo_programHeader (f_Mo_header (((0 : Int32), (0 : Int32), S.1.2.2.1, S.1.2.2.2.1, S.1.2.2.2.2.1, S.1.2.2.2.2.2), S.2) mr) (4 : Int32) ((52 : Int32) + ((32 : Int32) * ((mr (0 : Int32).toNatClampNeg) + (1 : Int32)))) (0 : Int32) ((56 : Int32) * (mt (0 : Int32).toNatClampNeg)) ((56 : Int32) * (mt (0 : Int32).toNatClampNeg)) (0 : Int32) (4 : Int32)).1) ma mr (-1 : Int32)) (f_Mo_programHeader (f_Mo_header (((0 : Int32), (0 : Int32), S.1.2.2.1, S.1.2.2.2.1, S.1.2.2.2.2.1, S.1.2.2.2.2.2), S.2) mr) (4 : Int32) ((52 : Int32) + ((32 : Int32) * ((mr (0 : Int32).toNatClampNeg) + (1 : Int32)))) (0 : Int32) ((56 : Int32) * (mt (0 : Int32).toNatClampNeg)) ((56 : Int32) * (mt (0 : Int32).toNatClampNeg)) (0 : Int32) (4 : Int32)))
def o_Mo_dump_L254 (S : cd_Mo × cd_By) (ma : cd_Ia) (ms : cd_Ia) (mf : cd_Ia) (mb : cd_By) (mr : cd_Ia) (mt : cd_Ia) (mi : cd_Ia) (mg : cd_Ia) (KO : Int32 → Int32 → Int32 → (cd_Mo × cd_By) → Prop) : Nat → Int32 → Int32 → Int32 → (cd_Mo × cd_By) → Prop
  | 0, _, _, _, _ => False
  | gn + 1, x2, x3, x4, S' => (x3 ≤ x4 → KO x2 x3 x4 S') ∧ (¬ x3 ≤ x4 → vp_in (((1024 : Int32) * x2) + x4) 18432) ∧ (¬ x3 ≤ x4 → o_Mo_lay S' (mb (((1024 : Int32) * x2) + x4).toNatClampNeg)) ∧ (¬ x3 ≤ x4 → o_Mo_dump_L254 S ma ms mf mb mr mt mi mg KO gn x2 x3 (x4 + (1 : Int32)) (f_Mo_lay S' (mb (((1024 : Int32) * x2) + x4).toNatClampNeg)))
def o_Mo_dump_L240 (S : cd_Mo × cd_By) (ma : cd_Ia) (ms : cd_Ia) (mf : cd_Ia) (mb : cd_By) (mr : cd_Ia) (mt : cd_Ia) (mi : cd_Ia) (mg : cd_Ia) : Nat → Int32 → (cd_Mo × cd_By) → Prop
  | 0, _, _ => False
  | gn + 1, x2, S' => (¬ x2 = (-1 : Int32) → o_Mo_filled S'.1 ms mb x2) ∧ (¬ x2 = (-1 : Int32) → o_Mo_dump_L254 S ma ms mf mb mr mt mi mg (fun (x2' : Int32) (x3' : Int32) (x4' : Int32) (S'' : cd_Mo × cd_By) => (vp_in x2' 18) ∧ (o_Mo_above S''.1 ma mr (ma x2'.toNatClampNeg)) ∧ (o_Mo_dump_L240 S ma ms mf mb mr mt mi mg gn (f_Mo_above S''.1 ma mr (ma x2'.toNatClampNeg)) S'')) 1025 x2 (f_Mo_filled S'.1 ms mb x2) (0 : Int32) S')
def o_Mo_dump_L201 (S : cd_Mo × cd_By) (ma : cd_Ia) (ms : cd_Ia) (mf : cd_Ia) (mb : cd_By) (mr : cd_Ia) (mt : cd_Ia) (mi : cd_Ia) (mg : cd_Ia) (KO : Int32 → Int32 → (cd_Mo × cd_By) → Prop) : Nat → Int32 → Int32 → (cd_Mo × cd_By) → Prop
  | 0, _, _, _ => False
  | gn + 1, x2, x3, S' => ((8 : Int32) ≤ x3 → KO x2 x3 S') ∧ (¬ (8 : Int32) ≤ x3 → vp_in (((8 : Int32) * x2) + x3) 72) ∧ (¬ (8 : Int32) ≤ x3 → o_Mo_four S' (mg (((8 : Int32) * x2) + x3).toNatClampNeg)) ∧ (¬ (8 : Int32) ≤ x3 → o_Mo_dump_L201 S ma ms mf mb mr mt mi mg KO gn x2 (x3 + (1 : Int32)) (f_Mo_four S' (mg (((8 : Int32) * x2) + x3).toNatClampNeg)))
def o_Mo_dump_L134 (S : cd_Mo × cd_By) (ma : cd_Ia) (ms : cd_Ia) (mf : cd_Ia) (mb : cd_By) (mr : cd_Ia) (mt : cd_Ia) (mi : cd_Ia) (mg : cd_Ia) : Nat → Int32 → (cd_Mo × cd_By) → Prop
  | 0, _, _ => False
  | gn + 1, x2, S' => (vp_in (0 : Int32) 3) ∧ ((mt (0 : Int32).toNatClampNeg) ≤ x2 → o_Mo_above S'.1 ma mr (-1 : Int32)) ∧ ((mt (0 : Int32).toNatClampNeg) ≤ x2 → o_Mo_dump_L240 S ma ms mf mb mr mt mi mg 7 (f_Mo_above S'.1 ma mr (-1 : Int32)) S') ∧ (¬ (mt (0 : Int32).toNatClampNeg) ≤ x2 → o_Mo_four S' (5 : Int32)) ∧ (¬ (mt (0 : Int32).toNatClampNeg) ≤ x2 → o_Mo_four (f_Mo_four S' (5 : Int32)) (36 : Int32)) ∧ (¬ (mt (0 : Int32).toNatClampNeg) ≤ x2 → o_Mo_four (f_Mo_four (f_Mo_four S' (5 : Int32)) (36 : Int32)) (1 : Int32)) ∧ (¬ (mt (0 : Int32).toNatClampNeg) ≤ x2 → o_Mo_lay (f_Mo_four (f_Mo_four (f_Mo_four S' (5 : Int32)) (36 : Int32)) (1 : Int32)) (67 : Int32)) ∧ (¬ (mt (0 : Int32).toNatClampNeg) ≤ x2 → o_Mo_lay (f_Mo_lay (f_Mo_four (f_Mo_four (f_Mo_four S' (5 : Int32)) (36 : Int32)) (1 : Int32)) (67 : Int32)) (79 : Int32)) ∧ (¬ (mt (0 : Int32).toNatClampNeg) ≤ x2 → o_Mo_lay (f_Mo_lay (f_Mo_lay (f_Mo_four (f_Mo_four (f_Mo_four S' (5 : Int32)) (36 : Int32)) (1 : Int32)) (67 : Int32)) (79 : Int32)) (82 : Int32)) ∧ (¬ (mt (0 : Int32).toNatClampNeg) ≤ x2 → o_Mo_lay (f_Mo_lay (f_Mo_lay (f_Mo_lay (f_Mo_four (f_Mo_four (f_Mo_four S' (5 : Int32)) (36 : Int32)) (1 : Int32)) (67 : Int32)) (79 : Int32)) (82 : Int32)) (69 : Int32)) ∧ (¬ (mt (0 : Int32).toNatClampNeg) ≤ x2 → o_Mo_four (f_Mo_lay (f_Mo_lay (f_Mo_lay (f_Mo_lay (f_Mo_four (f_Mo_four (f_Mo_four S' (5 : Int32)) (36 : Int32)) (1 : Int32)) (67 : Int32)) (79 : Int32)) (82 : Int32)) (69 : Int32)) (0 : Int32)) ∧ (¬ (mt (0 : Int32).toNatClampNeg) ≤ x2 → vp_in x2 9) ∧ (¬ (mt (0 : Int32).toNatClampNeg) ≤ x2 → o_Mo_four (f_Mo_four (f_Mo_lay (f_Mo_lay (f_Mo_lay (f_Mo_lay (f_Mo_four (f_Mo_four (f_Mo_four S' (5 : Int32)) (36 : Int32)) (1 : Int32)) (67 : Int32)) (79 : Int32)) (82 : Int32)) (69 : Int32)) (0 : Int32)) (mi x2.toNatClampNeg)) ∧ (¬ (mt (0 : Int32).toNatClampNeg) ≤ x2 → o_Mo_dump_L201 S ma ms mf mb mr mt mi mg (fun (x2'' : Int32) (x3'' : Int32) (S''' : cd_Mo × cd_By) => (o_Mo_dump_L134 S ma ms mf mb mr mt mi mg gn (x2'' + (1 : Int32)) S''')) 9 x2 (0 : Int32) (f_Mo_four (f_Mo_four (f_Mo_lay (f_Mo_lay (f_Mo_lay (f_Mo_lay (f_Mo_four (f_Mo_four (f_Mo_four S' (5 : Int32)) (36 : Int32)) (1 : Int32)) (67 : Int32)) (79 : Int32)) (82 : Int32)) (69 : Int32)) (0 : Int32)) (mi x2.toNatClampNeg)))
def o_Mo_dump_L74 (S : cd_Mo × cd_By) (ma : cd_Ia) (ms : cd_Ia) (mf : cd_Ia) (mb : cd_By) (mr : cd_Ia) (mt : cd_Ia) (mi : cd_Ia) (mg : cd_Ia) : Nat → Int32 → Int32 → (cd_Mo × cd_By) → Prop
  | 0, _, _, _ => False
  | gn + 1, x1, x2, S' => (x2 = (-1 : Int32) → o_Mo_dump_L134 S ma ms mf mb mr mt mi mg 4 (0 : Int32) S') ∧ (¬ x2 = (-1 : Int32) → vp_in x2 18) ∧ (¬ x2 = (-1 : Int32) → o_Mo_filled S'.1 ms mb x2) ∧ (¬ x2 = (-1 : Int32) → vp_in x2 18) ∧ (¬ x2 = (-1 : Int32) → vp_in x2 18) ∧ (¬ x2 = (-1 : Int32) → o_Mo_programHeader S' (1 : Int32) x1 (ma x2.toNatClampNeg) (f_Mo_filled S'.1 ms mb x2) (ms x2.toNatClampNeg) (mf x2.toNatClampNeg) (64 : Int32)) ∧ (¬ x2 = (-1 : Int32) → o_Mo_filled ((f_Mo_programHeader S' (1 : Int32) x1 (ma x2.toNatClampNeg) (f_Mo_filled S'.1 ms mb x2) (ms x2.toNatClampNeg) (mf x2.toNatClampNeg) (64 : Int32)).1) ms mb x2) ∧ (¬ x2 = (-1 : Int32) → vp_in x2 18) ∧ (¬ x2 = (-1 : Int32) → o_Mo_above ((f_Mo_programHeader S' (1 : Int32) x1 (ma x2.toNatClampNeg) (f_Mo_filled S'.1 ms mb x2) (ms x2.toNatClampNeg) (mf x2.toNatClampNeg) (64 : Int32)).1) ma mr (ma x2.toNatClampNeg)) ∧ (¬ x2 = (-1 : Int32) → o_Mo_dump_L74 S ma ms mf mb mr mt mi mg gn (x1 + (f_Mo_filled ((f_Mo_programHeader S' (1 : Int32) x1 (ma x2.toNatClampNeg) (f_Mo_filled S'.1 ms mb x2) (ms x2.toNatClampNeg) (mf x2.toNatClampNeg) (64 : Int32)).1) ms mb x2)) (f_Mo_above ((f_Mo_programHeader S' (1 : Int32) x1 (ma x2.toNatClampNeg) (f_Mo_filled S'.1 ms mb x2) (ms x2.toNatClampNeg) (mf x2.toNatClampNeg) (64 : Int32)).1) ma mr (ma x2.toNatClampNeg)) (f_Mo_programHeader S' (1 : Int32) x1 (ma x2.toNatClampNeg) (f_Mo_filled S'.1 ms mb x2) (ms x2.toNatClampNeg) (mf x2.toNatClampNeg) (64 : Int32)))
def o_Mo_dump (S : cd_Mo × cd_By) (ma : cd_Ia) (ms : cd_Ia) (mf : cd_Ia) (mb : cd_By) (mr : cd_Ia) (mt : cd_Ia) (mi : cd_Ia) (mg : cd_Ia) : Prop := (o_Mo_header (((0 : Int32), (0 : Int32), S.1.2.2.1, S.1.2.2.2.1, S.1.2.2.2.2.1, S.1.2.2.2.2.2), S.2) mr) ∧ (vp_in (0 : Int32) 3) ∧ (vp_in (0 : Int32) 3) ∧ (vp_in (0 : Int32) 3) ∧ (o_Mo_programHeader (f_Mo_header (((0 : Int32), (0 : Int32), S.1.2.2.1, S.1.2.2.2.1, S.1.2.2.2.2.1, S.1.2.2.2.2.2), S.2) mr) (4 : Int32) ((52 : Int32) + ((32 : Int32) * ((mr (0 : Int32).toNatClampNeg) + (1 : Int32)))) (0 : Int32) ((56 : Int32) * (mt (0 : Int32).toNatClampNeg)) ((56 : Int32) * (mt (0 : Int32).toNatClampNeg)) (0 : Int32) (4 : Int32)) ∧ (vp_in (0 : Int32) 3) ∧ (o_Mo_above ((f_Mo_programHeader (f_Mo_header (((0 : Int32), (0 : Int32), S.1.2.2.1, S.1.2.2.2.1, S.1.2.2.2.2.1, S.1.2.2.2.2.2), S.2) mr) (4 : Int32) ((52 : Int32) + ((32 : Int32) * ((mr (0 : Int32).toNatClampNeg) + (1 : Int32)))) (0 : Int32) ((56 : Int32) * (mt (0 : Int32).toNatClampNeg)) ((56 : Int32) * (mt (0 : Int32).toNatClampNeg)) (0 : Int32) (4 : Int32)).1) ma mr (-1 : Int32)) ∧ (o_Mo_dump_L74 S ma ms mf mb mr mt mi mg 7 (((52 : Int32) + ((32 : Int32) * ((mr (0 : Int32).toNatClampNeg) + (1 : Int32)))) + ((56 : Int32) * (mt (0 : Int32).toNatClampNeg))) (f_Mo_above ((f_Mo_programHeader (f_Mo_header (((0 : Int32), (0 : Int32), S.1.2.2.1, S.1.2.2.2.1, S.1.2.2.2.2.1, S.1.2.2.2.2.2), S.2) mr) (4 : Int32) ((52 : Int32) + ((32 : Int32) * ((mr (0 : Int32).toNatClampNeg) + (1 : Int32)))) (0 : Int32) ((56 : Int32) * (mt (0 : Int32).toNatClampNeg)) ((56 : Int32) * (mt (0 : Int32).toNatClampNeg)) (0 : Int32) (4 : Int32)).1) ma mr (-1 : Int32)) (f_Mo_programHeader (f_Mo_header (((0 : Int32), (0 : Int32), S.1.2.2.1, S.1.2.2.2.1, S.1.2.2.2.2.1, S.1.2.2.2.2.2), S.2) mr) (4 : Int32) ((52 : Int32) + ((32 : Int32) * ((mr (0 : Int32).toNatClampNeg) + (1 : Int32)))) (0 : Int32) ((56 : Int32) * (mt (0 : Int32).toNatClampNeg)) ((56 : Int32) * (mt (0 : Int32).toNatClampNeg)) (0 : Int32) (4 : Int32)))
set_option maxHeartbeats 4000000 in
set_option maxRecDepth 100000 in
theorem c_Mo_dump (l : Launch) (D : va_G) (tt : Nat → ClassId) (ad : Nat → Nat) (N : Nat) (A : Nat → Prop) (zs : Nat → Nat) (w0 : Nat → va_E) (q : Nat) (S : cd_Mo × cd_By) (ma : cd_Ia) (ms : cd_Ia) (mf : cd_Ia) (mb : cd_By) (mr : cd_Ia) (mt : cd_Ia) (mi : cd_Ia) (mg : cd_Ia) (hR0 : cd_MoAt N tt ad w0 q S.1) (hR1 : cd_IaAt N tt ad w0 (q + 1) 18 ma) (hR2 : cd_IaAt N tt ad w0 (q + 2) 18 ms) (hR3 : cd_IaAt N tt ad w0 (q + 3) 18 mf) (hR4 : cd_ByAt N tt ad w0 (q + 4) 18432 mb) (hR5 : cd_IaAt N tt ad w0 (q + 5) 3 mr) (hR6 : cd_IaAt N tt ad w0 (q + 6) 3 mt) (hR7 : cd_IaAt N tt ad w0 (q + 7) 9 mi) (hR8 : cd_IaAt N tt ad w0 (q + 8) 72 mg) (hR9 : cd_ByAt N tt ad w0 (q + 9) 8192 S.2) (ho : o_Mo_dump S ma ms mf mb mr mt mi mg) : Met l y_Mo_dump w_Mo_dump ({ frames := 4, cells := 0, slots := 0, locals := 90 }) (va_Pc [.ref (ad q)] (cd_U D tt ad N A zs w0)) (va_Qi (fun r w' => (f_Mo_dump S ma ms mf mb mr mt mi mg).1 = r ∧ cd_MoAt N tt ad w' q ((f_Mo_dump S ma ms mf mb mr mt mi mg).2.1) ∧ cd_ByAt N tt ad w' (q + 9) 8192 ((f_Mo_dump S ma ms mf mb mr mt mi mg).2.2) ∧ (∀ k : Nat, (k < q ∨ q + 1 ≤ k) ∧ (k < (q + 9) ∨ (q + 9) + 1 ≤ k) → w' k = w0 k)) (fun w' t => cd_P D ad N A w' t.heap) A) 0 0 A := by
  refine Met.ofW (cc := b_Mo_dump) (maxL := 5) (ret := (some .int)) (by decide) rfl ?_
  intro p e s m args below meth c s₁ B hml hv
  obtain ⟨rfl, hP, hK, hZ⟩ := hv
  have hx := B.exec
  have hb := B.bytes
  have hr := B.returns
  have hA : ∀ w ∈ cd_AW, w.before _ s = true := fun w h => atoms_spec (ws := w_Mo_dump) B.pre w (List.mem_cons_of_mem _ h)
  have hown : s.vm.findClass R_Mo = some m.cls := findClass_of_methodNamed B.named
  have hlocks := B.notSynchronized
  have L254 : ∀ (K : Int32 → Int32 → Int32 → (cd_Mo × cd_By) → Int32 × cd_Mo × cd_By) (KO : Int32 → Int32 → Int32 → (cd_Mo × cd_By) → Prop) (gn : Nat) (x2 : Int32) (x3 : Int32) (x4 : Int32) (S' : cd_Mo × cd_By) (w : Nat → va_E) (efr : ∀ k : Nat, (k < q ∨ q + 1 ≤ k) ∧ (k < (q + 9) ∨ (q + 9) + 1 ≤ k) → w k = w0 k) (H : Heap) (locs : List Loc) (ls : Array Slot), lv_has ls 5 [(0, .ref (ad q)), (2, .int x2), (3, .int x3), (4, .int x4)] → (f_Mo_dump S ma ms mf mb mr mt mi mg) = f_Mo_dump_L254 S ma ms mf mb mr mt mi mg K gn x2 x3 x4 S' → cd_MoAt N tt ad w q S'.1 → cd_IaAt N tt ad w (q + 1) 18 ma → cd_IaAt N tt ad w (q + 2) 18 ms → cd_IaAt N tt ad w (q + 3) 18 mf → cd_ByAt N tt ad w (q + 4) 18432 mb → cd_IaAt N tt ad w (q + 5) 3 mr → cd_IaAt N tt ad w (q + 6) 3 mt → cd_IaAt N tt ad w (q + 7) 9 mi → cd_IaAt N tt ad w (q + 8) 72 mg → cd_ByAt N tt ad w (q + 9) 8192 S'.2 → cd_P D ad N A w H → va_S A s.heap H locs → o_Mo_dump_L254 S ma ms mf mb mr mt mi mg KO gn x2 x3 x4 S' → (∀ (x2 : Int32) (x3 : Int32) (x4 : Int32) (S' : cd_Mo × cd_By) (w : Nat → va_E) (efr : ∀ k : Nat, (k < q ∨ q + 1 ≤ k) ∧ (k < (q + 9) ∨ (q + 9) + 1 ≤ k) → w k = w0 k) (H : Heap) (locs : List Loc) (ls : Array Slot), lv_has ls 5 [(0, .ref (ad q)), (2, .int x2), (3, .int x3), (4, .int x4)] → (f_Mo_dump S ma ms mf mb mr mt mi mg) = K x2 x3 x4 S' → cd_MoAt N tt ad w q S'.1 → cd_IaAt N tt ad w (q + 1) 18 ma → cd_IaAt N tt ad w (q + 2) 18 ms → cd_IaAt N tt ad w (q + 3) 18 mf → cd_ByAt N tt ad w (q + 4) 18432 mb → cd_IaAt N tt ad w (q + 5) 3 mr → cd_IaAt N tt ad w (q + 6) 3 mt → cd_IaAt N tt ad w (q + 7) 9 mi → cd_IaAt N tt ad w (q + 8) 72 mg → cd_ByAt N tt ad w (q + 9) 8192 S'.2 → cd_P D ad N A w H → va_S A s.heap H locs → KO x2 x3 x4 S' → W p l e (headSpec w_Mo_dump ({ frames := 4, cells := 0, slots := 0, locals := 90 })).room s m [.ref (ad q)].toArray below meth c H locs 0 0 (MQ below (va_Qi (fun r w' => (f_Mo_dump S ma ms mf mb mr mt mi mg).1 = r ∧ cd_MoAt N tt ad w' q ((f_Mo_dump S ma ms mf mb mr mt mi mg).2.1) ∧ cd_ByAt N tt ad w' (q + 9) 8192 ((f_Mo_dump S ma ms mf mb mr mt mi mg).2.2) ∧ (∀ k : Nat, (k < q ∨ q + 1 ≤ k) ∧ (k < (q + 9) ∨ (q + 9) + 1 ≤ k) → w' k = w0 k)) (fun w' t => cd_P D ad N A w' t.heap) A) [.ref (ad q)].toArray s 0 0 A) (F0 m 283 ls [])) → W p l e (headSpec w_Mo_dump ({ frames := 4, cells := 0, slots := 0, locals := 90 })).room s m [.ref (ad q)].toArray below meth c H locs 0 0 (MQ below (va_Qi (fun r w' => (f_Mo_dump S ma ms mf mb mr mt mi mg).1 = r ∧ cd_MoAt N tt ad w' q ((f_Mo_dump S ma ms mf mb mr mt mi mg).2.1) ∧ cd_ByAt N tt ad w' (q + 9) 8192 ((f_Mo_dump S ma ms mf mb mr mt mi mg).2.2) ∧ (∀ k : Nat, (k < q ∨ q + 1 ≤ k) ∧ (k < (q + 9) ∨ (q + 9) + 1 ≤ k) → w' k = w0 k)) (fun w' t => cd_P D ad N A w' t.heap) A) [.ref (ad q)].toArray s 0 0 A) (F0 m 254 ls []) := by
    intro K KO gn
    induction gn with
    | zero => intro x2 x3 x4 S' w efr H locs ls hl he hL0 hL1 hL2 hL3 hL4 hL5 hL6 hL7 hL8 hL9 hP hS ho hKt; exact ho.elim
    | succ gn ih =>
      intro x2 x3 x4 S' w efr H locs ls hl he hL0 hL1 hL2 hL3 hL4 hL5 hL6 hL7 hL8 hL9 hP hS ho hKt
      have ho : (x3 ≤ x4 → KO x2 x3 x4 S') ∧ (¬ x3 ≤ x4 → vp_in (((1024 : Int32) * x2) + x4) 18432) ∧ (¬ x3 ≤ x4 → o_Mo_lay S' (mb (((1024 : Int32) * x2) + x4).toNatClampNeg)) ∧ (¬ x3 ≤ x4 → o_Mo_dump_L254 S ma ms mf mb mr mt mi mg KO gn x2 x3 (x4 + (1 : Int32)) (f_Mo_lay S' (mb (((1024 : Int32) * x2) + x4).toNatClampNeg))) := ho
      obtain ⟨hn1, fa2⟩ := hL0
      refine lv_iload hx hb d_Mo_dump_254 (lv_at hl 3 rfl) ?_
      refine lv_iload_n hx hb d_Mo_dump_256 rfl (lv_at hl 2 rfl) ?_
      refine lv_icmp_ge (tgt := 283) hx hb d_Mo_dump_257 (by decide) (fun hc3 => ?_) (fun hc3 => ?_)
      · exact hKt x2 x3 x4 S' w (fun k hk => (efr k (by omega))) H locs ls (lv_sub hl [0, 1, 2, 3] rfl) (show (f_Mo_dump S ma ms mf mb mr mt mi mg) = K x2 x3 x4 S' by rw [he, f_Mo_dump_L254, if_pos hc3]) (⟨hn1, fa2⟩) hL1 hL2 hL3 hL4 hL5 hL6 hL7 hL8 hL9 hP hS (ho.1 hc3)
      · refine lv_aload_n hx hb d_Mo_dump_260 rfl (lv_at hl 0 rfl) ?_
        refine lv_aload_n hx hb d_Mo_dump_261 rfl (lv_at hl 0 rfl) ?_
        refine g_get (ci := 7) (C := R_Mo) (T := F_Mo) (Nf := 16) (v := .ref (ad (q + 4))) hx hb hA in_Mo hown hK hP (k := q) (by omega) fa2 rfl 4 (by decide) (hA _ aw_564) (fun _ h9 => h9) rfl d_Mo_dump_262 ?_
        refine lv_sipush (v := (1024 : Int32)) hx hb d_Mo_dump_265 (by decide) ?_
        refine lv_iload_n hx hb d_Mo_dump_268 rfl (lv_at hl 1 rfl) ?_
        refine lv_imul hx hb d_Mo_dump_269 ?_
        refine lv_iload hx hb d_Mo_dump_270 (lv_at hl 3 rfl) ?_
        refine lv_iadd hx hb d_Mo_dump_272 ?_
        obtain ⟨hn4, fa5⟩ := hL4
        refine g_bald hx hb hK hP (k := (q + 4)) (by omega) fa5 rfl (ho.2.1 hc3) d_Mo_dump_273 ?_
        refine va_callv (va_runV (As := [.int (mb (((1024 : Int32) * x2) + x4).toNatClampNeg)]) (rest := []) ⟨hx, hb, hml, hown, hA⟩ (c_Mo_lay l D tt ad N A zs w q S' (mb (((1024 : Int32) * x2) + x4).toNatClampNeg) (⟨hn1, fa2⟩) hL9 (ho.2.2.1 hc3)) (cwV 1 hA (cd_gV aw_637 aw_638 aw_788 aw_8 aw_639) rfl rfl rfl ⟨rfl, by decide, by decide, by decide +kernel⟩ ⟨Nat.le_of_ble_eq_true rfl, Nat.le_of_ble_eq_true rfl⟩) ⟨cd_blind, cd_recv hK hP (k := q) (by omega) fa2 rfl, fun U hU hW => ⟨rfl, cd_pre hK hP hZ hS U hU hW⟩⟩ rfl rfl hl.1 rfl (lv_room (Nat.le_of_ble_eq_true rfl)) d_Mo_dump_274 ⟨Nat.zero_le _, Nat.zero_le _⟩) hS (fun _ _ h => h) (fun _ h => h) (fun w1 tE H locs ht hvm hr7 hP hz1 hk1 hS => ?_)
        have hP := cd_Pf ht hP
        obtain ⟨at9, at10, e1⟩ := hr7
        have at11 := cd_IaAt_keep hL1 (fun k h1 h2 => e1 k (by omega))
        have at12 := cd_IaAt_keep hL2 (fun k h1 h2 => e1 k (by omega))
        have at13 := cd_IaAt_keep hL3 (fun k h1 h2 => e1 k (by omega))
        have fa14 := (e1 (q + 4) (by omega)).trans fa5
        have at15 := cd_IaAt_keep hL5 (fun k h1 h2 => e1 k (by omega))
        have at16 := cd_IaAt_keep hL6 (fun k h1 h2 => e1 k (by omega))
        have at17 := cd_IaAt_keep hL7 (fun k h1 h2 => e1 k (by omega))
        have at18 := cd_IaAt_keep hL8 (fun k h1 h2 => e1 k (by omega))
        obtain ⟨hn19, fa20⟩ := at9
        refine lv_iinc (k := 3) (v := (x4 + (1 : Int32))) (lv' := [(4, .int (x4 + (1 : Int32))), (0, .ref (ad q)), (2, .int x2), (3, .int x3)]) hx hb d_Mo_dump_277 hl rfl (cd_inc _ _ _ (by decide)) (by decide) rfl (fun ls hl => ?_)
        refine lv_goto (tgt := 254) hx hb d_Mo_dump_280 (by decide) ?_
        exact ih x2 x3 (x4 + (1 : Int32)) (f_Mo_lay S' (mb (((1024 : Int32) * x2) + x4).toNatClampNeg)) w1 (fun k hk => ((e1 k (by omega)).trans (efr k (by omega)))) H locs ls (lv_sub hl [1, 2, 3, 0] rfl) (show (f_Mo_dump S ma ms mf mb mr mt mi mg) = f_Mo_dump_L254 S ma ms mf mb mr mt mi mg K gn x2 x3 (x4 + (1 : Int32)) (f_Mo_lay S' (mb (((1024 : Int32) * x2) + x4).toNatClampNeg)) by rw [he, f_Mo_dump_L254, if_neg hc3]) (⟨hn19, fa20⟩) at11 at12 at13 (⟨hn4, fa14⟩) at15 at16 at17 at18 at10 hP hS (ho.2.2.2 hc3) hKt
  have L240 : ∀ (gn : Nat) (x2 : Int32) (S' : cd_Mo × cd_By) (w : Nat → va_E) (efr : ∀ k : Nat, (k < q ∨ q + 1 ≤ k) ∧ (k < (q + 9) ∨ (q + 9) + 1 ≤ k) → w k = w0 k) (H : Heap) (locs : List Loc) (ls : Array Slot), lv_has ls 5 [(0, .ref (ad q)), (2, .int x2)] → (f_Mo_dump S ma ms mf mb mr mt mi mg) = f_Mo_dump_L240 S ma ms mf mb mr mt mi mg gn x2 S' → cd_MoAt N tt ad w q S'.1 → cd_IaAt N tt ad w (q + 1) 18 ma → cd_IaAt N tt ad w (q + 2) 18 ms → cd_IaAt N tt ad w (q + 3) 18 mf → cd_ByAt N tt ad w (q + 4) 18432 mb → cd_IaAt N tt ad w (q + 5) 3 mr → cd_IaAt N tt ad w (q + 6) 3 mt → cd_IaAt N tt ad w (q + 7) 9 mi → cd_IaAt N tt ad w (q + 8) 72 mg → cd_ByAt N tt ad w (q + 9) 8192 S'.2 → cd_P D ad N A w H → va_S A s.heap H locs → o_Mo_dump_L240 S ma ms mf mb mr mt mi mg gn x2 S' → W p l e (headSpec w_Mo_dump ({ frames := 4, cells := 0, slots := 0, locals := 90 })).room s m [.ref (ad q)].toArray below meth c H locs 0 0 (MQ below (va_Qi (fun r w' => (f_Mo_dump S ma ms mf mb mr mt mi mg).1 = r ∧ cd_MoAt N tt ad w' q ((f_Mo_dump S ma ms mf mb mr mt mi mg).2.1) ∧ cd_ByAt N tt ad w' (q + 9) 8192 ((f_Mo_dump S ma ms mf mb mr mt mi mg).2.2) ∧ (∀ k : Nat, (k < q ∨ q + 1 ≤ k) ∧ (k < (q + 9) ∨ (q + 9) + 1 ≤ k) → w' k = w0 k)) (fun w' t => cd_P D ad N A w' t.heap) A) [.ref (ad q)].toArray s 0 0 A) (F0 m 240 ls []) := by
    intro gn
    induction gn with
    | zero => intro x2 S' w efr H locs ls hl he hL0 hL1 hL2 hL3 hL4 hL5 hL6 hL7 hL8 hL9 hP hS ho; exact ho.elim
    | succ gn ih =>
      intro x2 S' w efr H locs ls hl he hL0 hL1 hL2 hL3 hL4 hL5 hL6 hL7 hL8 hL9 hP hS ho
      have ho : (¬ x2 = (-1 : Int32) → o_Mo_filled S'.1 ms mb x2) ∧ (¬ x2 = (-1 : Int32) → o_Mo_dump_L254 S ma ms mf mb mr mt mi mg (fun (x2' : Int32) (x3' : Int32) (x4' : Int32) (S'' : cd_Mo × cd_By) => (vp_in x2' 18) ∧ (o_Mo_above S''.1 ma mr (ma x2'.toNatClampNeg)) ∧ (o_Mo_dump_L240 S ma ms mf mb mr mt mi mg gn (f_Mo_above S''.1 ma mr (ma x2'.toNatClampNeg)) S'')) 1025 x2 (f_Mo_filled S'.1 ms mb x2) (0 : Int32) S') := ho
      obtain ⟨hn21, fa22⟩ := hL0
      refine lv_iload_n hx hb d_Mo_dump_240 rfl (lv_at hl 1 rfl) ?_
      refine lv_iconst (v := (-1 : Int32)) hx hb d_Mo_dump_241 (by decide) ?_
      refine lv_icmp_eq (tgt := 297) hx hb d_Mo_dump_242 (by decide) (fun hc23 => ?_) (fun hc23 => ?_)
      · refine lv_aload_n hx hb d_Mo_dump_297 rfl (lv_at hl 0 rfl) ?_
        refine g_get (ci := 7) (C := R_Mo) (T := F_Mo) (Nf := 16) (v := .int S'.1.2.1) hx hb hA in_Mo hown hK hP (k := q) (by omega) fa22 rfl 10 (by decide) (hA _ aw_570) (fun _ h9 => h9) rfl d_Mo_dump_298 ?_
        have hf24 : (f_Mo_dump S ma ms mf mb mr mt mi mg) = (S'.1.2.1, S'.1, S'.2) := by rw [he, f_Mo_dump_L240, if_pos hc23]
        exact W.iret (v := S'.1.2.1) hx hb hr (fun tE ht _ => ⟨⟨_, w, rfl, ⟨(by rw [hf24]), (by rw [hf24]; exact ⟨hn21, fa22⟩), (by rw [hf24]; exact hL9), (fun k hk => (efr k (by omega)))⟩, cd_Pt ht hP⟩, hS.F ht⟩) hS.2.2 d_Mo_dump_301
      · refine lv_aload_n hx hb d_Mo_dump_245 rfl (lv_at hl 0 rfl) ?_
        refine lv_iload_n hx hb d_Mo_dump_246 rfl (lv_at hl 1 rfl) ?_
        refine va_calli (va_runV (As := [.int x2]) (rest := []) ⟨hx, hb, hml, hown, hA⟩ (c_Mo_filled l D tt ad N A zs w q S'.1 ms mb x2 (⟨hn21, fa22⟩) hL2 hL4 (ho.1 hc23)) (cwV 1 hA (cd_gV aw_652 aw_653 aw_793 aw_8 aw_654) rfl rfl rfl ⟨rfl, by decide, by decide, by decide +kernel⟩ ⟨Nat.le_of_ble_eq_true rfl, Nat.le_of_ble_eq_true rfl⟩) ⟨cd_blind, cd_recv hK hP (k := q) (by omega) fa22 rfl, fun U hU hW => ⟨rfl, cd_pre hK hP hZ hS U hU hW⟩⟩ rfl rfl hl.1 rfl (lv_room (Nat.le_of_ble_eq_true rfl)) d_Mo_dump_247 ⟨Nat.zero_le _, Nat.zero_le _⟩) hS (fun _ _ h => h) (fun _ h => h) (fun r25 w2 tE H locs ht hvm hr26 hP hz1 hk1 hS => ?_)
        have hP := cd_Pf ht hP
        obtain ⟨rfl, rfl⟩ := hr26
        refine lv_istore_n (lv' := [(3, .int (f_Mo_filled S'.1 ms mb x2)), (0, .ref (ad q)), (2, .int x2)]) hx hb d_Mo_dump_250 rfl hl (by decide) rfl (fun ls hl => ?_)
        refine lv_iconst (v := (0 : Int32)) hx hb d_Mo_dump_251 (by decide) ?_
        refine lv_istore (lv' := [(4, .int (0 : Int32)), (3, .int (f_Mo_filled S'.1 ms mb x2)), (0, .ref (ad q)), (2, .int x2)]) hx hb d_Mo_dump_252 hl (by decide) rfl (fun ls hl => ?_)
        refine L254 (fun (x2' : Int32) (x3' : Int32) (x4' : Int32) (S'' : cd_Mo × cd_By) => (f_Mo_dump_L240 S ma ms mf mb mr mt mi mg gn (f_Mo_above S''.1 ma mr (ma x2'.toNatClampNeg)) S'')) (fun (x2' : Int32) (x3' : Int32) (x4' : Int32) (S'' : cd_Mo × cd_By) => (vp_in x2' 18) ∧ (o_Mo_above S''.1 ma mr (ma x2'.toNatClampNeg)) ∧ (o_Mo_dump_L240 S ma ms mf mb mr mt mi mg gn (f_Mo_above S''.1 ma mr (ma x2'.toNatClampNeg)) S'')) 1025 x2 (f_Mo_filled S'.1 ms mb x2) (0 : Int32) S' w (fun k hk => (efr k (by omega))) H locs ls (lv_sub hl [2, 3, 1, 0] rfl) (show (f_Mo_dump S ma ms mf mb mr mt mi mg) = f_Mo_dump_L254 S ma ms mf mb mr mt mi mg (fun (x2' : Int32) (x3' : Int32) (x4' : Int32) (S'' : cd_Mo × cd_By) => (f_Mo_dump_L240 S ma ms mf mb mr mt mi mg gn (f_Mo_above S''.1 ma mr (ma x2'.toNatClampNeg)) S'')) 1025 x2 (f_Mo_filled S'.1 ms mb x2) (0 : Int32) S' by rw [he, f_Mo_dump_L240, if_neg hc23]) (⟨hn21, fa22⟩) hL1 hL2 hL3 hL4 hL5 hL6 hL7 hL8 hL9 hP hS (ho.2 hc23) (fun x2' x3' x4' S'' w3 efr1 H locs ls hl he1 hK1_0 hK1_1 hK1_2 hK1_3 hK1_4 hK1_5 hK1_6 hK1_7 hK1_8 hK1_9 hP hS ho => ?_)
        have he1 : (f_Mo_dump S ma ms mf mb mr mt mi mg) = (f_Mo_dump_L240 S ma ms mf mb mr mt mi mg gn (f_Mo_above S''.1 ma mr (ma x2'.toNatClampNeg)) S'') := he1
        have ho : (vp_in x2' 18) ∧ (o_Mo_above S''.1 ma mr (ma x2'.toNatClampNeg)) ∧ (o_Mo_dump_L240 S ma ms mf mb mr mt mi mg gn (f_Mo_above S''.1 ma mr (ma x2'.toNatClampNeg)) S'') := ho
        obtain ⟨hn28, fa29⟩ := hK1_0
        refine lv_aload_n hx hb d_Mo_dump_283 rfl (lv_at hl 0 rfl) ?_
        refine lv_aload_n hx hb d_Mo_dump_284 rfl (lv_at hl 0 rfl) ?_
        refine g_get (ci := 7) (C := R_Mo) (T := F_Mo) (Nf := 16) (v := .ref (ad (q + 1))) hx hb hA in_Mo hown hK hP (k := q) (by omega) fa29 rfl 1 (by decide) (hA _ aw_561) (fun _ h9 => h9) rfl d_Mo_dump_285 ?_
        refine lv_iload_n hx hb d_Mo_dump_288 rfl (lv_at hl 1 rfl) ?_
        obtain ⟨hn30, fa31⟩ := hK1_1
        refine g_iald hx hb hK hP (k := (q + 1)) (by omega) fa31 rfl (ho.1) d_Mo_dump_289 ?_
        refine va_calli (va_runV (As := [.int (ma x2'.toNatClampNeg)]) (rest := []) ⟨hx, hb, hml, hown, hA⟩ (c_Mo_above l D tt ad N A zs w3 q S''.1 ma mr (ma x2'.toNatClampNeg) (⟨hn28, fa29⟩) (⟨hn30, fa31⟩) hK1_5 (ho.2.1)) (cwV 1 hA (cd_gV aw_649 aw_650 aw_792 aw_8 aw_651) rfl rfl rfl ⟨rfl, by decide, by decide, by decide +kernel⟩ ⟨Nat.le_of_ble_eq_true rfl, Nat.le_of_ble_eq_true rfl⟩) ⟨cd_blind, cd_recv hK hP (k := q) (by omega) fa29 rfl, fun U hU hW => ⟨rfl, cd_pre hK hP hZ hS U hU hW⟩⟩ rfl rfl hl.1 rfl (lv_room (Nat.le_of_ble_eq_true rfl)) d_Mo_dump_290 ⟨Nat.zero_le _, Nat.zero_le _⟩) hS (fun _ _ h => h) (fun _ h => h) (fun r32 w4 tE H locs ht hvm hr33 hP hz1 hk1 hS => ?_)
        have hP := cd_Pf ht hP
        obtain ⟨rfl, rfl⟩ := hr33
        refine lv_istore_n (lv' := [(2, .int (f_Mo_above S''.1 ma mr (ma x2'.toNatClampNeg))), (0, .ref (ad q)), (3, .int x3'), (4, .int x4')]) hx hb d_Mo_dump_293 rfl hl (by decide) rfl (fun ls hl => ?_)
        refine lv_goto (tgt := 240) hx hb d_Mo_dump_294 (by decide) ?_
        exact ih (f_Mo_above S''.1 ma mr (ma x2'.toNatClampNeg)) S'' w3 (fun k hk => (efr1 k (by omega))) H locs ls (lv_sub hl [1, 0] rfl) (show (f_Mo_dump S ma ms mf mb mr mt mi mg) = f_Mo_dump_L240 S ma ms mf mb mr mt mi mg gn (f_Mo_above S''.1 ma mr (ma x2'.toNatClampNeg)) S'' by rw [he1]) (⟨hn28, fa29⟩) (⟨hn30, fa31⟩) hK1_2 hK1_3 hK1_4 hK1_5 hK1_6 hK1_7 hK1_8 hK1_9 hP hS (ho.2.2)
  have L201 : ∀ (K : Int32 → Int32 → (cd_Mo × cd_By) → Int32 × cd_Mo × cd_By) (KO : Int32 → Int32 → (cd_Mo × cd_By) → Prop) (gn : Nat) (x2 : Int32) (x3 : Int32) (S' : cd_Mo × cd_By) (w : Nat → va_E) (efr : ∀ k : Nat, (k < q ∨ q + 1 ≤ k) ∧ (k < (q + 9) ∨ (q + 9) + 1 ≤ k) → w k = w0 k) (H : Heap) (locs : List Loc) (ls : Array Slot), lv_has ls 5 [(0, .ref (ad q)), (2, .int x2), (3, .int x3)] → (f_Mo_dump S ma ms mf mb mr mt mi mg) = f_Mo_dump_L201 S ma ms mf mb mr mt mi mg K gn x2 x3 S' → cd_MoAt N tt ad w q S'.1 → cd_IaAt N tt ad w (q + 1) 18 ma → cd_IaAt N tt ad w (q + 2) 18 ms → cd_IaAt N tt ad w (q + 3) 18 mf → cd_ByAt N tt ad w (q + 4) 18432 mb → cd_IaAt N tt ad w (q + 5) 3 mr → cd_IaAt N tt ad w (q + 6) 3 mt → cd_IaAt N tt ad w (q + 7) 9 mi → cd_IaAt N tt ad w (q + 8) 72 mg → cd_ByAt N tt ad w (q + 9) 8192 S'.2 → cd_P D ad N A w H → va_S A s.heap H locs → o_Mo_dump_L201 S ma ms mf mb mr mt mi mg KO gn x2 x3 S' → (∀ (x2 : Int32) (x3 : Int32) (S' : cd_Mo × cd_By) (w : Nat → va_E) (efr : ∀ k : Nat, (k < q ∨ q + 1 ≤ k) ∧ (k < (q + 9) ∨ (q + 9) + 1 ≤ k) → w k = w0 k) (H : Heap) (locs : List Loc) (ls : Array Slot), lv_has ls 5 [(0, .ref (ad q)), (2, .int x2), (3, .int x3)] → (f_Mo_dump S ma ms mf mb mr mt mi mg) = K x2 x3 S' → cd_MoAt N tt ad w q S'.1 → cd_IaAt N tt ad w (q + 1) 18 ma → cd_IaAt N tt ad w (q + 2) 18 ms → cd_IaAt N tt ad w (q + 3) 18 mf → cd_ByAt N tt ad w (q + 4) 18432 mb → cd_IaAt N tt ad w (q + 5) 3 mr → cd_IaAt N tt ad w (q + 6) 3 mt → cd_IaAt N tt ad w (q + 7) 9 mi → cd_IaAt N tt ad w (q + 8) 72 mg → cd_ByAt N tt ad w (q + 9) 8192 S'.2 → cd_P D ad N A w H → va_S A s.heap H locs → KO x2 x3 S' → W p l e (headSpec w_Mo_dump ({ frames := 4, cells := 0, slots := 0, locals := 90 })).room s m [.ref (ad q)].toArray below meth c H locs 0 0 (MQ below (va_Qi (fun r w' => (f_Mo_dump S ma ms mf mb mr mt mi mg).1 = r ∧ cd_MoAt N tt ad w' q ((f_Mo_dump S ma ms mf mb mr mt mi mg).2.1) ∧ cd_ByAt N tt ad w' (q + 9) 8192 ((f_Mo_dump S ma ms mf mb mr mt mi mg).2.2) ∧ (∀ k : Nat, (k < q ∨ q + 1 ≤ k) ∧ (k < (q + 9) ∨ (q + 9) + 1 ≤ k) → w' k = w0 k)) (fun w' t => cd_P D ad N A w' t.heap) A) [.ref (ad q)].toArray s 0 0 A) (F0 m 228 ls [])) → W p l e (headSpec w_Mo_dump ({ frames := 4, cells := 0, slots := 0, locals := 90 })).room s m [.ref (ad q)].toArray below meth c H locs 0 0 (MQ below (va_Qi (fun r w' => (f_Mo_dump S ma ms mf mb mr mt mi mg).1 = r ∧ cd_MoAt N tt ad w' q ((f_Mo_dump S ma ms mf mb mr mt mi mg).2.1) ∧ cd_ByAt N tt ad w' (q + 9) 8192 ((f_Mo_dump S ma ms mf mb mr mt mi mg).2.2) ∧ (∀ k : Nat, (k < q ∨ q + 1 ≤ k) ∧ (k < (q + 9) ∨ (q + 9) + 1 ≤ k) → w' k = w0 k)) (fun w' t => cd_P D ad N A w' t.heap) A) [.ref (ad q)].toArray s 0 0 A) (F0 m 201 ls []) := by
    intro K KO gn
    induction gn with
    | zero => intro x2 x3 S' w efr H locs ls hl he hL0 hL1 hL2 hL3 hL4 hL5 hL6 hL7 hL8 hL9 hP hS ho hKt; exact ho.elim
    | succ gn ih =>
      intro x2 x3 S' w efr H locs ls hl he hL0 hL1 hL2 hL3 hL4 hL5 hL6 hL7 hL8 hL9 hP hS ho hKt
      have ho : ((8 : Int32) ≤ x3 → KO x2 x3 S') ∧ (¬ (8 : Int32) ≤ x3 → vp_in (((8 : Int32) * x2) + x3) 72) ∧ (¬ (8 : Int32) ≤ x3 → o_Mo_four S' (mg (((8 : Int32) * x2) + x3).toNatClampNeg)) ∧ (¬ (8 : Int32) ≤ x3 → o_Mo_dump_L201 S ma ms mf mb mr mt mi mg KO gn x2 (x3 + (1 : Int32)) (f_Mo_four S' (mg (((8 : Int32) * x2) + x3).toNatClampNeg))) := ho
      obtain ⟨hn35, fa36⟩ := hL0
      refine lv_iload_n hx hb d_Mo_dump_201 rfl (lv_at hl 2 rfl) ?_
      refine lv_bipush (v := (8 : Int32)) hx hb d_Mo_dump_202 (by decide) ?_
      refine lv_icmp_ge (tgt := 228) hx hb d_Mo_dump_204 (by decide) (fun hc37 => ?_) (fun hc37 => ?_)
      · exact hKt x2 x3 S' w (fun k hk => (efr k (by omega))) H locs ls (lv_sub hl [0, 1, 2] rfl) (show (f_Mo_dump S ma ms mf mb mr mt mi mg) = K x2 x3 S' by rw [he, f_Mo_dump_L201, if_pos hc37]) (⟨hn35, fa36⟩) hL1 hL2 hL3 hL4 hL5 hL6 hL7 hL8 hL9 hP hS (ho.1 hc37)
      · refine lv_aload_n hx hb d_Mo_dump_207 rfl (lv_at hl 0 rfl) ?_
        refine lv_aload_n hx hb d_Mo_dump_208 rfl (lv_at hl 0 rfl) ?_
        refine g_get (ci := 7) (C := R_Mo) (T := F_Mo) (Nf := 16) (v := .ref (ad (q + 8))) hx hb hA in_Mo hown hK hP (k := q) (by omega) fa36 rfl 8 (by decide) (hA _ aw_568) (fun _ h9 => h9) rfl d_Mo_dump_209 ?_
        refine lv_bipush (v := (8 : Int32)) hx hb d_Mo_dump_212 (by decide) ?_
        refine lv_iload_n hx hb d_Mo_dump_214 rfl (lv_at hl 1 rfl) ?_
        refine lv_imul hx hb d_Mo_dump_215 ?_
        refine lv_iload_n hx hb d_Mo_dump_216 rfl (lv_at hl 2 rfl) ?_
        refine lv_iadd hx hb d_Mo_dump_217 ?_
        obtain ⟨hn38, fa39⟩ := hL8
        refine g_iald hx hb hK hP (k := (q + 8)) (by omega) fa39 rfl (ho.2.1 hc37) d_Mo_dump_218 ?_
        refine va_callv (va_runV (As := [.int (mg (((8 : Int32) * x2) + x3).toNatClampNeg)]) (rest := []) ⟨hx, hb, hml, hown, hA⟩ (c_Mo_four l D tt ad N A zs w q S' (mg (((8 : Int32) * x2) + x3).toNatClampNeg) (⟨hn35, fa36⟩) hL9 (ho.2.2.1 hc37)) (cwV 1 hA (cd_gV aw_643 aw_644 aw_790 aw_8 aw_645) rfl rfl rfl ⟨rfl, by decide, by decide, by decide +kernel⟩ ⟨Nat.le_of_ble_eq_true rfl, Nat.le_of_ble_eq_true rfl⟩) ⟨cd_blind, cd_recv hK hP (k := q) (by omega) fa36 rfl, fun U hU hW => ⟨rfl, cd_pre hK hP hZ hS U hU hW⟩⟩ rfl rfl hl.1 rfl (lv_room (Nat.le_of_ble_eq_true rfl)) d_Mo_dump_219 ⟨Nat.zero_le _, Nat.zero_le _⟩) hS (fun _ _ h => h) (fun _ h => h) (fun w5 tE H locs ht hvm hr41 hP hz1 hk1 hS => ?_)
        have hP := cd_Pf ht hP
        obtain ⟨at43, at44, e5⟩ := hr41
        have at45 := cd_IaAt_keep hL1 (fun k h1 h2 => e5 k (by omega))
        have at46 := cd_IaAt_keep hL2 (fun k h1 h2 => e5 k (by omega))
        have at47 := cd_IaAt_keep hL3 (fun k h1 h2 => e5 k (by omega))
        have at48 := cd_ByAt_keep hL4 (fun k h1 h2 => e5 k (by omega))
        have at49 := cd_IaAt_keep hL5 (fun k h1 h2 => e5 k (by omega))
        have at50 := cd_IaAt_keep hL6 (fun k h1 h2 => e5 k (by omega))
        have at51 := cd_IaAt_keep hL7 (fun k h1 h2 => e5 k (by omega))
        have fa52 := (e5 (q + 8) (by omega)).trans fa39
        obtain ⟨hn53, fa54⟩ := at43
        refine lv_iinc (k := 2) (v := (x3 + (1 : Int32))) (lv' := [(3, .int (x3 + (1 : Int32))), (0, .ref (ad q)), (2, .int x2)]) hx hb d_Mo_dump_222 hl rfl (cd_inc _ _ _ (by decide)) (by decide) rfl (fun ls hl => ?_)
        refine lv_goto (tgt := 201) hx hb d_Mo_dump_225 (by decide) ?_
        exact ih x2 (x3 + (1 : Int32)) (f_Mo_four S' (mg (((8 : Int32) * x2) + x3).toNatClampNeg)) w5 (fun k hk => ((e5 k (by omega)).trans (efr k (by omega)))) H locs ls (lv_sub hl [1, 2, 0] rfl) (show (f_Mo_dump S ma ms mf mb mr mt mi mg) = f_Mo_dump_L201 S ma ms mf mb mr mt mi mg K gn x2 (x3 + (1 : Int32)) (f_Mo_four S' (mg (((8 : Int32) * x2) + x3).toNatClampNeg)) by rw [he, f_Mo_dump_L201, if_neg hc37]) (⟨hn53, fa54⟩) at45 at46 at47 at48 at49 at50 at51 (⟨hn38, fa52⟩) at44 hP hS (ho.2.2.2 hc37) hKt
  have L134 : ∀ (gn : Nat) (x2 : Int32) (S' : cd_Mo × cd_By) (w : Nat → va_E) (efr : ∀ k : Nat, (k < q ∨ q + 1 ≤ k) ∧ (k < (q + 9) ∨ (q + 9) + 1 ≤ k) → w k = w0 k) (H : Heap) (locs : List Loc) (ls : Array Slot), lv_has ls 5 [(0, .ref (ad q)), (2, .int x2)] → (f_Mo_dump S ma ms mf mb mr mt mi mg) = f_Mo_dump_L134 S ma ms mf mb mr mt mi mg gn x2 S' → cd_MoAt N tt ad w q S'.1 → cd_IaAt N tt ad w (q + 1) 18 ma → cd_IaAt N tt ad w (q + 2) 18 ms → cd_IaAt N tt ad w (q + 3) 18 mf → cd_ByAt N tt ad w (q + 4) 18432 mb → cd_IaAt N tt ad w (q + 5) 3 mr → cd_IaAt N tt ad w (q + 6) 3 mt → cd_IaAt N tt ad w (q + 7) 9 mi → cd_IaAt N tt ad w (q + 8) 72 mg → cd_ByAt N tt ad w (q + 9) 8192 S'.2 → cd_P D ad N A w H → va_S A s.heap H locs → o_Mo_dump_L134 S ma ms mf mb mr mt mi mg gn x2 S' → W p l e (headSpec w_Mo_dump ({ frames := 4, cells := 0, slots := 0, locals := 90 })).room s m [.ref (ad q)].toArray below meth c H locs 0 0 (MQ below (va_Qi (fun r w' => (f_Mo_dump S ma ms mf mb mr mt mi mg).1 = r ∧ cd_MoAt N tt ad w' q ((f_Mo_dump S ma ms mf mb mr mt mi mg).2.1) ∧ cd_ByAt N tt ad w' (q + 9) 8192 ((f_Mo_dump S ma ms mf mb mr mt mi mg).2.2) ∧ (∀ k : Nat, (k < q ∨ q + 1 ≤ k) ∧ (k < (q + 9) ∨ (q + 9) + 1 ≤ k) → w' k = w0 k)) (fun w' t => cd_P D ad N A w' t.heap) A) [.ref (ad q)].toArray s 0 0 A) (F0 m 134 ls []) := by
    intro gn
    induction gn with
    | zero => intro x2 S' w efr H locs ls hl he hL0 hL1 hL2 hL3 hL4 hL5 hL6 hL7 hL8 hL9 hP hS ho; exact ho.elim
    | succ gn ih =>
      intro x2 S' w efr H locs ls hl he hL0 hL1 hL2 hL3 hL4 hL5 hL6 hL7 hL8 hL9 hP hS ho
      have ho : (vp_in (0 : Int32) 3) ∧ ((mt (0 : Int32).toNatClampNeg) ≤ x2 → o_Mo_above S'.1 ma mr (-1 : Int32)) ∧ ((mt (0 : Int32).toNatClampNeg) ≤ x2 → o_Mo_dump_L240 S ma ms mf mb mr mt mi mg 7 (f_Mo_above S'.1 ma mr (-1 : Int32)) S') ∧ (¬ (mt (0 : Int32).toNatClampNeg) ≤ x2 → o_Mo_four S' (5 : Int32)) ∧ (¬ (mt (0 : Int32).toNatClampNeg) ≤ x2 → o_Mo_four (f_Mo_four S' (5 : Int32)) (36 : Int32)) ∧ (¬ (mt (0 : Int32).toNatClampNeg) ≤ x2 → o_Mo_four (f_Mo_four (f_Mo_four S' (5 : Int32)) (36 : Int32)) (1 : Int32)) ∧ (¬ (mt (0 : Int32).toNatClampNeg) ≤ x2 → o_Mo_lay (f_Mo_four (f_Mo_four (f_Mo_four S' (5 : Int32)) (36 : Int32)) (1 : Int32)) (67 : Int32)) ∧ (¬ (mt (0 : Int32).toNatClampNeg) ≤ x2 → o_Mo_lay (f_Mo_lay (f_Mo_four (f_Mo_four (f_Mo_four S' (5 : Int32)) (36 : Int32)) (1 : Int32)) (67 : Int32)) (79 : Int32)) ∧ (¬ (mt (0 : Int32).toNatClampNeg) ≤ x2 → o_Mo_lay (f_Mo_lay (f_Mo_lay (f_Mo_four (f_Mo_four (f_Mo_four S' (5 : Int32)) (36 : Int32)) (1 : Int32)) (67 : Int32)) (79 : Int32)) (82 : Int32)) ∧ (¬ (mt (0 : Int32).toNatClampNeg) ≤ x2 → o_Mo_lay (f_Mo_lay (f_Mo_lay (f_Mo_lay (f_Mo_four (f_Mo_four (f_Mo_four S' (5 : Int32)) (36 : Int32)) (1 : Int32)) (67 : Int32)) (79 : Int32)) (82 : Int32)) (69 : Int32)) ∧ (¬ (mt (0 : Int32).toNatClampNeg) ≤ x2 → o_Mo_four (f_Mo_lay (f_Mo_lay (f_Mo_lay (f_Mo_lay (f_Mo_four (f_Mo_four (f_Mo_four S' (5 : Int32)) (36 : Int32)) (1 : Int32)) (67 : Int32)) (79 : Int32)) (82 : Int32)) (69 : Int32)) (0 : Int32)) ∧ (¬ (mt (0 : Int32).toNatClampNeg) ≤ x2 → vp_in x2 9) ∧ (¬ (mt (0 : Int32).toNatClampNeg) ≤ x2 → o_Mo_four (f_Mo_four (f_Mo_lay (f_Mo_lay (f_Mo_lay (f_Mo_lay (f_Mo_four (f_Mo_four (f_Mo_four S' (5 : Int32)) (36 : Int32)) (1 : Int32)) (67 : Int32)) (79 : Int32)) (82 : Int32)) (69 : Int32)) (0 : Int32)) (mi x2.toNatClampNeg)) ∧ (¬ (mt (0 : Int32).toNatClampNeg) ≤ x2 → o_Mo_dump_L201 S ma ms mf mb mr mt mi mg (fun (x2'' : Int32) (x3'' : Int32) (S''' : cd_Mo × cd_By) => (o_Mo_dump_L134 S ma ms mf mb mr mt mi mg gn (x2'' + (1 : Int32)) S''')) 9 x2 (0 : Int32) (f_Mo_four (f_Mo_four (f_Mo_lay (f_Mo_lay (f_Mo_lay (f_Mo_lay (f_Mo_four (f_Mo_four (f_Mo_four S' (5 : Int32)) (36 : Int32)) (1 : Int32)) (67 : Int32)) (79 : Int32)) (82 : Int32)) (69 : Int32)) (0 : Int32)) (mi x2.toNatClampNeg))) := ho
      obtain ⟨hn55, fa56⟩ := hL0
      refine lv_iload_n hx hb d_Mo_dump_134 rfl (lv_at hl 1 rfl) ?_
      refine lv_aload_n hx hb d_Mo_dump_135 rfl (lv_at hl 0 rfl) ?_
      refine g_get (ci := 7) (C := R_Mo) (T := F_Mo) (Nf := 16) (v := .ref (ad (q + 6))) hx hb hA in_Mo hown hK hP (k := q) (by omega) fa56 rfl 6 (by decide) (hA _ aw_566) (fun _ h9 => h9) rfl d_Mo_dump_136 ?_
      refine lv_iconst (v := (0 : Int32)) hx hb d_Mo_dump_139 (by decide) ?_
      obtain ⟨hn57, fa58⟩ := hL6
      refine g_iald hx hb hK hP (k := (q + 6)) (by omega) fa58 rfl (ho.1) d_Mo_dump_140 ?_
      refine lv_icmp_ge (tgt := 234) hx hb d_Mo_dump_141 (by decide) (fun hc59 => ?_) (fun hc59 => ?_)
      · refine lv_aload_n hx hb d_Mo_dump_234 rfl (lv_at hl 0 rfl) ?_
        refine lv_iconst (v := (-1 : Int32)) hx hb d_Mo_dump_235 (by decide) ?_
        refine va_calli (va_runV (As := [.int (-1 : Int32)]) (rest := []) ⟨hx, hb, hml, hown, hA⟩ (c_Mo_above l D tt ad N A zs w q S'.1 ma mr (-1 : Int32) (⟨hn55, fa56⟩) hL1 hL5 (ho.2.1 hc59)) (cwV 1 hA (cd_gV aw_649 aw_650 aw_792 aw_8 aw_651) rfl rfl rfl ⟨rfl, by decide, by decide, by decide +kernel⟩ ⟨Nat.le_of_ble_eq_true rfl, Nat.le_of_ble_eq_true rfl⟩) ⟨cd_blind, cd_recv hK hP (k := q) (by omega) fa56 rfl, fun U hU hW => ⟨rfl, cd_pre hK hP hZ hS U hU hW⟩⟩ rfl rfl hl.1 rfl (lv_room (Nat.le_of_ble_eq_true rfl)) d_Mo_dump_236 ⟨Nat.zero_le _, Nat.zero_le _⟩) hS (fun _ _ h => h) (fun _ h => h) (fun r60 w6 tE H locs ht hvm hr61 hP hz1 hk1 hS => ?_)
        have hP := cd_Pf ht hP
        obtain ⟨rfl, rfl⟩ := hr61
        refine lv_istore_n (lv' := [(2, .int (f_Mo_above S'.1 ma mr (-1 : Int32))), (0, .ref (ad q))]) hx hb d_Mo_dump_239 rfl hl (by decide) rfl (fun ls hl => ?_)
        exact L240 7 (f_Mo_above S'.1 ma mr (-1 : Int32)) S' w (fun k hk => (efr k (by omega))) H locs ls (lv_sub hl [1, 0] rfl) (show (f_Mo_dump S ma ms mf mb mr mt mi mg) = f_Mo_dump_L240 S ma ms mf mb mr mt mi mg 7 (f_Mo_above S'.1 ma mr (-1 : Int32)) S' by rw [he, f_Mo_dump_L134, if_pos hc59]) (⟨hn55, fa56⟩) hL1 hL2 hL3 hL4 hL5 (⟨hn57, fa58⟩) hL7 hL8 hL9 hP hS (ho.2.2.1 hc59)
      · refine lv_aload_n hx hb d_Mo_dump_144 rfl (lv_at hl 0 rfl) ?_
        refine lv_iconst (v := (5 : Int32)) hx hb d_Mo_dump_145 (by decide) ?_
        refine va_callv (va_runV (As := [.int (5 : Int32)]) (rest := []) ⟨hx, hb, hml, hown, hA⟩ (c_Mo_four l D tt ad N A zs w q S' (5 : Int32) (⟨hn55, fa56⟩) hL9 (ho.2.2.2.1 hc59)) (cwV 1 hA (cd_gV aw_643 aw_644 aw_790 aw_8 aw_645) rfl rfl rfl ⟨rfl, by decide, by decide, by decide +kernel⟩ ⟨Nat.le_of_ble_eq_true rfl, Nat.le_of_ble_eq_true rfl⟩) ⟨cd_blind, cd_recv hK hP (k := q) (by omega) fa56 rfl, fun U hU hW => ⟨rfl, cd_pre hK hP hZ hS U hU hW⟩⟩ rfl rfl hl.1 rfl (lv_room (Nat.le_of_ble_eq_true rfl)) d_Mo_dump_146 ⟨Nat.zero_le _, Nat.zero_le _⟩) hS (fun _ _ h => h) (fun _ h => h) (fun w7 tE H locs ht hvm hr64 hP hz1 hk1 hS => ?_)
        have hP := cd_Pf ht hP
        obtain ⟨at66, at67, e7⟩ := hr64
        have at68 := cd_IaAt_keep hL1 (fun k h1 h2 => e7 k (by omega))
        have at69 := cd_IaAt_keep hL2 (fun k h1 h2 => e7 k (by omega))
        have at70 := cd_IaAt_keep hL3 (fun k h1 h2 => e7 k (by omega))
        have at71 := cd_ByAt_keep hL4 (fun k h1 h2 => e7 k (by omega))
        have at72 := cd_IaAt_keep hL5 (fun k h1 h2 => e7 k (by omega))
        have fa73 := (e7 (q + 6) (by omega)).trans fa58
        have at74 := cd_IaAt_keep hL7 (fun k h1 h2 => e7 k (by omega))
        have at75 := cd_IaAt_keep hL8 (fun k h1 h2 => e7 k (by omega))
        obtain ⟨hn76, fa77⟩ := at66
        refine lv_aload_n hx hb d_Mo_dump_149 rfl (lv_at hl 0 rfl) ?_
        refine lv_bipush (v := (36 : Int32)) hx hb d_Mo_dump_150 (by decide) ?_
        refine va_callv (va_runV (As := [.int (36 : Int32)]) (rest := []) ⟨hx, hb, hml, hown, hA⟩ (c_Mo_four l D tt ad N A zs w7 q (f_Mo_four S' (5 : Int32)) (36 : Int32) (⟨hn76, fa77⟩) at67 (ho.2.2.2.2.1 hc59)) (cwV 1 hA (cd_gV aw_643 aw_644 aw_790 aw_8 aw_645) rfl rfl rfl ⟨rfl, by decide, by decide, by decide +kernel⟩ ⟨Nat.le_of_ble_eq_true rfl, Nat.le_of_ble_eq_true rfl⟩) ⟨cd_blind, cd_recv hK hP (k := q) (by omega) fa77 rfl, fun U hU hW => ⟨rfl, cd_pre hK hP hZ hS U hU hW⟩⟩ rfl rfl hl.1 rfl (lv_room (Nat.le_of_ble_eq_true rfl)) d_Mo_dump_152 ⟨Nat.zero_le _, Nat.zero_le _⟩) hS (fun _ _ h => h) (fun _ h => h) (fun w8 tE H locs ht hvm hr79 hP hz1 hk1 hS => ?_)
        have hP := cd_Pf ht hP
        obtain ⟨at81, at82, e8⟩ := hr79
        have at83 := cd_IaAt_keep at68 (fun k h1 h2 => e8 k (by omega))
        have at84 := cd_IaAt_keep at69 (fun k h1 h2 => e8 k (by omega))
        have at85 := cd_IaAt_keep at70 (fun k h1 h2 => e8 k (by omega))
        have at86 := cd_ByAt_keep at71 (fun k h1 h2 => e8 k (by omega))
        have at87 := cd_IaAt_keep at72 (fun k h1 h2 => e8 k (by omega))
        have fa88 := (e8 (q + 6) (by omega)).trans fa73
        have at89 := cd_IaAt_keep at74 (fun k h1 h2 => e8 k (by omega))
        have at90 := cd_IaAt_keep at75 (fun k h1 h2 => e8 k (by omega))
        obtain ⟨hn91, fa92⟩ := at81
        refine lv_aload_n hx hb d_Mo_dump_155 rfl (lv_at hl 0 rfl) ?_
        refine lv_iconst (v := (1 : Int32)) hx hb d_Mo_dump_156 (by decide) ?_
        refine va_callv (va_runV (As := [.int (1 : Int32)]) (rest := []) ⟨hx, hb, hml, hown, hA⟩ (c_Mo_four l D tt ad N A zs w8 q (f_Mo_four (f_Mo_four S' (5 : Int32)) (36 : Int32)) (1 : Int32) (⟨hn91, fa92⟩) at82 (ho.2.2.2.2.2.1 hc59)) (cwV 1 hA (cd_gV aw_643 aw_644 aw_790 aw_8 aw_645) rfl rfl rfl ⟨rfl, by decide, by decide, by decide +kernel⟩ ⟨Nat.le_of_ble_eq_true rfl, Nat.le_of_ble_eq_true rfl⟩) ⟨cd_blind, cd_recv hK hP (k := q) (by omega) fa92 rfl, fun U hU hW => ⟨rfl, cd_pre hK hP hZ hS U hU hW⟩⟩ rfl rfl hl.1 rfl (lv_room (Nat.le_of_ble_eq_true rfl)) d_Mo_dump_157 ⟨Nat.zero_le _, Nat.zero_le _⟩) hS (fun _ _ h => h) (fun _ h => h) (fun w9 tE H locs ht hvm hr94 hP hz1 hk1 hS => ?_)
        have hP := cd_Pf ht hP
        obtain ⟨at96, at97, e9⟩ := hr94
        have at98 := cd_IaAt_keep at83 (fun k h1 h2 => e9 k (by omega))
        have at99 := cd_IaAt_keep at84 (fun k h1 h2 => e9 k (by omega))
        have at100 := cd_IaAt_keep at85 (fun k h1 h2 => e9 k (by omega))
        have at101 := cd_ByAt_keep at86 (fun k h1 h2 => e9 k (by omega))
        have at102 := cd_IaAt_keep at87 (fun k h1 h2 => e9 k (by omega))
        have fa103 := (e9 (q + 6) (by omega)).trans fa88
        have at104 := cd_IaAt_keep at89 (fun k h1 h2 => e9 k (by omega))
        have at105 := cd_IaAt_keep at90 (fun k h1 h2 => e9 k (by omega))
        obtain ⟨hn106, fa107⟩ := at96
        refine lv_aload_n hx hb d_Mo_dump_160 rfl (lv_at hl 0 rfl) ?_
        refine lv_bipush (v := (67 : Int32)) hx hb d_Mo_dump_161 (by decide) ?_
        refine va_callv (va_runV (As := [.int (67 : Int32)]) (rest := []) ⟨hx, hb, hml, hown, hA⟩ (c_Mo_lay l D tt ad N A zs w9 q (f_Mo_four (f_Mo_four (f_Mo_four S' (5 : Int32)) (36 : Int32)) (1 : Int32)) (67 : Int32) (⟨hn106, fa107⟩) at97 (ho.2.2.2.2.2.2.1 hc59)) (cwV 1 hA (cd_gV aw_637 aw_638 aw_788 aw_8 aw_639) rfl rfl rfl ⟨rfl, by decide, by decide, by decide +kernel⟩ ⟨Nat.le_of_ble_eq_true rfl, Nat.le_of_ble_eq_true rfl⟩) ⟨cd_blind, cd_recv hK hP (k := q) (by omega) fa107 rfl, fun U hU hW => ⟨rfl, cd_pre hK hP hZ hS U hU hW⟩⟩ rfl rfl hl.1 rfl (lv_room (Nat.le_of_ble_eq_true rfl)) d_Mo_dump_163 ⟨Nat.zero_le _, Nat.zero_le _⟩) hS (fun _ _ h => h) (fun _ h => h) (fun w10 tE H locs ht hvm hr109 hP hz1 hk1 hS => ?_)
        have hP := cd_Pf ht hP
        obtain ⟨at111, at112, e10⟩ := hr109
        have at113 := cd_IaAt_keep at98 (fun k h1 h2 => e10 k (by omega))
        have at114 := cd_IaAt_keep at99 (fun k h1 h2 => e10 k (by omega))
        have at115 := cd_IaAt_keep at100 (fun k h1 h2 => e10 k (by omega))
        have at116 := cd_ByAt_keep at101 (fun k h1 h2 => e10 k (by omega))
        have at117 := cd_IaAt_keep at102 (fun k h1 h2 => e10 k (by omega))
        have fa118 := (e10 (q + 6) (by omega)).trans fa103
        have at119 := cd_IaAt_keep at104 (fun k h1 h2 => e10 k (by omega))
        have at120 := cd_IaAt_keep at105 (fun k h1 h2 => e10 k (by omega))
        obtain ⟨hn121, fa122⟩ := at111
        refine lv_aload_n hx hb d_Mo_dump_166 rfl (lv_at hl 0 rfl) ?_
        refine lv_bipush (v := (79 : Int32)) hx hb d_Mo_dump_167 (by decide) ?_
        refine va_callv (va_runV (As := [.int (79 : Int32)]) (rest := []) ⟨hx, hb, hml, hown, hA⟩ (c_Mo_lay l D tt ad N A zs w10 q (f_Mo_lay (f_Mo_four (f_Mo_four (f_Mo_four S' (5 : Int32)) (36 : Int32)) (1 : Int32)) (67 : Int32)) (79 : Int32) (⟨hn121, fa122⟩) at112 (ho.2.2.2.2.2.2.2.1 hc59)) (cwV 1 hA (cd_gV aw_637 aw_638 aw_788 aw_8 aw_639) rfl rfl rfl ⟨rfl, by decide, by decide, by decide +kernel⟩ ⟨Nat.le_of_ble_eq_true rfl, Nat.le_of_ble_eq_true rfl⟩) ⟨cd_blind, cd_recv hK hP (k := q) (by omega) fa122 rfl, fun U hU hW => ⟨rfl, cd_pre hK hP hZ hS U hU hW⟩⟩ rfl rfl hl.1 rfl (lv_room (Nat.le_of_ble_eq_true rfl)) d_Mo_dump_169 ⟨Nat.zero_le _, Nat.zero_le _⟩) hS (fun _ _ h => h) (fun _ h => h) (fun w11 tE H locs ht hvm hr124 hP hz1 hk1 hS => ?_)
        have hP := cd_Pf ht hP
        obtain ⟨at126, at127, e11⟩ := hr124
        have at128 := cd_IaAt_keep at113 (fun k h1 h2 => e11 k (by omega))
        have at129 := cd_IaAt_keep at114 (fun k h1 h2 => e11 k (by omega))
        have at130 := cd_IaAt_keep at115 (fun k h1 h2 => e11 k (by omega))
        have at131 := cd_ByAt_keep at116 (fun k h1 h2 => e11 k (by omega))
        have at132 := cd_IaAt_keep at117 (fun k h1 h2 => e11 k (by omega))
        have fa133 := (e11 (q + 6) (by omega)).trans fa118
        have at134 := cd_IaAt_keep at119 (fun k h1 h2 => e11 k (by omega))
        have at135 := cd_IaAt_keep at120 (fun k h1 h2 => e11 k (by omega))
        obtain ⟨hn136, fa137⟩ := at126
        refine lv_aload_n hx hb d_Mo_dump_172 rfl (lv_at hl 0 rfl) ?_
        refine lv_bipush (v := (82 : Int32)) hx hb d_Mo_dump_173 (by decide) ?_
        refine va_callv (va_runV (As := [.int (82 : Int32)]) (rest := []) ⟨hx, hb, hml, hown, hA⟩ (c_Mo_lay l D tt ad N A zs w11 q (f_Mo_lay (f_Mo_lay (f_Mo_four (f_Mo_four (f_Mo_four S' (5 : Int32)) (36 : Int32)) (1 : Int32)) (67 : Int32)) (79 : Int32)) (82 : Int32) (⟨hn136, fa137⟩) at127 (ho.2.2.2.2.2.2.2.2.1 hc59)) (cwV 1 hA (cd_gV aw_637 aw_638 aw_788 aw_8 aw_639) rfl rfl rfl ⟨rfl, by decide, by decide, by decide +kernel⟩ ⟨Nat.le_of_ble_eq_true rfl, Nat.le_of_ble_eq_true rfl⟩) ⟨cd_blind, cd_recv hK hP (k := q) (by omega) fa137 rfl, fun U hU hW => ⟨rfl, cd_pre hK hP hZ hS U hU hW⟩⟩ rfl rfl hl.1 rfl (lv_room (Nat.le_of_ble_eq_true rfl)) d_Mo_dump_175 ⟨Nat.zero_le _, Nat.zero_le _⟩) hS (fun _ _ h => h) (fun _ h => h) (fun w12 tE H locs ht hvm hr139 hP hz1 hk1 hS => ?_)
        have hP := cd_Pf ht hP
        obtain ⟨at141, at142, e12⟩ := hr139
        have at143 := cd_IaAt_keep at128 (fun k h1 h2 => e12 k (by omega))
        have at144 := cd_IaAt_keep at129 (fun k h1 h2 => e12 k (by omega))
        have at145 := cd_IaAt_keep at130 (fun k h1 h2 => e12 k (by omega))
        have at146 := cd_ByAt_keep at131 (fun k h1 h2 => e12 k (by omega))
        have at147 := cd_IaAt_keep at132 (fun k h1 h2 => e12 k (by omega))
        have fa148 := (e12 (q + 6) (by omega)).trans fa133
        have at149 := cd_IaAt_keep at134 (fun k h1 h2 => e12 k (by omega))
        have at150 := cd_IaAt_keep at135 (fun k h1 h2 => e12 k (by omega))
        obtain ⟨hn151, fa152⟩ := at141
        refine lv_aload_n hx hb d_Mo_dump_178 rfl (lv_at hl 0 rfl) ?_
        refine lv_bipush (v := (69 : Int32)) hx hb d_Mo_dump_179 (by decide) ?_
        refine va_callv (va_runV (As := [.int (69 : Int32)]) (rest := []) ⟨hx, hb, hml, hown, hA⟩ (c_Mo_lay l D tt ad N A zs w12 q (f_Mo_lay (f_Mo_lay (f_Mo_lay (f_Mo_four (f_Mo_four (f_Mo_four S' (5 : Int32)) (36 : Int32)) (1 : Int32)) (67 : Int32)) (79 : Int32)) (82 : Int32)) (69 : Int32) (⟨hn151, fa152⟩) at142 (ho.2.2.2.2.2.2.2.2.2.1 hc59)) (cwV 1 hA (cd_gV aw_637 aw_638 aw_788 aw_8 aw_639) rfl rfl rfl ⟨rfl, by decide, by decide, by decide +kernel⟩ ⟨Nat.le_of_ble_eq_true rfl, Nat.le_of_ble_eq_true rfl⟩) ⟨cd_blind, cd_recv hK hP (k := q) (by omega) fa152 rfl, fun U hU hW => ⟨rfl, cd_pre hK hP hZ hS U hU hW⟩⟩ rfl rfl hl.1 rfl (lv_room (Nat.le_of_ble_eq_true rfl)) d_Mo_dump_181 ⟨Nat.zero_le _, Nat.zero_le _⟩) hS (fun _ _ h => h) (fun _ h => h) (fun w13 tE H locs ht hvm hr154 hP hz1 hk1 hS => ?_)
        have hP := cd_Pf ht hP
        obtain ⟨at156, at157, e13⟩ := hr154
        have at158 := cd_IaAt_keep at143 (fun k h1 h2 => e13 k (by omega))
        have at159 := cd_IaAt_keep at144 (fun k h1 h2 => e13 k (by omega))
        have at160 := cd_IaAt_keep at145 (fun k h1 h2 => e13 k (by omega))
        have at161 := cd_ByAt_keep at146 (fun k h1 h2 => e13 k (by omega))
        have at162 := cd_IaAt_keep at147 (fun k h1 h2 => e13 k (by omega))
        have fa163 := (e13 (q + 6) (by omega)).trans fa148
        have at164 := cd_IaAt_keep at149 (fun k h1 h2 => e13 k (by omega))
        have at165 := cd_IaAt_keep at150 (fun k h1 h2 => e13 k (by omega))
        obtain ⟨hn166, fa167⟩ := at156
        refine lv_aload_n hx hb d_Mo_dump_184 rfl (lv_at hl 0 rfl) ?_
        refine lv_iconst (v := (0 : Int32)) hx hb d_Mo_dump_185 (by decide) ?_
        refine va_callv (va_runV (As := [.int (0 : Int32)]) (rest := []) ⟨hx, hb, hml, hown, hA⟩ (c_Mo_four l D tt ad N A zs w13 q (f_Mo_lay (f_Mo_lay (f_Mo_lay (f_Mo_lay (f_Mo_four (f_Mo_four (f_Mo_four S' (5 : Int32)) (36 : Int32)) (1 : Int32)) (67 : Int32)) (79 : Int32)) (82 : Int32)) (69 : Int32)) (0 : Int32) (⟨hn166, fa167⟩) at157 (ho.2.2.2.2.2.2.2.2.2.2.1 hc59)) (cwV 1 hA (cd_gV aw_643 aw_644 aw_790 aw_8 aw_645) rfl rfl rfl ⟨rfl, by decide, by decide, by decide +kernel⟩ ⟨Nat.le_of_ble_eq_true rfl, Nat.le_of_ble_eq_true rfl⟩) ⟨cd_blind, cd_recv hK hP (k := q) (by omega) fa167 rfl, fun U hU hW => ⟨rfl, cd_pre hK hP hZ hS U hU hW⟩⟩ rfl rfl hl.1 rfl (lv_room (Nat.le_of_ble_eq_true rfl)) d_Mo_dump_186 ⟨Nat.zero_le _, Nat.zero_le _⟩) hS (fun _ _ h => h) (fun _ h => h) (fun w14 tE H locs ht hvm hr169 hP hz1 hk1 hS => ?_)
        have hP := cd_Pf ht hP
        obtain ⟨at171, at172, e14⟩ := hr169
        have at173 := cd_IaAt_keep at158 (fun k h1 h2 => e14 k (by omega))
        have at174 := cd_IaAt_keep at159 (fun k h1 h2 => e14 k (by omega))
        have at175 := cd_IaAt_keep at160 (fun k h1 h2 => e14 k (by omega))
        have at176 := cd_ByAt_keep at161 (fun k h1 h2 => e14 k (by omega))
        have at177 := cd_IaAt_keep at162 (fun k h1 h2 => e14 k (by omega))
        have fa178 := (e14 (q + 6) (by omega)).trans fa163
        have at179 := cd_IaAt_keep at164 (fun k h1 h2 => e14 k (by omega))
        have at180 := cd_IaAt_keep at165 (fun k h1 h2 => e14 k (by omega))
        obtain ⟨hn181, fa182⟩ := at171
        refine lv_aload_n hx hb d_Mo_dump_189 rfl (lv_at hl 0 rfl) ?_
        refine lv_aload_n hx hb d_Mo_dump_190 rfl (lv_at hl 0 rfl) ?_
        refine g_get (ci := 7) (C := R_Mo) (T := F_Mo) (Nf := 16) (v := .ref (ad (q + 7))) hx hb hA in_Mo hown hK hP (k := q) (by omega) fa182 rfl 7 (by decide) (hA _ aw_567) (fun _ h9 => h9) rfl d_Mo_dump_191 ?_
        refine lv_iload_n hx hb d_Mo_dump_194 rfl (lv_at hl 1 rfl) ?_
        obtain ⟨hn183, fa184⟩ := at179
        refine g_iald hx hb hK hP (k := (q + 7)) (by omega) fa184 rfl (ho.2.2.2.2.2.2.2.2.2.2.2.1 hc59) d_Mo_dump_195 ?_
        refine va_callv (va_runV (As := [.int (mi x2.toNatClampNeg)]) (rest := []) ⟨hx, hb, hml, hown, hA⟩ (c_Mo_four l D tt ad N A zs w14 q (f_Mo_four (f_Mo_lay (f_Mo_lay (f_Mo_lay (f_Mo_lay (f_Mo_four (f_Mo_four (f_Mo_four S' (5 : Int32)) (36 : Int32)) (1 : Int32)) (67 : Int32)) (79 : Int32)) (82 : Int32)) (69 : Int32)) (0 : Int32)) (mi x2.toNatClampNeg) (⟨hn181, fa182⟩) at172 (ho.2.2.2.2.2.2.2.2.2.2.2.2.1 hc59)) (cwV 1 hA (cd_gV aw_643 aw_644 aw_790 aw_8 aw_645) rfl rfl rfl ⟨rfl, by decide, by decide, by decide +kernel⟩ ⟨Nat.le_of_ble_eq_true rfl, Nat.le_of_ble_eq_true rfl⟩) ⟨cd_blind, cd_recv hK hP (k := q) (by omega) fa182 rfl, fun U hU hW => ⟨rfl, cd_pre hK hP hZ hS U hU hW⟩⟩ rfl rfl hl.1 rfl (lv_room (Nat.le_of_ble_eq_true rfl)) d_Mo_dump_196 ⟨Nat.zero_le _, Nat.zero_le _⟩) hS (fun _ _ h => h) (fun _ h => h) (fun w15 tE H locs ht hvm hr186 hP hz1 hk1 hS => ?_)
        have hP := cd_Pf ht hP
        obtain ⟨at188, at189, e15⟩ := hr186
        have at190 := cd_IaAt_keep at173 (fun k h1 h2 => e15 k (by omega))
        have at191 := cd_IaAt_keep at174 (fun k h1 h2 => e15 k (by omega))
        have at192 := cd_IaAt_keep at175 (fun k h1 h2 => e15 k (by omega))
        have at193 := cd_ByAt_keep at176 (fun k h1 h2 => e15 k (by omega))
        have at194 := cd_IaAt_keep at177 (fun k h1 h2 => e15 k (by omega))
        have fa195 := (e15 (q + 6) (by omega)).trans fa178
        have fa196 := (e15 (q + 7) (by omega)).trans fa184
        have at197 := cd_IaAt_keep at180 (fun k h1 h2 => e15 k (by omega))
        obtain ⟨hn198, fa199⟩ := at188
        refine lv_iconst (v := (0 : Int32)) hx hb d_Mo_dump_199 (by decide) ?_
        refine lv_istore_n (lv' := [(3, .int (0 : Int32)), (0, .ref (ad q)), (2, .int x2)]) hx hb d_Mo_dump_200 rfl hl (by decide) rfl (fun ls hl => ?_)
        refine L201 (fun (x2'' : Int32) (x3'' : Int32) (S''' : cd_Mo × cd_By) => (f_Mo_dump_L134 S ma ms mf mb mr mt mi mg gn (x2'' + (1 : Int32)) S''')) (fun (x2'' : Int32) (x3'' : Int32) (S''' : cd_Mo × cd_By) => (o_Mo_dump_L134 S ma ms mf mb mr mt mi mg gn (x2'' + (1 : Int32)) S''')) 9 x2 (0 : Int32) (f_Mo_four (f_Mo_four (f_Mo_lay (f_Mo_lay (f_Mo_lay (f_Mo_lay (f_Mo_four (f_Mo_four (f_Mo_four S' (5 : Int32)) (36 : Int32)) (1 : Int32)) (67 : Int32)) (79 : Int32)) (82 : Int32)) (69 : Int32)) (0 : Int32)) (mi x2.toNatClampNeg)) w15 (fun k hk => ((e15 k (by omega)).trans ((e14 k (by omega)).trans ((e13 k (by omega)).trans ((e12 k (by omega)).trans ((e11 k (by omega)).trans ((e10 k (by omega)).trans ((e9 k (by omega)).trans ((e8 k (by omega)).trans ((e7 k (by omega)).trans (efr k (by omega)))))))))))) H locs ls (lv_sub hl [1, 2, 0] rfl) (show (f_Mo_dump S ma ms mf mb mr mt mi mg) = f_Mo_dump_L201 S ma ms mf mb mr mt mi mg (fun (x2'' : Int32) (x3'' : Int32) (S''' : cd_Mo × cd_By) => (f_Mo_dump_L134 S ma ms mf mb mr mt mi mg gn (x2'' + (1 : Int32)) S''')) 9 x2 (0 : Int32) (f_Mo_four (f_Mo_four (f_Mo_lay (f_Mo_lay (f_Mo_lay (f_Mo_lay (f_Mo_four (f_Mo_four (f_Mo_four S' (5 : Int32)) (36 : Int32)) (1 : Int32)) (67 : Int32)) (79 : Int32)) (82 : Int32)) (69 : Int32)) (0 : Int32)) (mi x2.toNatClampNeg)) by rw [he, f_Mo_dump_L134, if_neg hc59]) (⟨hn198, fa199⟩) at190 at191 at192 at193 at194 (⟨hn57, fa195⟩) (⟨hn183, fa196⟩) at197 at189 hP hS (ho.2.2.2.2.2.2.2.2.2.2.2.2.2 hc59) (fun x2'' x3'' S''' w16 efr2 H locs ls hl he2 hK2_0 hK2_1 hK2_2 hK2_3 hK2_4 hK2_5 hK2_6 hK2_7 hK2_8 hK2_9 hP hS ho => ?_)
        have he2 : (f_Mo_dump S ma ms mf mb mr mt mi mg) = (f_Mo_dump_L134 S ma ms mf mb mr mt mi mg gn (x2'' + (1 : Int32)) S''') := he2
        have ho : (o_Mo_dump_L134 S ma ms mf mb mr mt mi mg gn (x2'' + (1 : Int32)) S''') := ho
        obtain ⟨hn200, fa201⟩ := hK2_0
        refine lv_iinc (k := 1) (v := (x2'' + (1 : Int32))) (lv' := [(2, .int (x2'' + (1 : Int32))), (0, .ref (ad q)), (3, .int x3'')]) hx hb d_Mo_dump_228 hl rfl (cd_inc _ _ _ (by decide)) (by decide) rfl (fun ls hl => ?_)
        refine lv_goto (tgt := 134) hx hb d_Mo_dump_231 (by decide) ?_
        exact ih (x2'' + (1 : Int32)) S''' w16 (fun k hk => (efr2 k (by omega))) H locs ls (lv_sub hl [1, 0] rfl) (show (f_Mo_dump S ma ms mf mb mr mt mi mg) = f_Mo_dump_L134 S ma ms mf mb mr mt mi mg gn (x2'' + (1 : Int32)) S''' by rw [he2]) (⟨hn200, fa201⟩) hK2_1 hK2_2 hK2_3 hK2_4 hK2_5 hK2_6 hK2_7 hK2_8 hK2_9 hP hS (ho)
  have L74 : ∀ (gn : Nat) (x1 : Int32) (x2 : Int32) (S' : cd_Mo × cd_By) (w : Nat → va_E) (efr : ∀ k : Nat, (k < q ∨ q + 1 ≤ k) ∧ (k < (q + 9) ∨ (q + 9) + 1 ≤ k) → w k = w0 k) (H : Heap) (locs : List Loc) (ls : Array Slot), lv_has ls 5 [(0, .ref (ad q)), (1, .int x1), (2, .int x2)] → (f_Mo_dump S ma ms mf mb mr mt mi mg) = f_Mo_dump_L74 S ma ms mf mb mr mt mi mg gn x1 x2 S' → cd_MoAt N tt ad w q S'.1 → cd_IaAt N tt ad w (q + 1) 18 ma → cd_IaAt N tt ad w (q + 2) 18 ms → cd_IaAt N tt ad w (q + 3) 18 mf → cd_ByAt N tt ad w (q + 4) 18432 mb → cd_IaAt N tt ad w (q + 5) 3 mr → cd_IaAt N tt ad w (q + 6) 3 mt → cd_IaAt N tt ad w (q + 7) 9 mi → cd_IaAt N tt ad w (q + 8) 72 mg → cd_ByAt N tt ad w (q + 9) 8192 S'.2 → cd_P D ad N A w H → va_S A s.heap H locs → o_Mo_dump_L74 S ma ms mf mb mr mt mi mg gn x1 x2 S' → W p l e (headSpec w_Mo_dump ({ frames := 4, cells := 0, slots := 0, locals := 90 })).room s m [.ref (ad q)].toArray below meth c H locs 0 0 (MQ below (va_Qi (fun r w' => (f_Mo_dump S ma ms mf mb mr mt mi mg).1 = r ∧ cd_MoAt N tt ad w' q ((f_Mo_dump S ma ms mf mb mr mt mi mg).2.1) ∧ cd_ByAt N tt ad w' (q + 9) 8192 ((f_Mo_dump S ma ms mf mb mr mt mi mg).2.2) ∧ (∀ k : Nat, (k < q ∨ q + 1 ≤ k) ∧ (k < (q + 9) ∨ (q + 9) + 1 ≤ k) → w' k = w0 k)) (fun w' t => cd_P D ad N A w' t.heap) A) [.ref (ad q)].toArray s 0 0 A) (F0 m 74 ls []) := by
    intro gn
    induction gn with
    | zero => intro x1 x2 S' w efr H locs ls hl he hL0 hL1 hL2 hL3 hL4 hL5 hL6 hL7 hL8 hL9 hP hS ho; exact ho.elim
    | succ gn ih =>
      intro x1 x2 S' w efr H locs ls hl he hL0 hL1 hL2 hL3 hL4 hL5 hL6 hL7 hL8 hL9 hP hS ho
      have ho : (x2 = (-1 : Int32) → o_Mo_dump_L134 S ma ms mf mb mr mt mi mg 4 (0 : Int32) S') ∧ (¬ x2 = (-1 : Int32) → vp_in x2 18) ∧ (¬ x2 = (-1 : Int32) → o_Mo_filled S'.1 ms mb x2) ∧ (¬ x2 = (-1 : Int32) → vp_in x2 18) ∧ (¬ x2 = (-1 : Int32) → vp_in x2 18) ∧ (¬ x2 = (-1 : Int32) → o_Mo_programHeader S' (1 : Int32) x1 (ma x2.toNatClampNeg) (f_Mo_filled S'.1 ms mb x2) (ms x2.toNatClampNeg) (mf x2.toNatClampNeg) (64 : Int32)) ∧ (¬ x2 = (-1 : Int32) → o_Mo_filled ((f_Mo_programHeader S' (1 : Int32) x1 (ma x2.toNatClampNeg) (f_Mo_filled S'.1 ms mb x2) (ms x2.toNatClampNeg) (mf x2.toNatClampNeg) (64 : Int32)).1) ms mb x2) ∧ (¬ x2 = (-1 : Int32) → vp_in x2 18) ∧ (¬ x2 = (-1 : Int32) → o_Mo_above ((f_Mo_programHeader S' (1 : Int32) x1 (ma x2.toNatClampNeg) (f_Mo_filled S'.1 ms mb x2) (ms x2.toNatClampNeg) (mf x2.toNatClampNeg) (64 : Int32)).1) ma mr (ma x2.toNatClampNeg)) ∧ (¬ x2 = (-1 : Int32) → o_Mo_dump_L74 S ma ms mf mb mr mt mi mg gn (x1 + (f_Mo_filled ((f_Mo_programHeader S' (1 : Int32) x1 (ma x2.toNatClampNeg) (f_Mo_filled S'.1 ms mb x2) (ms x2.toNatClampNeg) (mf x2.toNatClampNeg) (64 : Int32)).1) ms mb x2)) (f_Mo_above ((f_Mo_programHeader S' (1 : Int32) x1 (ma x2.toNatClampNeg) (f_Mo_filled S'.1 ms mb x2) (ms x2.toNatClampNeg) (mf x2.toNatClampNeg) (64 : Int32)).1) ma mr (ma x2.toNatClampNeg)) (f_Mo_programHeader S' (1 : Int32) x1 (ma x2.toNatClampNeg) (f_Mo_filled S'.1 ms mb x2) (ms x2.toNatClampNeg) (mf x2.toNatClampNeg) (64 : Int32))) := ho
      obtain ⟨hn202, fa203⟩ := hL0
      refine lv_iload_n hx hb d_Mo_dump_74 rfl (lv_at hl 2 rfl) ?_
      refine lv_iconst (v := (-1 : Int32)) hx hb d_Mo_dump_75 (by decide) ?_
      refine lv_icmp_eq (tgt := 132) hx hb d_Mo_dump_76 (by decide) (fun hc204 => ?_) (fun hc204 => ?_)
      · refine lv_iconst (v := (0 : Int32)) hx hb d_Mo_dump_132 (by decide) ?_
        refine lv_istore_n (lv' := [(2, .int (0 : Int32)), (0, .ref (ad q)), (1, .int x1)]) hx hb d_Mo_dump_133 rfl hl (by decide) rfl (fun ls hl => ?_)
        exact L134 4 (0 : Int32) S' w (fun k hk => (efr k (by omega))) H locs ls (lv_sub hl [1, 0] rfl) (show (f_Mo_dump S ma ms mf mb mr mt mi mg) = f_Mo_dump_L134 S ma ms mf mb mr mt mi mg 4 (0 : Int32) S' by rw [he, f_Mo_dump_L74, if_pos hc204]) (⟨hn202, fa203⟩) hL1 hL2 hL3 hL4 hL5 hL6 hL7 hL8 hL9 hP hS (ho.1 hc204)
      · refine lv_aload_n hx hb d_Mo_dump_79 rfl (lv_at hl 0 rfl) ?_
        refine lv_iconst (v := (1 : Int32)) hx hb d_Mo_dump_80 (by decide) ?_
        refine lv_iload_n hx hb d_Mo_dump_81 rfl (lv_at hl 1 rfl) ?_
        refine lv_aload_n hx hb d_Mo_dump_82 rfl (lv_at hl 0 rfl) ?_
        refine g_get (ci := 7) (C := R_Mo) (T := F_Mo) (Nf := 16) (v := .ref (ad (q + 1))) hx hb hA in_Mo hown hK hP (k := q) (by omega) fa203 rfl 1 (by decide) (hA _ aw_561) (fun _ h9 => h9) rfl d_Mo_dump_83 ?_
        refine lv_iload_n hx hb d_Mo_dump_86 rfl (lv_at hl 2 rfl) ?_
        obtain ⟨hn205, fa206⟩ := hL1
        refine g_iald hx hb hK hP (k := (q + 1)) (by omega) fa206 rfl (ho.2.1 hc204) d_Mo_dump_87 ?_
        refine lv_aload_n hx hb d_Mo_dump_88 rfl (lv_at hl 0 rfl) ?_
        refine lv_iload_n hx hb d_Mo_dump_89 rfl (lv_at hl 2 rfl) ?_
        refine va_calli (va_runV (As := [.int x2]) (rest := [.int (ma x2.toNatClampNeg), .int x1, .int (1 : Int32), .ref (ad q)]) ⟨hx, hb, hml, hown, hA⟩ (c_Mo_filled l D tt ad N A zs w q S'.1 ms mb x2 (⟨hn202, fa203⟩) hL2 hL4 (ho.2.2.1 hc204)) (cwV 1 hA (cd_gV aw_652 aw_653 aw_793 aw_8 aw_654) rfl rfl rfl ⟨rfl, by decide, by decide, by decide +kernel⟩ ⟨Nat.le_of_ble_eq_true rfl, Nat.le_of_ble_eq_true rfl⟩) ⟨cd_blind, cd_recv hK hP (k := q) (by omega) fa203 rfl, fun U hU hW => ⟨rfl, cd_pre hK hP hZ hS U hU hW⟩⟩ rfl rfl hl.1 rfl (lv_room (Nat.le_of_ble_eq_true rfl)) d_Mo_dump_90 ⟨Nat.zero_le _, Nat.zero_le _⟩) hS (fun _ _ h => h) (fun _ h => h) (fun r207 w17 tE H locs ht hvm hr208 hP hz1 hk1 hS => ?_)
        have hP := cd_Pf ht hP
        obtain ⟨rfl, rfl⟩ := hr208
        refine lv_aload_n hx hb d_Mo_dump_93 rfl (lv_at hl 0 rfl) ?_
        refine g_get (ci := 7) (C := R_Mo) (T := F_Mo) (Nf := 16) (v := .ref (ad (q + 2))) hx hb hA in_Mo hown hK hP (k := q) (by omega) fa203 rfl 2 (by decide) (hA _ aw_562) (fun _ h9 => h9) rfl d_Mo_dump_94 ?_
        refine lv_iload_n hx hb d_Mo_dump_97 rfl (lv_at hl 2 rfl) ?_
        obtain ⟨hn210, fa211⟩ := hL2
        refine g_iald hx hb hK hP (k := (q + 2)) (by omega) fa211 rfl (ho.2.2.2.1 hc204) d_Mo_dump_98 ?_
        refine lv_aload_n hx hb d_Mo_dump_99 rfl (lv_at hl 0 rfl) ?_
        refine g_get (ci := 7) (C := R_Mo) (T := F_Mo) (Nf := 16) (v := .ref (ad (q + 3))) hx hb hA in_Mo hown hK hP (k := q) (by omega) fa203 rfl 3 (by decide) (hA _ aw_563) (fun _ h9 => h9) rfl d_Mo_dump_100 ?_
        refine lv_iload_n hx hb d_Mo_dump_103 rfl (lv_at hl 2 rfl) ?_
        obtain ⟨hn212, fa213⟩ := hL3
        refine g_iald hx hb hK hP (k := (q + 3)) (by omega) fa213 rfl (ho.2.2.2.2.1 hc204) d_Mo_dump_104 ?_
        refine lv_bipush (v := (64 : Int32)) hx hb d_Mo_dump_105 (by decide) ?_
        refine va_callv (va_runV (As := [.int (1 : Int32), .int x1, .int (ma x2.toNatClampNeg), .int (f_Mo_filled S'.1 ms mb x2), .int (ms x2.toNatClampNeg), .int (mf x2.toNatClampNeg), .int (64 : Int32)]) (rest := []) ⟨hx, hb, hml, hown, hA⟩ (c_Mo_programHeader l D tt ad N A zs w q S' (1 : Int32) x1 (ma x2.toNatClampNeg) (f_Mo_filled S'.1 ms mb x2) (ms x2.toNatClampNeg) (mf x2.toNatClampNeg) (64 : Int32) (⟨hn202, fa203⟩) hL9 (ho.2.2.2.2.2.1 hc204)) (cwV 7 hA (cd_gV aw_646 aw_647 aw_791 aw_8 aw_648) rfl rfl rfl ⟨rfl, by decide, by decide, by decide +kernel⟩ ⟨Nat.le_of_ble_eq_true rfl, Nat.le_of_ble_eq_true rfl⟩) ⟨cd_blind, cd_recv hK hP (k := q) (by omega) fa203 rfl, fun U hU hW => ⟨rfl, cd_pre hK hP hZ hS U hU hW⟩⟩ rfl rfl hl.1 rfl (lv_room (Nat.le_of_ble_eq_true rfl)) d_Mo_dump_107 ⟨Nat.zero_le _, Nat.zero_le _⟩) hS (fun _ _ h => h) (fun _ h => h) (fun w18 tE H locs ht hvm hr215 hP hz1 hk1 hS => ?_)
        have hP := cd_Pf ht hP
        obtain ⟨at217, at218, e18⟩ := hr215
        have fa219 := (e18 (q + 1) (by omega)).trans fa206
        have fa220 := (e18 (q + 2) (by omega)).trans fa211
        have fa221 := (e18 (q + 3) (by omega)).trans fa213
        have at222 := cd_ByAt_keep hL4 (fun k h1 h2 => e18 k (by omega))
        have at223 := cd_IaAt_keep hL5 (fun k h1 h2 => e18 k (by omega))
        have at224 := cd_IaAt_keep hL6 (fun k h1 h2 => e18 k (by omega))
        have at225 := cd_IaAt_keep hL7 (fun k h1 h2 => e18 k (by omega))
        have at226 := cd_IaAt_keep hL8 (fun k h1 h2 => e18 k (by omega))
        obtain ⟨hn227, fa228⟩ := at217
        refine lv_iload_n hx hb d_Mo_dump_110 rfl (lv_at hl 1 rfl) ?_
        refine lv_aload_n hx hb d_Mo_dump_111 rfl (lv_at hl 0 rfl) ?_
        refine lv_iload_n hx hb d_Mo_dump_112 rfl (lv_at hl 2 rfl) ?_
        refine va_calli (va_runV (As := [.int x2]) (rest := [.int x1]) ⟨hx, hb, hml, hown, hA⟩ (c_Mo_filled l D tt ad N A zs w18 q ((f_Mo_programHeader S' (1 : Int32) x1 (ma x2.toNatClampNeg) (f_Mo_filled S'.1 ms mb x2) (ms x2.toNatClampNeg) (mf x2.toNatClampNeg) (64 : Int32)).1) ms mb x2 (⟨hn227, fa228⟩) (⟨hn210, fa220⟩) at222 (ho.2.2.2.2.2.2.1 hc204)) (cwV 1 hA (cd_gV aw_652 aw_653 aw_793 aw_8 aw_654) rfl rfl rfl ⟨rfl, by decide, by decide, by decide +kernel⟩ ⟨Nat.le_of_ble_eq_true rfl, Nat.le_of_ble_eq_true rfl⟩) ⟨cd_blind, cd_recv hK hP (k := q) (by omega) fa228 rfl, fun U hU hW => ⟨rfl, cd_pre hK hP hZ hS U hU hW⟩⟩ rfl rfl hl.1 rfl (lv_room (Nat.le_of_ble_eq_true rfl)) d_Mo_dump_113 ⟨Nat.zero_le _, Nat.zero_le _⟩) hS (fun _ _ h => h) (fun _ h => h) (fun r229 w19 tE H locs ht hvm hr230 hP hz1 hk1 hS => ?_)
        have hP := cd_Pf ht hP
        obtain ⟨rfl, rfl⟩ := hr230
        refine lv_iadd hx hb d_Mo_dump_116 ?_
        refine lv_istore_n (lv' := [(1, .int (x1 + (f_Mo_filled ((f_Mo_programHeader S' (1 : Int32) x1 (ma x2.toNatClampNeg) (f_Mo_filled S'.1 ms mb x2) (ms x2.toNatClampNeg) (mf x2.toNatClampNeg) (64 : Int32)).1) ms mb x2))), (0, .ref (ad q)), (2, .int x2)]) hx hb d_Mo_dump_117 rfl hl (by decide) rfl (fun ls hl => ?_)
        refine lv_aload_n hx hb d_Mo_dump_118 rfl (lv_at hl 1 rfl) ?_
        refine lv_aload_n hx hb d_Mo_dump_119 rfl (lv_at hl 1 rfl) ?_
        refine g_get (ci := 7) (C := R_Mo) (T := F_Mo) (Nf := 16) (v := .ref (ad (q + 1))) hx hb hA in_Mo hown hK hP (k := q) (by omega) fa228 rfl 1 (by decide) (hA _ aw_561) (fun _ h9 => h9) rfl d_Mo_dump_120 ?_
        refine lv_iload_n hx hb d_Mo_dump_123 rfl (lv_at hl 2 rfl) ?_
        refine g_iald hx hb hK hP (k := (q + 1)) (by omega) fa219 rfl (ho.2.2.2.2.2.2.2.1 hc204) d_Mo_dump_124 ?_
        refine va_calli (va_runV (As := [.int (ma x2.toNatClampNeg)]) (rest := []) ⟨hx, hb, hml, hown, hA⟩ (c_Mo_above l D tt ad N A zs w18 q ((f_Mo_programHeader S' (1 : Int32) x1 (ma x2.toNatClampNeg) (f_Mo_filled S'.1 ms mb x2) (ms x2.toNatClampNeg) (mf x2.toNatClampNeg) (64 : Int32)).1) ma mr (ma x2.toNatClampNeg) (⟨hn227, fa228⟩) (⟨hn205, fa219⟩) at223 (ho.2.2.2.2.2.2.2.2.1 hc204)) (cwV 1 hA (cd_gV aw_649 aw_650 aw_792 aw_8 aw_651) rfl rfl rfl ⟨rfl, by decide, by decide, by decide +kernel⟩ ⟨Nat.le_of_ble_eq_true rfl, Nat.le_of_ble_eq_true rfl⟩) ⟨cd_blind, cd_recv hK hP (k := q) (by omega) fa228 rfl, fun U hU hW => ⟨rfl, cd_pre hK hP hZ hS U hU hW⟩⟩ rfl rfl hl.1 rfl (lv_room (Nat.le_of_ble_eq_true rfl)) d_Mo_dump_125 ⟨Nat.zero_le _, Nat.zero_le _⟩) hS (fun _ _ h => h) (fun _ h => h) (fun r232 w20 tE H locs ht hvm hr233 hP hz1 hk1 hS => ?_)
        have hP := cd_Pf ht hP
        obtain ⟨rfl, rfl⟩ := hr233
        refine lv_istore_n (lv' := [(2, .int (f_Mo_above ((f_Mo_programHeader S' (1 : Int32) x1 (ma x2.toNatClampNeg) (f_Mo_filled S'.1 ms mb x2) (ms x2.toNatClampNeg) (mf x2.toNatClampNeg) (64 : Int32)).1) ma mr (ma x2.toNatClampNeg))), (1, .int (x1 + (f_Mo_filled ((f_Mo_programHeader S' (1 : Int32) x1 (ma x2.toNatClampNeg) (f_Mo_filled S'.1 ms mb x2) (ms x2.toNatClampNeg) (mf x2.toNatClampNeg) (64 : Int32)).1) ms mb x2))), (0, .ref (ad q))]) hx hb d_Mo_dump_128 rfl hl (by decide) rfl (fun ls hl => ?_)
        refine lv_goto (tgt := 74) hx hb d_Mo_dump_129 (by decide) ?_
        exact ih (x1 + (f_Mo_filled ((f_Mo_programHeader S' (1 : Int32) x1 (ma x2.toNatClampNeg) (f_Mo_filled S'.1 ms mb x2) (ms x2.toNatClampNeg) (mf x2.toNatClampNeg) (64 : Int32)).1) ms mb x2)) (f_Mo_above ((f_Mo_programHeader S' (1 : Int32) x1 (ma x2.toNatClampNeg) (f_Mo_filled S'.1 ms mb x2) (ms x2.toNatClampNeg) (mf x2.toNatClampNeg) (64 : Int32)).1) ma mr (ma x2.toNatClampNeg)) (f_Mo_programHeader S' (1 : Int32) x1 (ma x2.toNatClampNeg) (f_Mo_filled S'.1 ms mb x2) (ms x2.toNatClampNeg) (mf x2.toNatClampNeg) (64 : Int32)) w18 (fun k hk => ((e18 k (by omega)).trans (efr k (by omega)))) H locs ls (lv_sub hl [2, 1, 0] rfl) (show (f_Mo_dump S ma ms mf mb mr mt mi mg) = f_Mo_dump_L74 S ma ms mf mb mr mt mi mg gn (x1 + (f_Mo_filled ((f_Mo_programHeader S' (1 : Int32) x1 (ma x2.toNatClampNeg) (f_Mo_filled S'.1 ms mb x2) (ms x2.toNatClampNeg) (mf x2.toNatClampNeg) (64 : Int32)).1) ms mb x2)) (f_Mo_above ((f_Mo_programHeader S' (1 : Int32) x1 (ma x2.toNatClampNeg) (f_Mo_filled S'.1 ms mb x2) (ms x2.toNatClampNeg) (mf x2.toNatClampNeg) (64 : Int32)).1) ma mr (ma x2.toNatClampNeg)) (f_Mo_programHeader S' (1 : Int32) x1 (ma x2.toNatClampNeg) (f_Mo_filled S'.1 ms mb x2) (ms x2.toNatClampNeg) (mf x2.toNatClampNeg) (64 : Int32)) by rw [he, f_Mo_dump_L74, if_neg hc204]) (⟨hn227, fa228⟩) (⟨hn205, fa219⟩) (⟨hn210, fa220⟩) (⟨hn212, fa221⟩) at222 at223 at224 at225 at226 at218 hP hS (ho.2.2.2.2.2.2.2.2.2 hc204)
  have hS : va_S A s.heap s.heap [] := va_S.rf
  have hl := lv_entry ([.ref (ad q)]) (n := 5) (Nat.le_of_ble_eq_true rfl)
  rw [lg_entry_eq]
  generalize (lg_sl ([.ref (ad q)]) ++ List.replicate (5 - (lg_sl ([.ref (ad q)])).length) Slot.unset).toArray = ls at hl ⊢
  have hl : lv_has ls 5 [(0, .ref (ad q))] := hl
  have ho : (o_Mo_header (((0 : Int32), (0 : Int32), S.1.2.2.1, S.1.2.2.2.1, S.1.2.2.2.2.1, S.1.2.2.2.2.2), S.2) mr) ∧ (vp_in (0 : Int32) 3) ∧ (vp_in (0 : Int32) 3) ∧ (vp_in (0 : Int32) 3) ∧ (o_Mo_programHeader (f_Mo_header (((0 : Int32), (0 : Int32), S.1.2.2.1, S.1.2.2.2.1, S.1.2.2.2.2.1, S.1.2.2.2.2.2), S.2) mr) (4 : Int32) ((52 : Int32) + ((32 : Int32) * ((mr (0 : Int32).toNatClampNeg) + (1 : Int32)))) (0 : Int32) ((56 : Int32) * (mt (0 : Int32).toNatClampNeg)) ((56 : Int32) * (mt (0 : Int32).toNatClampNeg)) (0 : Int32) (4 : Int32)) ∧ (vp_in (0 : Int32) 3) ∧ (o_Mo_above ((f_Mo_programHeader (f_Mo_header (((0 : Int32), (0 : Int32), S.1.2.2.1, S.1.2.2.2.1, S.1.2.2.2.2.1, S.1.2.2.2.2.2), S.2) mr) (4 : Int32) ((52 : Int32) + ((32 : Int32) * ((mr (0 : Int32).toNatClampNeg) + (1 : Int32)))) (0 : Int32) ((56 : Int32) * (mt (0 : Int32).toNatClampNeg)) ((56 : Int32) * (mt (0 : Int32).toNatClampNeg)) (0 : Int32) (4 : Int32)).1) ma mr (-1 : Int32)) ∧ (o_Mo_dump_L74 S ma ms mf mb mr mt mi mg 7 (((52 : Int32) + ((32 : Int32) * ((mr (0 : Int32).toNatClampNeg) + (1 : Int32)))) + ((56 : Int32) * (mt (0 : Int32).toNatClampNeg))) (f_Mo_above ((f_Mo_programHeader (f_Mo_header (((0 : Int32), (0 : Int32), S.1.2.2.1, S.1.2.2.2.1, S.1.2.2.2.2.1, S.1.2.2.2.2.2), S.2) mr) (4 : Int32) ((52 : Int32) + ((32 : Int32) * ((mr (0 : Int32).toNatClampNeg) + (1 : Int32)))) (0 : Int32) ((56 : Int32) * (mt (0 : Int32).toNatClampNeg)) ((56 : Int32) * (mt (0 : Int32).toNatClampNeg)) (0 : Int32) (4 : Int32)).1) ma mr (-1 : Int32)) (f_Mo_programHeader (f_Mo_header (((0 : Int32), (0 : Int32), S.1.2.2.1, S.1.2.2.2.1, S.1.2.2.2.2.1, S.1.2.2.2.2.2), S.2) mr) (4 : Int32) ((52 : Int32) + ((32 : Int32) * ((mr (0 : Int32).toNatClampNeg) + (1 : Int32)))) (0 : Int32) ((56 : Int32) * (mt (0 : Int32).toNatClampNeg)) ((56 : Int32) * (mt (0 : Int32).toNatClampNeg)) (0 : Int32) (4 : Int32))) := ho
  obtain ⟨hn235, fa236⟩ := hR0
  refine lv_aload_n hx hb d_Mo_dump_0 rfl (lv_at hl 0 rfl) ?_
  refine lv_iconst (v := (0 : Int32)) hx hb d_Mo_dump_1 (by decide) ?_
  refine g_put (ci := 7) (C := R_Mo) (T := F_Mo) (Nf := 16) (v := .int (0 : Int32)) (ty := .int) hx hb hA in_Mo t_Mo t_Mo_ok n_Mo hown hK hP hS (k := q) (by omega) fa236 rfl 0 (by decide) (hA _ aw_560) (fun _ h9 => h9) rfl (by decide +kernel) rfl rfl (Nat.le_of_ble_eq_true rfl) d_Mo_dump_2 (fun H locs w21 fa237 e21 hP hS => ?_)
  have fa237 : w21 q = .inr (7, [.int (0 : Int32), .ref (ad (q + 1)), .ref (ad (q + 2)), .ref (ad (q + 3)), .ref (ad (q + 4)), .ref (ad (q + 5)), .ref (ad (q + 6)), .ref (ad (q + 7)), .ref (ad (q + 8)), .ref (ad (q + 9)), .int S.1.2.1, .ref (ad (q + 10)), .int S.1.2.2.1, .int S.1.2.2.2.1, .int S.1.2.2.2.2.1, .int S.1.2.2.2.2.2]) := fa237
  have at238 := cd_IaAt_keep hR1 (fun k h1 h2 => e21 k (by omega))
  have at239 := cd_IaAt_keep hR2 (fun k h1 h2 => e21 k (by omega))
  have at240 := cd_IaAt_keep hR3 (fun k h1 h2 => e21 k (by omega))
  have at241 := cd_ByAt_keep hR4 (fun k h1 h2 => e21 k (by omega))
  have at242 := cd_IaAt_keep hR5 (fun k h1 h2 => e21 k (by omega))
  have at243 := cd_IaAt_keep hR6 (fun k h1 h2 => e21 k (by omega))
  have at244 := cd_IaAt_keep hR7 (fun k h1 h2 => e21 k (by omega))
  have at245 := cd_IaAt_keep hR8 (fun k h1 h2 => e21 k (by omega))
  have at246 := cd_ByAt_keep hR9 (fun k h1 h2 => e21 k (by omega))
  refine lv_aload_n hx hb d_Mo_dump_5 rfl (lv_at hl 0 rfl) ?_
  refine lv_iconst (v := (0 : Int32)) hx hb d_Mo_dump_6 (by decide) ?_
  refine g_put (ci := 7) (C := R_Mo) (T := F_Mo) (Nf := 16) (v := .int (0 : Int32)) (ty := .int) hx hb hA in_Mo t_Mo t_Mo_ok n_Mo hown hK hP hS (k := q) (by omega) fa237 rfl 10 (by decide) (hA _ aw_570) (fun _ h9 => h9) rfl (by decide +kernel) rfl rfl (Nat.le_of_ble_eq_true rfl) d_Mo_dump_7 (fun H locs w22 fa247 e22 hP hS => ?_)
  have fa247 : w22 q = .inr (7, [.int (0 : Int32), .ref (ad (q + 1)), .ref (ad (q + 2)), .ref (ad (q + 3)), .ref (ad (q + 4)), .ref (ad (q + 5)), .ref (ad (q + 6)), .ref (ad (q + 7)), .ref (ad (q + 8)), .ref (ad (q + 9)), .int (0 : Int32), .ref (ad (q + 10)), .int S.1.2.2.1, .int S.1.2.2.2.1, .int S.1.2.2.2.2.1, .int S.1.2.2.2.2.2]) := fa247
  have at248 := cd_IaAt_keep at238 (fun k h1 h2 => e22 k (by omega))
  have at249 := cd_IaAt_keep at239 (fun k h1 h2 => e22 k (by omega))
  have at250 := cd_IaAt_keep at240 (fun k h1 h2 => e22 k (by omega))
  have at251 := cd_ByAt_keep at241 (fun k h1 h2 => e22 k (by omega))
  have at252 := cd_IaAt_keep at242 (fun k h1 h2 => e22 k (by omega))
  have at253 := cd_IaAt_keep at243 (fun k h1 h2 => e22 k (by omega))
  have at254 := cd_IaAt_keep at244 (fun k h1 h2 => e22 k (by omega))
  have at255 := cd_IaAt_keep at245 (fun k h1 h2 => e22 k (by omega))
  have at256 := cd_ByAt_keep at246 (fun k h1 h2 => e22 k (by omega))
  refine lv_aload_n hx hb d_Mo_dump_10 rfl (lv_at hl 0 rfl) ?_
  refine va_callv (va_runV (As := []) (rest := []) ⟨hx, hb, hml, hown, hA⟩ (c_Mo_header l D tt ad N A zs w22 q (((0 : Int32), (0 : Int32), S.1.2.2.1, S.1.2.2.2.1, S.1.2.2.2.2.1, S.1.2.2.2.2.2), S.2) mr (⟨hn235, fa247⟩) at252 at256 (ho.1)) (cwV 0 hA (cd_gV aw_634 aw_635 aw_787 aw_8 aw_636) rfl rfl rfl ⟨rfl, by decide, by decide, by decide +kernel⟩ ⟨Nat.le_of_ble_eq_true rfl, Nat.le_of_ble_eq_true rfl⟩) ⟨cd_blind, cd_recv hK hP (k := q) (by omega) fa247 rfl, fun U hU hW => ⟨rfl, cd_pre hK hP hZ hS U hU hW⟩⟩ rfl rfl hl.1 rfl (lv_room (Nat.le_of_ble_eq_true rfl)) d_Mo_dump_11 ⟨Nat.zero_le _, Nat.zero_le _⟩) hS (fun _ _ h => h) (fun _ h => h) (fun w23 tE H locs ht hvm hr258 hP hz1 hk1 hS => ?_)
  have hP := cd_Pf ht hP
  obtain ⟨at260, at261, e23⟩ := hr258
  have at262 := cd_IaAt_keep at248 (fun k h1 h2 => e23 k (by omega))
  have at263 := cd_IaAt_keep at249 (fun k h1 h2 => e23 k (by omega))
  have at264 := cd_IaAt_keep at250 (fun k h1 h2 => e23 k (by omega))
  have at265 := cd_ByAt_keep at251 (fun k h1 h2 => e23 k (by omega))
  have at266 := cd_IaAt_keep at252 (fun k h1 h2 => e23 k (by omega))
  have at267 := cd_IaAt_keep at253 (fun k h1 h2 => e23 k (by omega))
  have at268 := cd_IaAt_keep at254 (fun k h1 h2 => e23 k (by omega))
  have at269 := cd_IaAt_keep at255 (fun k h1 h2 => e23 k (by omega))
  obtain ⟨hn270, fa271⟩ := at260
  refine lv_bipush (v := (52 : Int32)) hx hb d_Mo_dump_14 (by decide) ?_
  refine lv_bipush (v := (32 : Int32)) hx hb d_Mo_dump_16 (by decide) ?_
  refine lv_aload_n hx hb d_Mo_dump_18 rfl (lv_at hl 0 rfl) ?_
  refine g_get (ci := 7) (C := R_Mo) (T := F_Mo) (Nf := 16) (v := .ref (ad (q + 5))) hx hb hA in_Mo hown hK hP (k := q) (by omega) fa271 rfl 5 (by decide) (hA _ aw_565) (fun _ h9 => h9) rfl d_Mo_dump_19 ?_
  refine lv_iconst (v := (0 : Int32)) hx hb d_Mo_dump_22 (by decide) ?_
  obtain ⟨hn272, fa273⟩ := at266
  refine g_iald hx hb hK hP (k := (q + 5)) (by omega) fa273 rfl (ho.2.1) d_Mo_dump_23 ?_
  refine lv_iconst (v := (1 : Int32)) hx hb d_Mo_dump_24 (by decide) ?_
  refine lv_iadd hx hb d_Mo_dump_25 ?_
  refine lv_imul hx hb d_Mo_dump_26 ?_
  refine lv_iadd hx hb d_Mo_dump_27 ?_
  refine lv_istore_n (lv' := [(1, .int ((52 : Int32) + ((32 : Int32) * ((mr (0 : Int32).toNatClampNeg) + (1 : Int32))))), (0, .ref (ad q))]) hx hb d_Mo_dump_28 rfl hl (by decide) rfl (fun ls hl => ?_)
  refine lv_aload_n hx hb d_Mo_dump_29 rfl (lv_at hl 1 rfl) ?_
  refine lv_iconst (v := (4 : Int32)) hx hb d_Mo_dump_30 (by decide) ?_
  refine lv_iload_n hx hb d_Mo_dump_31 rfl (lv_at hl 0 rfl) ?_
  refine lv_iconst (v := (0 : Int32)) hx hb d_Mo_dump_32 (by decide) ?_
  refine lv_bipush (v := (56 : Int32)) hx hb d_Mo_dump_33 (by decide) ?_
  refine lv_aload_n hx hb d_Mo_dump_35 rfl (lv_at hl 1 rfl) ?_
  refine g_get (ci := 7) (C := R_Mo) (T := F_Mo) (Nf := 16) (v := .ref (ad (q + 6))) hx hb hA in_Mo hown hK hP (k := q) (by omega) fa271 rfl 6 (by decide) (hA _ aw_566) (fun _ h9 => h9) rfl d_Mo_dump_36 ?_
  refine lv_iconst (v := (0 : Int32)) hx hb d_Mo_dump_39 (by decide) ?_
  obtain ⟨hn274, fa275⟩ := at267
  refine g_iald hx hb hK hP (k := (q + 6)) (by omega) fa275 rfl (ho.2.2.1) d_Mo_dump_40 ?_
  refine lv_imul hx hb d_Mo_dump_41 ?_
  refine lv_bipush (v := (56 : Int32)) hx hb d_Mo_dump_42 (by decide) ?_
  refine lv_aload_n hx hb d_Mo_dump_44 rfl (lv_at hl 1 rfl) ?_
  refine g_get (ci := 7) (C := R_Mo) (T := F_Mo) (Nf := 16) (v := .ref (ad (q + 6))) hx hb hA in_Mo hown hK hP (k := q) (by omega) fa271 rfl 6 (by decide) (hA _ aw_566) (fun _ h9 => h9) rfl d_Mo_dump_45 ?_
  refine lv_iconst (v := (0 : Int32)) hx hb d_Mo_dump_48 (by decide) ?_
  refine g_iald hx hb hK hP (k := (q + 6)) (by omega) fa275 rfl (ho.2.2.2.1) d_Mo_dump_49 ?_
  refine lv_imul hx hb d_Mo_dump_50 ?_
  refine lv_iconst (v := (0 : Int32)) hx hb d_Mo_dump_51 (by decide) ?_
  refine lv_iconst (v := (4 : Int32)) hx hb d_Mo_dump_52 (by decide) ?_
  refine va_callv (va_runV (As := [.int (4 : Int32), .int ((52 : Int32) + ((32 : Int32) * ((mr (0 : Int32).toNatClampNeg) + (1 : Int32)))), .int (0 : Int32), .int ((56 : Int32) * (mt (0 : Int32).toNatClampNeg)), .int ((56 : Int32) * (mt (0 : Int32).toNatClampNeg)), .int (0 : Int32), .int (4 : Int32)]) (rest := []) ⟨hx, hb, hml, hown, hA⟩ (c_Mo_programHeader l D tt ad N A zs w23 q (f_Mo_header (((0 : Int32), (0 : Int32), S.1.2.2.1, S.1.2.2.2.1, S.1.2.2.2.2.1, S.1.2.2.2.2.2), S.2) mr) (4 : Int32) ((52 : Int32) + ((32 : Int32) * ((mr (0 : Int32).toNatClampNeg) + (1 : Int32)))) (0 : Int32) ((56 : Int32) * (mt (0 : Int32).toNatClampNeg)) ((56 : Int32) * (mt (0 : Int32).toNatClampNeg)) (0 : Int32) (4 : Int32) (⟨hn270, fa271⟩) at261 (ho.2.2.2.2.1)) (cwV 7 hA (cd_gV aw_646 aw_647 aw_791 aw_8 aw_648) rfl rfl rfl ⟨rfl, by decide, by decide, by decide +kernel⟩ ⟨Nat.le_of_ble_eq_true rfl, Nat.le_of_ble_eq_true rfl⟩) ⟨cd_blind, cd_recv hK hP (k := q) (by omega) fa271 rfl, fun U hU hW => ⟨rfl, cd_pre hK hP hZ hS U hU hW⟩⟩ rfl rfl hl.1 rfl (lv_room (Nat.le_of_ble_eq_true rfl)) d_Mo_dump_53 ⟨Nat.zero_le _, Nat.zero_le _⟩) hS (fun _ _ h => h) (fun _ h => h) (fun w24 tE H locs ht hvm hr277 hP hz1 hk1 hS => ?_)
  have hP := cd_Pf ht hP
  obtain ⟨at279, at280, e24⟩ := hr277
  have at281 := cd_IaAt_keep at262 (fun k h1 h2 => e24 k (by omega))
  have at282 := cd_IaAt_keep at263 (fun k h1 h2 => e24 k (by omega))
  have at283 := cd_IaAt_keep at264 (fun k h1 h2 => e24 k (by omega))
  have at284 := cd_ByAt_keep at265 (fun k h1 h2 => e24 k (by omega))
  have fa285 := (e24 (q + 5) (by omega)).trans fa273
  have fa286 := (e24 (q + 6) (by omega)).trans fa275
  have at287 := cd_IaAt_keep at268 (fun k h1 h2 => e24 k (by omega))
  have at288 := cd_IaAt_keep at269 (fun k h1 h2 => e24 k (by omega))
  obtain ⟨hn289, fa290⟩ := at279
  refine lv_iload_n hx hb d_Mo_dump_56 rfl (lv_at hl 0 rfl) ?_
  refine lv_bipush (v := (56 : Int32)) hx hb d_Mo_dump_57 (by decide) ?_
  refine lv_aload_n hx hb d_Mo_dump_59 rfl (lv_at hl 1 rfl) ?_
  refine g_get (ci := 7) (C := R_Mo) (T := F_Mo) (Nf := 16) (v := .ref (ad (q + 6))) hx hb hA in_Mo hown hK hP (k := q) (by omega) fa290 rfl 6 (by decide) (hA _ aw_566) (fun _ h9 => h9) rfl d_Mo_dump_60 ?_
  refine lv_iconst (v := (0 : Int32)) hx hb d_Mo_dump_63 (by decide) ?_
  refine g_iald hx hb hK hP (k := (q + 6)) (by omega) fa286 rfl (ho.2.2.2.2.2.1) d_Mo_dump_64 ?_
  refine lv_imul hx hb d_Mo_dump_65 ?_
  refine lv_iadd hx hb d_Mo_dump_66 ?_
  refine lv_istore_n (lv' := [(1, .int (((52 : Int32) + ((32 : Int32) * ((mr (0 : Int32).toNatClampNeg) + (1 : Int32)))) + ((56 : Int32) * (mt (0 : Int32).toNatClampNeg)))), (0, .ref (ad q))]) hx hb d_Mo_dump_67 rfl hl (by decide) rfl (fun ls hl => ?_)
  refine lv_aload_n hx hb d_Mo_dump_68 rfl (lv_at hl 1 rfl) ?_
  refine lv_iconst (v := (-1 : Int32)) hx hb d_Mo_dump_69 (by decide) ?_
  refine va_calli (va_runV (As := [.int (-1 : Int32)]) (rest := []) ⟨hx, hb, hml, hown, hA⟩ (c_Mo_above l D tt ad N A zs w24 q ((f_Mo_programHeader (f_Mo_header (((0 : Int32), (0 : Int32), S.1.2.2.1, S.1.2.2.2.1, S.1.2.2.2.2.1, S.1.2.2.2.2.2), S.2) mr) (4 : Int32) ((52 : Int32) + ((32 : Int32) * ((mr (0 : Int32).toNatClampNeg) + (1 : Int32)))) (0 : Int32) ((56 : Int32) * (mt (0 : Int32).toNatClampNeg)) ((56 : Int32) * (mt (0 : Int32).toNatClampNeg)) (0 : Int32) (4 : Int32)).1) ma mr (-1 : Int32) (⟨hn289, fa290⟩) at281 (⟨hn272, fa285⟩) (ho.2.2.2.2.2.2.1)) (cwV 1 hA (cd_gV aw_649 aw_650 aw_792 aw_8 aw_651) rfl rfl rfl ⟨rfl, by decide, by decide, by decide +kernel⟩ ⟨Nat.le_of_ble_eq_true rfl, Nat.le_of_ble_eq_true rfl⟩) ⟨cd_blind, cd_recv hK hP (k := q) (by omega) fa290 rfl, fun U hU hW => ⟨rfl, cd_pre hK hP hZ hS U hU hW⟩⟩ rfl rfl hl.1 rfl (lv_room (Nat.le_of_ble_eq_true rfl)) d_Mo_dump_70 ⟨Nat.zero_le _, Nat.zero_le _⟩) hS (fun _ _ h => h) (fun _ h => h) (fun r291 w25 tE H locs ht hvm hr292 hP hz1 hk1 hS => ?_)
  have hP := cd_Pf ht hP
  obtain ⟨rfl, rfl⟩ := hr292
  refine lv_istore_n (lv' := [(2, .int (f_Mo_above ((f_Mo_programHeader (f_Mo_header (((0 : Int32), (0 : Int32), S.1.2.2.1, S.1.2.2.2.1, S.1.2.2.2.2.1, S.1.2.2.2.2.2), S.2) mr) (4 : Int32) ((52 : Int32) + ((32 : Int32) * ((mr (0 : Int32).toNatClampNeg) + (1 : Int32)))) (0 : Int32) ((56 : Int32) * (mt (0 : Int32).toNatClampNeg)) ((56 : Int32) * (mt (0 : Int32).toNatClampNeg)) (0 : Int32) (4 : Int32)).1) ma mr (-1 : Int32))), (1, .int (((52 : Int32) + ((32 : Int32) * ((mr (0 : Int32).toNatClampNeg) + (1 : Int32)))) + ((56 : Int32) * (mt (0 : Int32).toNatClampNeg)))), (0, .ref (ad q))]) hx hb d_Mo_dump_73 rfl hl (by decide) rfl (fun ls hl => ?_)
  exact L74 7 (((52 : Int32) + ((32 : Int32) * ((mr (0 : Int32).toNatClampNeg) + (1 : Int32)))) + ((56 : Int32) * (mt (0 : Int32).toNatClampNeg))) (f_Mo_above ((f_Mo_programHeader (f_Mo_header (((0 : Int32), (0 : Int32), S.1.2.2.1, S.1.2.2.2.1, S.1.2.2.2.2.1, S.1.2.2.2.2.2), S.2) mr) (4 : Int32) ((52 : Int32) + ((32 : Int32) * ((mr (0 : Int32).toNatClampNeg) + (1 : Int32)))) (0 : Int32) ((56 : Int32) * (mt (0 : Int32).toNatClampNeg)) ((56 : Int32) * (mt (0 : Int32).toNatClampNeg)) (0 : Int32) (4 : Int32)).1) ma mr (-1 : Int32)) (f_Mo_programHeader (f_Mo_header (((0 : Int32), (0 : Int32), S.1.2.2.1, S.1.2.2.2.1, S.1.2.2.2.2.1, S.1.2.2.2.2.2), S.2) mr) (4 : Int32) ((52 : Int32) + ((32 : Int32) * ((mr (0 : Int32).toNatClampNeg) + (1 : Int32)))) (0 : Int32) ((56 : Int32) * (mt (0 : Int32).toNatClampNeg)) ((56 : Int32) * (mt (0 : Int32).toNatClampNeg)) (0 : Int32) (4 : Int32)) w24 (fun k hk => ((e24 k (by omega)).trans ((e23 k (by omega)).trans ((e22 k (by omega)).trans (e21 k (by omega)))))) H locs ls (lv_sub hl [2, 1, 0] rfl) (show (f_Mo_dump S ma ms mf mb mr mt mi mg) = f_Mo_dump_L74 S ma ms mf mb mr mt mi mg 7 (((52 : Int32) + ((32 : Int32) * ((mr (0 : Int32).toNatClampNeg) + (1 : Int32)))) + ((56 : Int32) * (mt (0 : Int32).toNatClampNeg))) (f_Mo_above ((f_Mo_programHeader (f_Mo_header (((0 : Int32), (0 : Int32), S.1.2.2.1, S.1.2.2.2.1, S.1.2.2.2.2.1, S.1.2.2.2.2.2), S.2) mr) (4 : Int32) ((52 : Int32) + ((32 : Int32) * ((mr (0 : Int32).toNatClampNeg) + (1 : Int32)))) (0 : Int32) ((56 : Int32) * (mt (0 : Int32).toNatClampNeg)) ((56 : Int32) * (mt (0 : Int32).toNatClampNeg)) (0 : Int32) (4 : Int32)).1) ma mr (-1 : Int32)) (f_Mo_programHeader (f_Mo_header (((0 : Int32), (0 : Int32), S.1.2.2.1, S.1.2.2.2.1, S.1.2.2.2.2.1, S.1.2.2.2.2.2), S.2) mr) (4 : Int32) ((52 : Int32) + ((32 : Int32) * ((mr (0 : Int32).toNatClampNeg) + (1 : Int32)))) (0 : Int32) ((56 : Int32) * (mt (0 : Int32).toNatClampNeg)) ((56 : Int32) * (mt (0 : Int32).toNatClampNeg)) (0 : Int32) (4 : Int32)) by rw [f_Mo_dump]) (⟨hn289, fa290⟩) at281 at282 at283 at284 (⟨hn272, fa285⟩) (⟨hn274, fa286⟩) at287 at288 at280 hP hS (ho.2.2.2.2.2.2.2)
