def f_Mo_headerFits_L21 (u : cd_Mo) (mp : cd_By) : Nat → Int32 → cd_Mo → Int32 × cd_Mo
  | 0, _, _ => default
  | gn + 1, x1, u' => (if (52 : Int32) ≤ x1 then (if ((52 : Int32) + ((32 : Int32) * (f_Mo_twoAt u' mp (44 : Int32)))) ≤ u'.2.2.1 then ((1 : Int32), u') else (if (f_Mo_isWrong u' (1 : Int32) u'.2.2.1).1 = 0 then ((0 : Int32), (f_Mo_isWrong u' (1 : Int32) u'.2.2.1).2) else ((1 : Int32), (f_Mo_isWrong u' (1 : Int32) u'.2.2.1).2))) else (if x1 = (44 : Int32) then (if (f_Mo_twoAt u' mp (44 : Int32)) < (1 : Int32) then ((f_Mo_isWrong u' (2 : Int32) (f_Mo_fieldOf x1)).1, (f_Mo_isWrong u' (2 : Int32) (f_Mo_fieldOf x1)).2) else (if (f_Mo_twoAt u' mp (44 : Int32)) ≤ (7 : Int32) then (f_Mo_headerFits_L21 u mp gn (x1 + (1 : Int32)) u') else ((f_Mo_isWrong u' (2 : Int32) (f_Mo_fieldOf x1)).1, (f_Mo_isWrong u' (2 : Int32) (f_Mo_fieldOf x1)).2))) else (if x1 = (45 : Int32) then (f_Mo_headerFits_L21 u mp gn (x1 + (1 : Int32)) u') else (if ((mp x1.toNatClampNeg) &&& (255 : Int32)) = (f_Mo_headerByte x1) then (f_Mo_headerFits_L21 u mp gn (x1 + (1 : Int32)) u') else ((f_Mo_isWrong u' (2 : Int32) (f_Mo_fieldOf x1)).1, (f_Mo_isWrong u' (2 : Int32) (f_Mo_fieldOf x1)).2)))))
def f_Mo_headerFits (u : cd_Mo) (mp : cd_By) : Int32 × cd_Mo := (if (52 : Int32) ≤ u.2.2.1 then (f_Mo_headerFits_L21 u mp 53 (0 : Int32) u) else ((f_Mo_isWrong u (1 : Int32) u.2.2.1).1, (f_Mo_isWrong u (1 : Int32) u.2.2.1).2))
def o_Mo_headerFits_L21 (u : cd_Mo) (mp : cd_By) : Nat → Int32 → cd_Mo → Prop
  | 0, _, _ => False
  | gn + 1, x1, u' => ((52 : Int32) ≤ x1 → o_Mo_twoAt u' mp (44 : Int32)) ∧ (¬ (52 : Int32) ≤ x1 → x1 = (44 : Int32) → o_Mo_twoAt u' mp (44 : Int32)) ∧ (¬ (52 : Int32) ≤ x1 → x1 = (44 : Int32) → ¬ (f_Mo_twoAt u' mp (44 : Int32)) < (1 : Int32) → o_Mo_twoAt u' mp (44 : Int32)) ∧ (¬ (52 : Int32) ≤ x1 → x1 = (44 : Int32) → ¬ (f_Mo_twoAt u' mp (44 : Int32)) < (1 : Int32) → (f_Mo_twoAt u' mp (44 : Int32)) ≤ (7 : Int32) → o_Mo_headerFits_L21 u mp gn (x1 + (1 : Int32)) u') ∧ (¬ (52 : Int32) ≤ x1 → ¬ x1 = (44 : Int32) → ¬ x1 = (45 : Int32) → vp_in x1 8192) ∧ (¬ (52 : Int32) ≤ x1 → ¬ x1 = (44 : Int32) → ¬ x1 = (45 : Int32) → ((mp x1.toNatClampNeg) &&& (255 : Int32)) = (f_Mo_headerByte x1) → o_Mo_headerFits_L21 u mp gn (x1 + (1 : Int32)) u') ∧ (¬ (52 : Int32) ≤ x1 → ¬ x1 = (44 : Int32) → x1 = (45 : Int32) → o_Mo_headerFits_L21 u mp gn (x1 + (1 : Int32)) u')
def o_Mo_headerFits (u : cd_Mo) (mp : cd_By) : Prop := ((52 : Int32) ≤ u.2.2.1 → o_Mo_headerFits_L21 u mp 53 (0 : Int32) u)
set_option maxHeartbeats 4000000 in
set_option maxRecDepth 100000 in
theorem c_Mo_headerFits (l : Launch) (D : va_G) (tt : Nat → ClassId) (ad : Nat → Nat) (N : Nat) (A : Nat → Prop) (zs : Nat → Nat) (w0 : Nat → va_E) (q : Nat) (u : cd_Mo) (mp : cd_By) (hR0 : cd_MoAt N tt ad w0 q u) (hR1 : cd_ByAt N tt ad w0 (q + 10) 8192 mp) (ho : o_Mo_headerFits u mp) : Met l y_Mo_headerFits w_Mo_headerFits ({ frames := 1, cells := 0, slots := 0, locals := 22 }) (va_Pc [.ref (ad q)] (cd_U D tt ad N A zs w0)) (va_Qi (fun r w' => (f_Mo_headerFits u mp).1 = r ∧ (r = 0 ∨ r = 1) ∧ cd_MoAt N tt ad w' q ((f_Mo_headerFits u mp).2) ∧ (∀ k : Nat, (k < q ∨ q + 1 ≤ k) → w' k = w0 k)) (fun w' t => cd_P D ad N A w' t.heap) A) 0 0 A := by
  refine Met.ofW (cc := b_Mo_headerFits) (maxL := 3) (ret := (some .boolean)) (by decide) rfl ?_
  intro p e s m args below meth c s₁ B hml hv
  obtain ⟨rfl, hP, hK, hZ⟩ := hv
  have hx := B.exec
  have hb := B.bytes
  have hr := B.returns
  have hA : ∀ w ∈ cd_AW, w.before _ s = true := fun w h => atoms_spec (ws := w_Mo_headerFits) B.pre w (List.mem_cons_of_mem _ h)
  have hown : s.vm.findClass R_Mo = some m.cls := findClass_of_methodNamed B.named
  have hlocks := B.notSynchronized
  have L21 : ∀ (gn : Nat) (x1 : Int32) (u' : cd_Mo) (w : Nat → va_E) (efr : ∀ k : Nat, (k < q ∨ q + 1 ≤ k) → w k = w0 k) (H : Heap) (locs : List Loc) (ls : Array Slot), lv_has ls 3 [(0, .ref (ad q)), (1, .int x1)] → (f_Mo_headerFits u mp) = f_Mo_headerFits_L21 u mp gn x1 u' → cd_MoAt N tt ad w q u' → cd_ByAt N tt ad w (q + 10) 8192 mp → cd_P D ad N A w H → va_S A s.heap H locs → o_Mo_headerFits_L21 u mp gn x1 u' → W p l e (headSpec w_Mo_headerFits ({ frames := 1, cells := 0, slots := 0, locals := 22 })).room s m [.ref (ad q)].toArray below meth c H locs 0 0 (MQ below (va_Qi (fun r w' => (f_Mo_headerFits u mp).1 = r ∧ (r = 0 ∨ r = 1) ∧ cd_MoAt N tt ad w' q ((f_Mo_headerFits u mp).2) ∧ (∀ k : Nat, (k < q ∨ q + 1 ≤ k) → w' k = w0 k)) (fun w' t => cd_P D ad N A w' t.heap) A) [.ref (ad q)].toArray s 0 0 A) (F0 m 21 ls []) := by
    intro gn
    induction gn with
    | zero => intro x1 u' w efr H locs ls hl he hL0 hL1 hP hS ho; exact ho.elim
    | succ gn ih =>
      intro x1 u' w efr H locs ls hl he hL0 hL1 hP hS ho
      have ho : ((52 : Int32) ≤ x1 → o_Mo_twoAt u' mp (44 : Int32)) ∧ (¬ (52 : Int32) ≤ x1 → x1 = (44 : Int32) → o_Mo_twoAt u' mp (44 : Int32)) ∧ (¬ (52 : Int32) ≤ x1 → x1 = (44 : Int32) → ¬ (f_Mo_twoAt u' mp (44 : Int32)) < (1 : Int32) → o_Mo_twoAt u' mp (44 : Int32)) ∧ (¬ (52 : Int32) ≤ x1 → x1 = (44 : Int32) → ¬ (f_Mo_twoAt u' mp (44 : Int32)) < (1 : Int32) → (f_Mo_twoAt u' mp (44 : Int32)) ≤ (7 : Int32) → o_Mo_headerFits_L21 u mp gn (x1 + (1 : Int32)) u') ∧ (¬ (52 : Int32) ≤ x1 → ¬ x1 = (44 : Int32) → ¬ x1 = (45 : Int32) → vp_in x1 8192) ∧ (¬ (52 : Int32) ≤ x1 → ¬ x1 = (44 : Int32) → ¬ x1 = (45 : Int32) → ((mp x1.toNatClampNeg) &&& (255 : Int32)) = (f_Mo_headerByte x1) → o_Mo_headerFits_L21 u mp gn (x1 + (1 : Int32)) u') ∧ (¬ (52 : Int32) ≤ x1 → ¬ x1 = (44 : Int32) → x1 = (45 : Int32) → o_Mo_headerFits_L21 u mp gn (x1 + (1 : Int32)) u') := ho
      obtain ⟨hn1, fa2⟩ := hL0
      refine lv_iload_n hx hb d_Mo_headerFits_21 rfl (lv_at hl 1 rfl) ?_
      refine lv_bipush (v := (52 : Int32)) hx hb d_Mo_headerFits_22 (by decide) ?_
      refine lv_icmp_ge (tgt := 109) hx hb d_Mo_headerFits_24 (by decide) (fun hc3 => ?_) (fun hc3 => ?_)
      · refine lv_bipush (v := (52 : Int32)) hx hb d_Mo_headerFits_109 (by decide) ?_
        refine lv_bipush (v := (32 : Int32)) hx hb d_Mo_headerFits_111 (by decide) ?_
        refine lv_aload_n hx hb d_Mo_headerFits_113 rfl (lv_at hl 0 rfl) ?_
        refine lv_bipush (v := (44 : Int32)) hx hb d_Mo_headerFits_114 (by decide) ?_
        refine va_calli (va_runV (As := [.int (44 : Int32)]) (rest := [.int (32 : Int32), .int (52 : Int32)]) ⟨hx, hb, hml, hown, hA⟩ (c_Mo_twoAt l D tt ad N A zs w q u' mp (44 : Int32) (⟨hn1, fa2⟩) hL1 (ho.1 hc3)) (cwV 1 hA (cd_gV aw_687 aw_688 aw_797 aw_8 aw_689) rfl rfl rfl ⟨rfl, by decide, by decide, by decide +kernel⟩ ⟨Nat.le_of_ble_eq_true rfl, Nat.le_of_ble_eq_true rfl⟩) ⟨cd_blind, cd_recv hK hP (k := q) (by omega) fa2 rfl, fun U hU hW => ⟨rfl, cd_pre hK hP hZ hS U hU hW⟩⟩ rfl rfl hl.1 rfl (lv_room (Nat.le_of_ble_eq_true rfl)) d_Mo_headerFits_116 ⟨Nat.zero_le _, Nat.zero_le _⟩) hS (fun _ _ h => h) (fun _ h => h) (fun r4 w1 tE H locs ht hvm hr5 hP hz1 hk1 hS => ?_)
        have hP := cd_Pf ht hP
        obtain ⟨rfl, rfl⟩ := hr5
        refine lv_imul hx hb d_Mo_headerFits_119 ?_
        refine lv_iadd hx hb d_Mo_headerFits_120 ?_
        refine lv_aload_n hx hb d_Mo_headerFits_121 rfl (lv_at hl 0 rfl) ?_
        refine g_get (ci := 7) (C := R_Mo) (T := F_Mo) (Nf := 16) (v := .int u'.2.2.1) hx hb hA in_Mo hown hK hP (k := q) (by omega) fa2 rfl 12 (by decide) (hA _ aw_572) (fun _ h9 => h9) rfl d_Mo_headerFits_122 ?_
        refine lv_icmp_le (tgt := 140) hx hb d_Mo_headerFits_125 (by decide) (fun hc7 => ?_) (fun hc7 => ?_)
        · refine lv_iconst (v := (1 : Int32)) hx hb d_Mo_headerFits_140 (by decide) ?_
          refine lv_goto (tgt := 145) hx hb d_Mo_headerFits_141 (by decide) ?_
          have hf8 : (f_Mo_headerFits u mp) = ((1 : Int32), u') := by rw [he, f_Mo_headerFits_L21, if_pos hc3, if_pos hc7]
          exact W.zret (ty := .boolean) (v := (1 : Int32)) hx hb hr rfl (fun tE ht _ => ⟨⟨_, w, rfl, ⟨(by rw [hf8]), (Or.inr rfl), (by rw [hf8]; exact ⟨hn1, fa2⟩), (fun k hk => (efr k (by omega)))⟩, cd_Pt ht hP⟩, hS.F ht⟩) hS.2.2 d_Mo_headerFits_145
        · refine lv_aload_n hx hb d_Mo_headerFits_128 rfl (lv_at hl 0 rfl) ?_
          refine lv_iconst (v := (1 : Int32)) hx hb d_Mo_headerFits_129 (by decide) ?_
          refine lv_aload_n hx hb d_Mo_headerFits_130 rfl (lv_at hl 0 rfl) ?_
          refine g_get (ci := 7) (C := R_Mo) (T := F_Mo) (Nf := 16) (v := .int u'.2.2.1) hx hb hA in_Mo hown hK hP (k := q) (by omega) fa2 rfl 12 (by decide) (hA _ aw_572) (fun _ h9 => h9) rfl d_Mo_headerFits_131 ?_
          refine va_calli (va_runV (As := [.int (1 : Int32), .int u'.2.2.1]) (rest := []) ⟨hx, hb, hml, hown, hA⟩ (c_Mo_isWrong l D tt ad N A zs w q u' (1 : Int32) u'.2.2.1 (⟨hn1, fa2⟩)) (cwV 2 hA (cd_gV aw_681 aw_682 aw_796 aw_8 aw_683) rfl rfl rfl ⟨rfl, by decide, by decide, by decide +kernel⟩ ⟨Nat.le_of_ble_eq_true rfl, Nat.le_of_ble_eq_true rfl⟩) ⟨cd_blind, cd_recv hK hP (k := q) (by omega) fa2 rfl, fun U hU hW => ⟨rfl, cd_pre hK hP hZ hS U hU hW⟩⟩ rfl rfl hl.1 rfl (lv_room (Nat.le_of_ble_eq_true rfl)) d_Mo_headerFits_134 ⟨Nat.zero_le _, Nat.zero_le _⟩) hS (fun _ _ h => h) (fun _ h => h) (fun r9 w2 tE H locs ht hvm hr10 hP hz1 hk1 hS => ?_)
          have hP := cd_Pf ht hP
          obtain ⟨rfl, hbo12, at13, e2⟩ := hr10
          have at14 := cd_ByAt_keep hL1 (fun k h1 h2 => e2 k (by omega))
          obtain ⟨hn15, fa16⟩ := at13
          refine lv_if_eq (tgt := 144) hx hb d_Mo_headerFits_137 (by decide) (fun hc17 => ?_) (fun hc17 => ?_)
          · refine lv_iconst (v := (0 : Int32)) hx hb d_Mo_headerFits_144 (by decide) ?_
            have hf18 : (f_Mo_headerFits u mp) = ((0 : Int32), (f_Mo_isWrong u' (1 : Int32) u'.2.2.1).2) := by rw [he, f_Mo_headerFits_L21, if_pos hc3, if_neg hc7, if_pos hc17]
            exact W.zret (ty := .boolean) (v := (0 : Int32)) hx hb hr rfl (fun tE ht _ => ⟨⟨_, w2, rfl, ⟨(by rw [hf18]), (Or.inl rfl), (by rw [hf18]; exact ⟨hn15, fa16⟩), (fun k hk => ((e2 k (by omega)).trans (efr k (by omega))))⟩, cd_Pt ht hP⟩, hS.F ht⟩) hS.2.2 d_Mo_headerFits_145
          · refine lv_iconst (v := (1 : Int32)) hx hb d_Mo_headerFits_140 (by decide) ?_
            refine lv_goto (tgt := 145) hx hb d_Mo_headerFits_141 (by decide) ?_
            have hf19 : (f_Mo_headerFits u mp) = ((1 : Int32), (f_Mo_isWrong u' (1 : Int32) u'.2.2.1).2) := by rw [he, f_Mo_headerFits_L21, if_pos hc3, if_neg hc7, if_neg hc17]
            exact W.zret (ty := .boolean) (v := (1 : Int32)) hx hb hr rfl (fun tE ht _ => ⟨⟨_, w2, rfl, ⟨(by rw [hf19]), (Or.inr rfl), (by rw [hf19]; exact ⟨hn15, fa16⟩), (fun k hk => ((e2 k (by omega)).trans (efr k (by omega))))⟩, cd_Pt ht hP⟩, hS.F ht⟩) hS.2.2 d_Mo_headerFits_145
      · refine lv_iload_n hx hb d_Mo_headerFits_27 rfl (lv_at hl 1 rfl) ?_
        refine lv_bipush (v := (44 : Int32)) hx hb d_Mo_headerFits_28 (by decide) ?_
        refine lv_icmp_eq (tgt := 39) hx hb d_Mo_headerFits_30 (by decide) (fun hc20 => ?_) (fun hc20 => ?_)
        · refine lv_iconst (v := (1 : Int32)) hx hb d_Mo_headerFits_39 (by decide) ?_
          refine lv_goto (tgt := 44) hx hb d_Mo_headerFits_40 (by decide) ?_
          refine lv_istore_n (lv' := [(2, .int (1 : Int32)), (0, .ref (ad q)), (1, .int x1)]) hx hb d_Mo_headerFits_44 rfl hl (by decide) rfl (fun ls hl => ?_)
          refine lv_iload_n hx hb d_Mo_headerFits_45 rfl (lv_at hl 0 rfl) ?_
          refine lv_if_ne (tgt := 66) hx hb d_Mo_headerFits_46 (by decide) (fun _ => ?_) (fun h9 => absurd h9 (by decide))
          refine lv_iload_n hx hb d_Mo_headerFits_66 rfl (lv_at hl 2 rfl) ?_
          refine lv_bipush (v := (44 : Int32)) hx hb d_Mo_headerFits_67 (by decide) ?_
          refine lv_icmp_ne (tgt := 103) hx hb d_Mo_headerFits_69 (by decide) (fun h9 => absurd hc20 h9) (fun _ => ?_)
          refine lv_aload_n hx hb d_Mo_headerFits_72 rfl (lv_at hl 1 rfl) ?_
          refine lv_bipush (v := (44 : Int32)) hx hb d_Mo_headerFits_73 (by decide) ?_
          refine va_calli (va_runV (As := [.int (44 : Int32)]) (rest := []) ⟨hx, hb, hml, hown, hA⟩ (c_Mo_twoAt l D tt ad N A zs w q u' mp (44 : Int32) (⟨hn1, fa2⟩) hL1 (ho.2.1 hc3 hc20)) (cwV 1 hA (cd_gV aw_687 aw_688 aw_797 aw_8 aw_689) rfl rfl rfl ⟨rfl, by decide, by decide, by decide +kernel⟩ ⟨Nat.le_of_ble_eq_true rfl, Nat.le_of_ble_eq_true rfl⟩) ⟨cd_blind, cd_recv hK hP (k := q) (by omega) fa2 rfl, fun U hU hW => ⟨rfl, cd_pre hK hP hZ hS U hU hW⟩⟩ rfl rfl hl.1 rfl (lv_room (Nat.le_of_ble_eq_true rfl)) d_Mo_headerFits_75 ⟨Nat.zero_le _, Nat.zero_le _⟩) hS (fun _ _ h => h) (fun _ h => h) (fun r23 w3 tE H locs ht hvm hr24 hP hz1 hk1 hS => ?_)
          have hP := cd_Pf ht hP
          obtain ⟨rfl, rfl⟩ := hr24
          refine lv_iconst (v := (1 : Int32)) hx hb d_Mo_headerFits_78 (by decide) ?_
          refine lv_icmp_lt (tgt := 93) hx hb d_Mo_headerFits_79 (by decide) (fun hc26 => ?_) (fun hc26 => ?_)
          · refine lv_aload_n hx hb d_Mo_headerFits_93 rfl (lv_at hl 1 rfl) ?_
            refine lv_iconst (v := (2 : Int32)) hx hb d_Mo_headerFits_94 (by decide) ?_
            refine lv_iload_n hx hb d_Mo_headerFits_95 rfl (lv_at hl 2 rfl) ?_
            refine va_calli (va_runS (As := [.int x1]) (rest := [.int (2 : Int32), .ref (ad q)]) ⟨hx, hb, hml, hown, hA⟩ (c_Mo_fieldOf l D tt ad N A zs w x1) (cwS 1 hA (cd_gS aw_690 aw_691 aw_8 aw_692) rfl rfl rfl ⟨rfl, by decide, by decide, by decide +kernel⟩ ⟨Nat.le_of_ble_eq_true rfl, Nat.le_of_ble_eq_true rfl⟩) ⟨cd_blind, fun U hU hW => ⟨rfl, cd_pre hK hP hZ hS U hU hW⟩⟩ rfl rfl hl.1 rfl (lv_room (Nat.le_of_ble_eq_true rfl)) d_Mo_headerFits_96 ⟨Nat.zero_le _, Nat.zero_le _⟩) hS (fun _ _ h => h) (fun _ h => h) (fun r27 w4 tE H locs ht hvm hr28 hP hz1 hk1 hS => ?_)
            have hP := cd_Pf ht hP
            obtain ⟨rfl, rfl⟩ := hr28
            refine va_calli (va_runV (As := [.int (2 : Int32), .int (f_Mo_fieldOf x1)]) (rest := []) ⟨hx, hb, hml, hown, hA⟩ (c_Mo_isWrong l D tt ad N A zs w q u' (2 : Int32) (f_Mo_fieldOf x1) (⟨hn1, fa2⟩)) (cwV 2 hA (cd_gV aw_681 aw_682 aw_796 aw_8 aw_683) rfl rfl rfl ⟨rfl, by decide, by decide, by decide +kernel⟩ ⟨Nat.le_of_ble_eq_true rfl, Nat.le_of_ble_eq_true rfl⟩) ⟨cd_blind, cd_recv hK hP (k := q) (by omega) fa2 rfl, fun U hU hW => ⟨rfl, cd_pre hK hP hZ hS U hU hW⟩⟩ rfl rfl hl.1 rfl (lv_room (Nat.le_of_ble_eq_true rfl)) d_Mo_headerFits_99 ⟨Nat.zero_le _, Nat.zero_le _⟩) hS (fun _ _ h => h) (fun _ h => h) (fun r30 w5 tE H locs ht hvm hr31 hP hz1 hk1 hS => ?_)
            have hP := cd_Pf ht hP
            obtain ⟨rfl, hbo33, at34, e5⟩ := hr31
            have at35 := cd_ByAt_keep hL1 (fun k h1 h2 => e5 k (by omega))
            obtain ⟨hn36, fa37⟩ := at34
            have hf38 : (f_Mo_headerFits u mp) = ((f_Mo_isWrong u' (2 : Int32) (f_Mo_fieldOf x1)).1, (f_Mo_isWrong u' (2 : Int32) (f_Mo_fieldOf x1)).2) := by rw [he, f_Mo_headerFits_L21, if_neg hc3, if_pos hc20, if_pos hc26]
            exact W.zret (ty := .boolean) (v := (f_Mo_isWrong u' (2 : Int32) (f_Mo_fieldOf x1)).1) hx hb hr (cd_nb hbo33) (fun tE ht _ => ⟨⟨_, w5, rfl, ⟨(by rw [hf38]), hbo33, (by rw [hf38]; exact ⟨hn36, fa37⟩), (fun k hk => ((e5 k (by omega)).trans (efr k (by omega))))⟩, cd_Pt ht hP⟩, hS.F ht⟩) hS.2.2 d_Mo_headerFits_102
          · refine lv_aload_n hx hb d_Mo_headerFits_82 rfl (lv_at hl 1 rfl) ?_
            refine lv_bipush (v := (44 : Int32)) hx hb d_Mo_headerFits_83 (by decide) ?_
            refine va_calli (va_runV (As := [.int (44 : Int32)]) (rest := []) ⟨hx, hb, hml, hown, hA⟩ (c_Mo_twoAt l D tt ad N A zs w q u' mp (44 : Int32) (⟨hn1, fa2⟩) hL1 (ho.2.2.1 hc3 hc20 hc26)) (cwV 1 hA (cd_gV aw_687 aw_688 aw_797 aw_8 aw_689) rfl rfl rfl ⟨rfl, by decide, by decide, by decide +kernel⟩ ⟨Nat.le_of_ble_eq_true rfl, Nat.le_of_ble_eq_true rfl⟩) ⟨cd_blind, cd_recv hK hP (k := q) (by omega) fa2 rfl, fun U hU hW => ⟨rfl, cd_pre hK hP hZ hS U hU hW⟩⟩ rfl rfl hl.1 rfl (lv_room (Nat.le_of_ble_eq_true rfl)) d_Mo_headerFits_85 ⟨Nat.zero_le _, Nat.zero_le _⟩) hS (fun _ _ h => h) (fun _ h => h) (fun r39 w6 tE H locs ht hvm hr40 hP hz1 hk1 hS => ?_)
            have hP := cd_Pf ht hP
            obtain ⟨rfl, rfl⟩ := hr40
            refine lv_bipush (v := (7 : Int32)) hx hb d_Mo_headerFits_88 (by decide) ?_
            refine lv_icmp_le (tgt := 103) hx hb d_Mo_headerFits_90 (by decide) (fun hc42 => ?_) (fun hc42 => ?_)
            · refine lv_iinc (k := 2) (v := (x1 + (1 : Int32))) (lv' := [(1, .int (x1 + (1 : Int32))), (2, .int (1 : Int32)), (0, .ref (ad q))]) hx hb d_Mo_headerFits_103 hl rfl (cd_inc _ _ _ (by decide)) (by decide) rfl (fun ls hl => ?_)
              refine lv_goto (tgt := 21) hx hb d_Mo_headerFits_106 (by decide) ?_
              exact ih (x1 + (1 : Int32)) u' w (fun k hk => (efr k (by omega))) H locs ls (lv_sub hl [2, 0] rfl) (show (f_Mo_headerFits u mp) = f_Mo_headerFits_L21 u mp gn (x1 + (1 : Int32)) u' by rw [he, f_Mo_headerFits_L21, if_neg hc3, if_pos hc20, if_neg hc26, if_pos hc42]) (⟨hn1, fa2⟩) hL1 hP hS (ho.2.2.2.1 hc3 hc20 hc26 hc42)
            · refine lv_aload_n hx hb d_Mo_headerFits_93 rfl (lv_at hl 1 rfl) ?_
              refine lv_iconst (v := (2 : Int32)) hx hb d_Mo_headerFits_94 (by decide) ?_
              refine lv_iload_n hx hb d_Mo_headerFits_95 rfl (lv_at hl 2 rfl) ?_
              refine va_calli (va_runS (As := [.int x1]) (rest := [.int (2 : Int32), .ref (ad q)]) ⟨hx, hb, hml, hown, hA⟩ (c_Mo_fieldOf l D tt ad N A zs w x1) (cwS 1 hA (cd_gS aw_690 aw_691 aw_8 aw_692) rfl rfl rfl ⟨rfl, by decide, by decide, by decide +kernel⟩ ⟨Nat.le_of_ble_eq_true rfl, Nat.le_of_ble_eq_true rfl⟩) ⟨cd_blind, fun U hU hW => ⟨rfl, cd_pre hK hP hZ hS U hU hW⟩⟩ rfl rfl hl.1 rfl (lv_room (Nat.le_of_ble_eq_true rfl)) d_Mo_headerFits_96 ⟨Nat.zero_le _, Nat.zero_le _⟩) hS (fun _ _ h => h) (fun _ h => h) (fun r43 w7 tE H locs ht hvm hr44 hP hz1 hk1 hS => ?_)
              have hP := cd_Pf ht hP
              obtain ⟨rfl, rfl⟩ := hr44
              refine va_calli (va_runV (As := [.int (2 : Int32), .int (f_Mo_fieldOf x1)]) (rest := []) ⟨hx, hb, hml, hown, hA⟩ (c_Mo_isWrong l D tt ad N A zs w q u' (2 : Int32) (f_Mo_fieldOf x1) (⟨hn1, fa2⟩)) (cwV 2 hA (cd_gV aw_681 aw_682 aw_796 aw_8 aw_683) rfl rfl rfl ⟨rfl, by decide, by decide, by decide +kernel⟩ ⟨Nat.le_of_ble_eq_true rfl, Nat.le_of_ble_eq_true rfl⟩) ⟨cd_blind, cd_recv hK hP (k := q) (by omega) fa2 rfl, fun U hU hW => ⟨rfl, cd_pre hK hP hZ hS U hU hW⟩⟩ rfl rfl hl.1 rfl (lv_room (Nat.le_of_ble_eq_true rfl)) d_Mo_headerFits_99 ⟨Nat.zero_le _, Nat.zero_le _⟩) hS (fun _ _ h => h) (fun _ h => h) (fun r46 w8 tE H locs ht hvm hr47 hP hz1 hk1 hS => ?_)
              have hP := cd_Pf ht hP
              obtain ⟨rfl, hbo49, at50, e8⟩ := hr47
              have at51 := cd_ByAt_keep hL1 (fun k h1 h2 => e8 k (by omega))
              obtain ⟨hn52, fa53⟩ := at50
              have hf54 : (f_Mo_headerFits u mp) = ((f_Mo_isWrong u' (2 : Int32) (f_Mo_fieldOf x1)).1, (f_Mo_isWrong u' (2 : Int32) (f_Mo_fieldOf x1)).2) := by rw [he, f_Mo_headerFits_L21, if_neg hc3, if_pos hc20, if_neg hc26, if_neg hc42]
              exact W.zret (ty := .boolean) (v := (f_Mo_isWrong u' (2 : Int32) (f_Mo_fieldOf x1)).1) hx hb hr (cd_nb hbo49) (fun tE ht _ => ⟨⟨_, w8, rfl, ⟨(by rw [hf54]), hbo49, (by rw [hf54]; exact ⟨hn52, fa53⟩), (fun k hk => ((e8 k (by omega)).trans (efr k (by omega))))⟩, cd_Pt ht hP⟩, hS.F ht⟩) hS.2.2 d_Mo_headerFits_102
        · refine lv_iload_n hx hb d_Mo_headerFits_33 rfl (lv_at hl 1 rfl) ?_
          refine lv_bipush (v := (45 : Int32)) hx hb d_Mo_headerFits_34 (by decide) ?_
          refine lv_icmp_ne (tgt := 43) hx hb d_Mo_headerFits_36 (by decide) (fun hc55 => ?_) (fun hc55 => ?_)
          · refine lv_iconst (v := (0 : Int32)) hx hb d_Mo_headerFits_43 (by decide) ?_
            refine lv_istore_n (lv' := [(2, .int (0 : Int32)), (0, .ref (ad q)), (1, .int x1)]) hx hb d_Mo_headerFits_44 rfl hl (by decide) rfl (fun ls hl => ?_)
            refine lv_iload_n hx hb d_Mo_headerFits_45 rfl (lv_at hl 0 rfl) ?_
            refine lv_if_ne (tgt := 66) hx hb d_Mo_headerFits_46 (by decide) (fun h9 => absurd (by decide) h9) (fun _ => ?_)
            refine lv_aload_n hx hb d_Mo_headerFits_49 rfl (lv_at hl 1 rfl) ?_
            refine g_get (ci := 7) (C := R_Mo) (T := F_Mo) (Nf := 16) (v := .ref (ad (q + 10))) hx hb hA in_Mo hown hK hP (k := q) (by omega) fa2 rfl 11 (by decide) (hA _ aw_571) (fun _ h9 => h9) rfl d_Mo_headerFits_50 ?_
            refine lv_iload_n hx hb d_Mo_headerFits_53 rfl (lv_at hl 2 rfl) ?_
            obtain ⟨hn57, fa58⟩ := hL1
            refine g_bald hx hb hK hP (k := (q + 10)) (by omega) fa58 rfl (ho.2.2.2.2.1 hc3 hc20 hc55) d_Mo_headerFits_54 ?_
            refine lv_sipush (v := (255 : Int32)) hx hb d_Mo_headerFits_55 (by decide) ?_
            refine lv_iand hx hb d_Mo_headerFits_58 ?_
            refine lv_iload_n hx hb d_Mo_headerFits_59 rfl (lv_at hl 2 rfl) ?_
            refine va_calli (va_runS (As := [.int x1]) (rest := [.int ((mp x1.toNatClampNeg) &&& (255 : Int32))]) ⟨hx, hb, hml, hown, hA⟩ (c_Mo_headerByte l D tt ad N A zs w x1) (cwS 1 hA (cd_gS aw_684 aw_685 aw_8 aw_686) rfl rfl rfl ⟨rfl, by decide, by decide, by decide +kernel⟩ ⟨Nat.le_of_ble_eq_true rfl, Nat.le_of_ble_eq_true rfl⟩) ⟨cd_blind, fun U hU hW => ⟨rfl, cd_pre hK hP hZ hS U hU hW⟩⟩ rfl rfl hl.1 rfl (lv_room (Nat.le_of_ble_eq_true rfl)) d_Mo_headerFits_60 ⟨Nat.zero_le _, Nat.zero_le _⟩) hS (fun _ _ h => h) (fun _ h => h) (fun r59 w9 tE H locs ht hvm hr60 hP hz1 hk1 hS => ?_)
            have hP := cd_Pf ht hP
            obtain ⟨rfl, rfl⟩ := hr60
            refine lv_icmp_ne (tgt := 93) hx hb d_Mo_headerFits_63 (by decide) (fun hc62 => ?_) (fun hc62 => ?_)
            · refine lv_aload_n hx hb d_Mo_headerFits_93 rfl (lv_at hl 1 rfl) ?_
              refine lv_iconst (v := (2 : Int32)) hx hb d_Mo_headerFits_94 (by decide) ?_
              refine lv_iload_n hx hb d_Mo_headerFits_95 rfl (lv_at hl 2 rfl) ?_
              refine va_calli (va_runS (As := [.int x1]) (rest := [.int (2 : Int32), .ref (ad q)]) ⟨hx, hb, hml, hown, hA⟩ (c_Mo_fieldOf l D tt ad N A zs w x1) (cwS 1 hA (cd_gS aw_690 aw_691 aw_8 aw_692) rfl rfl rfl ⟨rfl, by decide, by decide, by decide +kernel⟩ ⟨Nat.le_of_ble_eq_true rfl, Nat.le_of_ble_eq_true rfl⟩) ⟨cd_blind, fun U hU hW => ⟨rfl, cd_pre hK hP hZ hS U hU hW⟩⟩ rfl rfl hl.1 rfl (lv_room (Nat.le_of_ble_eq_true rfl)) d_Mo_headerFits_96 ⟨Nat.zero_le _, Nat.zero_le _⟩) hS (fun _ _ h => h) (fun _ h => h) (fun r63 w10 tE H locs ht hvm hr64 hP hz1 hk1 hS => ?_)
              have hP := cd_Pf ht hP
              obtain ⟨rfl, rfl⟩ := hr64
              refine va_calli (va_runV (As := [.int (2 : Int32), .int (f_Mo_fieldOf x1)]) (rest := []) ⟨hx, hb, hml, hown, hA⟩ (c_Mo_isWrong l D tt ad N A zs w q u' (2 : Int32) (f_Mo_fieldOf x1) (⟨hn1, fa2⟩)) (cwV 2 hA (cd_gV aw_681 aw_682 aw_796 aw_8 aw_683) rfl rfl rfl ⟨rfl, by decide, by decide, by decide +kernel⟩ ⟨Nat.le_of_ble_eq_true rfl, Nat.le_of_ble_eq_true rfl⟩) ⟨cd_blind, cd_recv hK hP (k := q) (by omega) fa2 rfl, fun U hU hW => ⟨rfl, cd_pre hK hP hZ hS U hU hW⟩⟩ rfl rfl hl.1 rfl (lv_room (Nat.le_of_ble_eq_true rfl)) d_Mo_headerFits_99 ⟨Nat.zero_le _, Nat.zero_le _⟩) hS (fun _ _ h => h) (fun _ h => h) (fun r66 w11 tE H locs ht hvm hr67 hP hz1 hk1 hS => ?_)
              have hP := cd_Pf ht hP
              obtain ⟨rfl, hbo69, at70, e11⟩ := hr67
              have fa71 := (e11 (q + 10) (by omega)).trans fa58
              obtain ⟨hn72, fa73⟩ := at70
              have hf74 : (f_Mo_headerFits u mp) = ((f_Mo_isWrong u' (2 : Int32) (f_Mo_fieldOf x1)).1, (f_Mo_isWrong u' (2 : Int32) (f_Mo_fieldOf x1)).2) := by rw [he, f_Mo_headerFits_L21, if_neg hc3, if_neg hc20, if_neg hc55, if_neg hc62]
              exact W.zret (ty := .boolean) (v := (f_Mo_isWrong u' (2 : Int32) (f_Mo_fieldOf x1)).1) hx hb hr (cd_nb hbo69) (fun tE ht _ => ⟨⟨_, w11, rfl, ⟨(by rw [hf74]), hbo69, (by rw [hf74]; exact ⟨hn72, fa73⟩), (fun k hk => ((e11 k (by omega)).trans (efr k (by omega))))⟩, cd_Pt ht hP⟩, hS.F ht⟩) hS.2.2 d_Mo_headerFits_102
            · refine lv_iload_n hx hb d_Mo_headerFits_66 rfl (lv_at hl 2 rfl) ?_
              refine lv_bipush (v := (44 : Int32)) hx hb d_Mo_headerFits_67 (by decide) ?_
              refine lv_icmp_ne (tgt := 103) hx hb d_Mo_headerFits_69 (by decide) (fun _ => ?_) (fun h9 => absurd h9 hc20)
              refine lv_iinc (k := 2) (v := (x1 + (1 : Int32))) (lv' := [(1, .int (x1 + (1 : Int32))), (2, .int (0 : Int32)), (0, .ref (ad q))]) hx hb d_Mo_headerFits_103 hl rfl (cd_inc _ _ _ (by decide)) (by decide) rfl (fun ls hl => ?_)
              refine lv_goto (tgt := 21) hx hb d_Mo_headerFits_106 (by decide) ?_
              exact ih (x1 + (1 : Int32)) u' w (fun k hk => (efr k (by omega))) H locs ls (lv_sub hl [2, 0] rfl) (show (f_Mo_headerFits u mp) = f_Mo_headerFits_L21 u mp gn (x1 + (1 : Int32)) u' by rw [he, f_Mo_headerFits_L21, if_neg hc3, if_neg hc20, if_neg hc55, if_pos hc62]) (⟨hn1, fa2⟩) (⟨hn57, fa58⟩) hP hS (ho.2.2.2.2.2.1 hc3 hc20 hc55 hc62)
          · refine lv_iconst (v := (1 : Int32)) hx hb d_Mo_headerFits_39 (by decide) ?_
            refine lv_goto (tgt := 44) hx hb d_Mo_headerFits_40 (by decide) ?_
            refine lv_istore_n (lv' := [(2, .int (1 : Int32)), (0, .ref (ad q)), (1, .int x1)]) hx hb d_Mo_headerFits_44 rfl hl (by decide) rfl (fun ls hl => ?_)
            refine lv_iload_n hx hb d_Mo_headerFits_45 rfl (lv_at hl 0 rfl) ?_
            refine lv_if_ne (tgt := 66) hx hb d_Mo_headerFits_46 (by decide) (fun _ => ?_) (fun h9 => absurd h9 (by decide))
            refine lv_iload_n hx hb d_Mo_headerFits_66 rfl (lv_at hl 2 rfl) ?_
            refine lv_bipush (v := (44 : Int32)) hx hb d_Mo_headerFits_67 (by decide) ?_
            refine lv_icmp_ne (tgt := 103) hx hb d_Mo_headerFits_69 (by decide) (fun _ => ?_) (fun h9 => absurd h9 hc20)
            refine lv_iinc (k := 2) (v := (x1 + (1 : Int32))) (lv' := [(1, .int (x1 + (1 : Int32))), (2, .int (1 : Int32)), (0, .ref (ad q))]) hx hb d_Mo_headerFits_103 hl rfl (cd_inc _ _ _ (by decide)) (by decide) rfl (fun ls hl => ?_)
            refine lv_goto (tgt := 21) hx hb d_Mo_headerFits_106 (by decide) ?_
            exact ih (x1 + (1 : Int32)) u' w (fun k hk => (efr k (by omega))) H locs ls (lv_sub hl [2, 0] rfl) (show (f_Mo_headerFits u mp) = f_Mo_headerFits_L21 u mp gn (x1 + (1 : Int32)) u' by rw [he, f_Mo_headerFits_L21, if_neg hc3, if_neg hc20, if_pos hc55]) (⟨hn1, fa2⟩) hL1 hP hS (ho.2.2.2.2.2.2 hc3 hc20 hc55)
  have hS : va_S A s.heap s.heap [] := va_S.rf
  have hl := lv_entry ([.ref (ad q)]) (n := 3) (Nat.le_of_ble_eq_true rfl)
  rw [lg_entry_eq]
  generalize (lg_sl ([.ref (ad q)]) ++ List.replicate (3 - (lg_sl ([.ref (ad q)])).length) Slot.unset).toArray = ls at hl ⊢
  have hl : lv_has ls 3 [(0, .ref (ad q))] := hl
  have ho : ((52 : Int32) ≤ u.2.2.1 → o_Mo_headerFits_L21 u mp 53 (0 : Int32) u) := ho
  obtain ⟨hn78, fa79⟩ := hR0
  refine lv_aload_n hx hb d_Mo_headerFits_0 rfl (lv_at hl 0 rfl) ?_
  refine g_get (ci := 7) (C := R_Mo) (T := F_Mo) (Nf := 16) (v := .int u.2.2.1) hx hb hA in_Mo hown hK hP (k := q) (by omega) fa79 rfl 12 (by decide) (hA _ aw_572) (fun _ h9 => h9) rfl d_Mo_headerFits_1 ?_
  refine lv_bipush (v := (52 : Int32)) hx hb d_Mo_headerFits_4 (by decide) ?_
  refine lv_icmp_ge (tgt := 19) hx hb d_Mo_headerFits_6 (by decide) (fun hc80 => ?_) (fun hc80 => ?_)
  · refine lv_iconst (v := (0 : Int32)) hx hb d_Mo_headerFits_19 (by decide) ?_
    refine lv_istore_n (lv' := [(1, .int (0 : Int32)), (0, .ref (ad q))]) hx hb d_Mo_headerFits_20 rfl hl (by decide) rfl (fun ls hl => ?_)
    exact L21 53 (0 : Int32) u w0 (fun _ _ => rfl) s.heap [] ls (lv_sub hl [1, 0] rfl) (show (f_Mo_headerFits u mp) = f_Mo_headerFits_L21 u mp 53 (0 : Int32) u by rw [f_Mo_headerFits, if_pos hc80]) (⟨hn78, fa79⟩) hR1 hP hS (ho hc80)
  · refine lv_aload_n hx hb d_Mo_headerFits_9 rfl (lv_at hl 0 rfl) ?_
    refine lv_iconst (v := (1 : Int32)) hx hb d_Mo_headerFits_10 (by decide) ?_
    refine lv_aload_n hx hb d_Mo_headerFits_11 rfl (lv_at hl 0 rfl) ?_
    refine g_get (ci := 7) (C := R_Mo) (T := F_Mo) (Nf := 16) (v := .int u.2.2.1) hx hb hA in_Mo hown hK hP (k := q) (by omega) fa79 rfl 12 (by decide) (hA _ aw_572) (fun _ h9 => h9) rfl d_Mo_headerFits_12 ?_
    refine va_calli (va_runV (As := [.int (1 : Int32), .int u.2.2.1]) (rest := []) ⟨hx, hb, hml, hown, hA⟩ (c_Mo_isWrong l D tt ad N A zs w0 q u (1 : Int32) u.2.2.1 (⟨hn78, fa79⟩)) (cwV 2 hA (cd_gV aw_681 aw_682 aw_796 aw_8 aw_683) rfl rfl rfl ⟨rfl, by decide, by decide, by decide +kernel⟩ ⟨Nat.le_of_ble_eq_true rfl, Nat.le_of_ble_eq_true rfl⟩) ⟨cd_blind, cd_recv hK hP (k := q) (by omega) fa79 rfl, fun U hU hW => ⟨rfl, cd_pre hK hP hZ hS U hU hW⟩⟩ rfl rfl hl.1 rfl (lv_room (Nat.le_of_ble_eq_true rfl)) d_Mo_headerFits_15 ⟨Nat.zero_le _, Nat.zero_le _⟩) hS (fun _ _ h => h) (fun _ h => h) (fun r81 w12 tE H locs ht hvm hr82 hP hz1 hk1 hS => ?_)
    have hP := cd_Pf ht hP
    obtain ⟨rfl, hbo84, at85, e12⟩ := hr82
    have at86 := cd_ByAt_keep hR1 (fun k h1 h2 => e12 k (by omega))
    obtain ⟨hn87, fa88⟩ := at85
    have hf89 : (f_Mo_headerFits u mp) = ((f_Mo_isWrong u (1 : Int32) u.2.2.1).1, (f_Mo_isWrong u (1 : Int32) u.2.2.1).2) := by rw [f_Mo_headerFits, if_neg hc80]
    exact W.zret (ty := .boolean) (v := (f_Mo_isWrong u (1 : Int32) u.2.2.1).1) hx hb hr (cd_nb hbo84) (fun tE ht _ => ⟨⟨_, w12, rfl, ⟨(by rw [hf89]), hbo84, (by rw [hf89]; exact ⟨hn87, fa88⟩), (fun k hk => (e12 k (by omega)))⟩, cd_Pt ht hP⟩, hS.F ht⟩) hS.2.2 d_Mo_headerFits_18
def f_Mo_badField (u : cd_Mo) (mp : cd_By) (k0 : Int32) (k1 : Int32) (k2 : Int32) : Int32 := (if k1 = 0 then (if (f_Mo_fourAt u mp k0) = (1 : Int32) then (if k2 ≤ (f_Mo_fourAt u mp (k0 + (4 : Int32))) then (if (f_Mo_fourAt u mp (k0 + (8 : Int32))) < 0 then (2 : Int32) else (if ((f_Mo_fourAt u mp (k0 + (8 : Int32))) - (f_Mo_fourAt u mp (k0 + (8 : Int32))) / (64 : Int32) * (64 : Int32)) = 0 then (if (f_Mo_fourAt u mp (k0 + (12 : Int32))) = 0 then (if (f_Mo_fourAt u mp (k0 + (16 : Int32))) < 0 then (4 : Int32) else (if ((f_Mo_fourAt u mp (k0 + (16 : Int32))) - (f_Mo_fourAt u mp (k0 + (16 : Int32))) / (64 : Int32) * (64 : Int32)) = 0 then (if (f_Mo_fourAt u mp (k0 + (16 : Int32))) ≤ (1024 : Int32) then (if ((f_Mo_fourAt u mp (k0 + (20 : Int32))) - (f_Mo_fourAt u mp (k0 + (20 : Int32))) / (64 : Int32) * (64 : Int32)) = 0 then (if (f_Mo_fourAt u mp (k0 + (20 : Int32))) < (64 : Int32) then (5 : Int32) else (if (1024 : Int32) < (f_Mo_fourAt u mp (k0 + (20 : Int32))) then (5 : Int32) else (if (f_Mo_fourAt u mp (k0 + (20 : Int32))) < (f_Mo_fourAt u mp (k0 + (16 : Int32))) then (5 : Int32) else (if ((f_Mo_fourAt u mp (k0 + (8 : Int32))).toInt64 + (f_Mo_fourAt u mp (k0 + (20 : Int32))).toInt64) ≤ (2147483648 : Int64) then (if (f_Mo_fourAt u mp (k0 + (24 : Int32))) < 0 then (6 : Int32) else (if (f_Mo_fourAt u mp (k0 + (24 : Int32))) ≤ (7 : Int32) then (if (f_Mo_fourAt u mp (k0 + (28 : Int32))) = (64 : Int32) then (8 : Int32) else (7 : Int32)) else (6 : Int32))) else (5 : Int32))))) else (5 : Int32)) else (4 : Int32)) else (4 : Int32))) else (3 : Int32)) else (2 : Int32))) else (1 : Int32)) else (0 : Int32)) else (if (f_Mo_fourAt u mp k0) = (4 : Int32) then (if k2 ≤ (f_Mo_fourAt u mp (k0 + (4 : Int32))) then (if (f_Mo_fourAt u mp (k0 + (8 : Int32))) = 0 then (if (f_Mo_fourAt u mp (k0 + (12 : Int32))) = 0 then (if (f_Mo_fourAt u mp (k0 + (16 : Int32))) < 0 then (4 : Int32) else (if (f_Mo_fourAt u mp (k0 + (20 : Int32))) = (f_Mo_fourAt u mp (k0 + (16 : Int32))) then (if (f_Mo_fourAt u mp (k0 + (24 : Int32))) = 0 then (if (f_Mo_fourAt u mp (k0 + (28 : Int32))) = (4 : Int32) then (8 : Int32) else (7 : Int32)) else (6 : Int32)) else (5 : Int32))) else (3 : Int32)) else (2 : Int32)) else (1 : Int32)) else (0 : Int32)))
def o_Mo_badField (u : cd_Mo) (mp : cd_By) (k0 : Int32) (k1 : Int32) (k2 : Int32) : Prop := (o_Mo_fourAt u mp (k0 + (8 : Int32))) ∧ (o_Mo_fourAt u mp (k0 + (16 : Int32))) ∧ (o_Mo_fourAt u mp (k0 + (20 : Int32))) ∧ (o_Mo_fourAt u mp (k0 + (24 : Int32))) ∧ (o_Mo_fourAt u mp k0) ∧ (k1 = 0 → (f_Mo_fourAt u mp k0) = (1 : Int32) → o_Mo_fourAt u mp (k0 + (4 : Int32))) ∧ (k1 = 0 → (f_Mo_fourAt u mp k0) = (1 : Int32) → k2 ≤ (f_Mo_fourAt u mp (k0 + (4 : Int32))) → ¬ (f_Mo_fourAt u mp (k0 + (8 : Int32))) < 0 → ((f_Mo_fourAt u mp (k0 + (8 : Int32))) - (f_Mo_fourAt u mp (k0 + (8 : Int32))) / (64 : Int32) * (64 : Int32)) = 0 → o_Mo_fourAt u mp (k0 + (12 : Int32))) ∧ (k1 = 0 → (f_Mo_fourAt u mp k0) = (1 : Int32) → k2 ≤ (f_Mo_fourAt u mp (k0 + (4 : Int32))) → ¬ (f_Mo_fourAt u mp (k0 + (8 : Int32))) < 0 → ((f_Mo_fourAt u mp (k0 + (8 : Int32))) - (f_Mo_fourAt u mp (k0 + (8 : Int32))) / (64 : Int32) * (64 : Int32)) = 0 → (f_Mo_fourAt u mp (k0 + (12 : Int32))) = 0 → ¬ (f_Mo_fourAt u mp (k0 + (16 : Int32))) < 0 → ((f_Mo_fourAt u mp (k0 + (16 : Int32))) - (f_Mo_fourAt u mp (k0 + (16 : Int32))) / (64 : Int32) * (64 : Int32)) = 0 → (f_Mo_fourAt u mp (k0 + (16 : Int32))) ≤ (1024 : Int32) → ((f_Mo_fourAt u mp (k0 + (20 : Int32))) - (f_Mo_fourAt u mp (k0 + (20 : Int32))) / (64 : Int32) * (64 : Int32)) = 0 → ¬ (f_Mo_fourAt u mp (k0 + (20 : Int32))) < (64 : Int32) → ¬ (1024 : Int32) < (f_Mo_fourAt u mp (k0 + (20 : Int32))) → ¬ (f_Mo_fourAt u mp (k0 + (20 : Int32))) < (f_Mo_fourAt u mp (k0 + (16 : Int32))) → ((f_Mo_fourAt u mp (k0 + (8 : Int32))).toInt64 + (f_Mo_fourAt u mp (k0 + (20 : Int32))).toInt64) ≤ (2147483648 : Int64) → ¬ (f_Mo_fourAt u mp (k0 + (24 : Int32))) < 0 → (f_Mo_fourAt u mp (k0 + (24 : Int32))) ≤ (7 : Int32) → o_Mo_fourAt u mp (k0 + (28 : Int32))) ∧ (¬ k1 = 0 → (f_Mo_fourAt u mp k0) = (4 : Int32) → o_Mo_fourAt u mp (k0 + (4 : Int32))) ∧ (¬ k1 = 0 → (f_Mo_fourAt u mp k0) = (4 : Int32) → k2 ≤ (f_Mo_fourAt u mp (k0 + (4 : Int32))) → (f_Mo_fourAt u mp (k0 + (8 : Int32))) = 0 → o_Mo_fourAt u mp (k0 + (12 : Int32))) ∧ (¬ k1 = 0 → (f_Mo_fourAt u mp k0) = (4 : Int32) → k2 ≤ (f_Mo_fourAt u mp (k0 + (4 : Int32))) → (f_Mo_fourAt u mp (k0 + (8 : Int32))) = 0 → (f_Mo_fourAt u mp (k0 + (12 : Int32))) = 0 → ¬ (f_Mo_fourAt u mp (k0 + (16 : Int32))) < 0 → (f_Mo_fourAt u mp (k0 + (20 : Int32))) = (f_Mo_fourAt u mp (k0 + (16 : Int32))) → (f_Mo_fourAt u mp (k0 + (24 : Int32))) = 0 → o_Mo_fourAt u mp (k0 + (28 : Int32)))
set_option maxHeartbeats 4000000 in
set_option maxRecDepth 100000 in
theorem c_Mo_badField (l : Launch) (D : va_G) (tt : Nat → ClassId) (ad : Nat → Nat) (N : Nat) (A : Nat → Prop) (zs : Nat → Nat) (w0 : Nat → va_E) (q : Nat) (u : cd_Mo) (mp : cd_By) (k0 : Int32) (k1 : Int32) (k2 : Int32) (hR0 : cd_MoAt N tt ad w0 q u) (hR1 : cd_ByAt N tt ad w0 (q + 10) 8192 mp) (ho : o_Mo_badField u mp k0 k1 k2) : Met l y_Mo_badField w_Mo_badField ({ frames := 2, cells := 0, slots := 0, locals := 42 }) (va_Pc [.ref (ad q), .int k0, .int k1, .int k2] (cd_U D tt ad N A zs w0)) (va_Qi (fun r w' => (f_Mo_badField u mp k0 k1 k2) = r ∧ w0 = w') (fun w' t => cd_P D ad N A w' t.heap) A) 0 0 A := by
  refine Met.ofW (cc := b_Mo_badField) (maxL := 8) (ret := (some .int)) (by decide) rfl ?_
  intro p e s m args below meth c s₁ B hml hv
  obtain ⟨rfl, hP, hK, hZ⟩ := hv
  have hx := B.exec
  have hb := B.bytes
  have hr := B.returns
  have hA : ∀ w ∈ cd_AW, w.before _ s = true := fun w h => atoms_spec (ws := w_Mo_badField) B.pre w (List.mem_cons_of_mem _ h)
  have hown : s.vm.findClass R_Mo = some m.cls := findClass_of_methodNamed B.named
  have hlocks := B.notSynchronized
  have hS : va_S A s.heap s.heap [] := va_S.rf
  have hl := lv_entry ([.ref (ad q), .int k0, .int k1, .int k2]) (n := 8) (Nat.le_of_ble_eq_true rfl)
  rw [lg_entry_eq]
  generalize (lg_sl ([.ref (ad q), .int k0, .int k1, .int k2]) ++ List.replicate (8 - (lg_sl ([.ref (ad q), .int k0, .int k1, .int k2])).length) Slot.unset).toArray = ls at hl ⊢
  have hl : lv_has ls 8 [(0, .ref (ad q)), (1, .int k0), (2, .int k1), (3, .int k2)] := hl
  have ho : (o_Mo_fourAt u mp (k0 + (8 : Int32))) ∧ (o_Mo_fourAt u mp (k0 + (16 : Int32))) ∧ (o_Mo_fourAt u mp (k0 + (20 : Int32))) ∧ (o_Mo_fourAt u mp (k0 + (24 : Int32))) ∧ (o_Mo_fourAt u mp k0) ∧ (k1 = 0 → (f_Mo_fourAt u mp k0) = (1 : Int32) → o_Mo_fourAt u mp (k0 + (4 : Int32))) ∧ (k1 = 0 → (f_Mo_fourAt u mp k0) = (1 : Int32) → k2 ≤ (f_Mo_fourAt u mp (k0 + (4 : Int32))) → ¬ (f_Mo_fourAt u mp (k0 + (8 : Int32))) < 0 → ((f_Mo_fourAt u mp (k0 + (8 : Int32))) - (f_Mo_fourAt u mp (k0 + (8 : Int32))) / (64 : Int32) * (64 : Int32)) = 0 → o_Mo_fourAt u mp (k0 + (12 : Int32))) ∧ (k1 = 0 → (f_Mo_fourAt u mp k0) = (1 : Int32) → k2 ≤ (f_Mo_fourAt u mp (k0 + (4 : Int32))) → ¬ (f_Mo_fourAt u mp (k0 + (8 : Int32))) < 0 → ((f_Mo_fourAt u mp (k0 + (8 : Int32))) - (f_Mo_fourAt u mp (k0 + (8 : Int32))) / (64 : Int32) * (64 : Int32)) = 0 → (f_Mo_fourAt u mp (k0 + (12 : Int32))) = 0 → ¬ (f_Mo_fourAt u mp (k0 + (16 : Int32))) < 0 → ((f_Mo_fourAt u mp (k0 + (16 : Int32))) - (f_Mo_fourAt u mp (k0 + (16 : Int32))) / (64 : Int32) * (64 : Int32)) = 0 → (f_Mo_fourAt u mp (k0 + (16 : Int32))) ≤ (1024 : Int32) → ((f_Mo_fourAt u mp (k0 + (20 : Int32))) - (f_Mo_fourAt u mp (k0 + (20 : Int32))) / (64 : Int32) * (64 : Int32)) = 0 → ¬ (f_Mo_fourAt u mp (k0 + (20 : Int32))) < (64 : Int32) → ¬ (1024 : Int32) < (f_Mo_fourAt u mp (k0 + (20 : Int32))) → ¬ (f_Mo_fourAt u mp (k0 + (20 : Int32))) < (f_Mo_fourAt u mp (k0 + (16 : Int32))) → ((f_Mo_fourAt u mp (k0 + (8 : Int32))).toInt64 + (f_Mo_fourAt u mp (k0 + (20 : Int32))).toInt64) ≤ (2147483648 : Int64) → ¬ (f_Mo_fourAt u mp (k0 + (24 : Int32))) < 0 → (f_Mo_fourAt u mp (k0 + (24 : Int32))) ≤ (7 : Int32) → o_Mo_fourAt u mp (k0 + (28 : Int32))) ∧ (¬ k1 = 0 → (f_Mo_fourAt u mp k0) = (4 : Int32) → o_Mo_fourAt u mp (k0 + (4 : Int32))) ∧ (¬ k1 = 0 → (f_Mo_fourAt u mp k0) = (4 : Int32) → k2 ≤ (f_Mo_fourAt u mp (k0 + (4 : Int32))) → (f_Mo_fourAt u mp (k0 + (8 : Int32))) = 0 → o_Mo_fourAt u mp (k0 + (12 : Int32))) ∧ (¬ k1 = 0 → (f_Mo_fourAt u mp k0) = (4 : Int32) → k2 ≤ (f_Mo_fourAt u mp (k0 + (4 : Int32))) → (f_Mo_fourAt u mp (k0 + (8 : Int32))) = 0 → (f_Mo_fourAt u mp (k0 + (12 : Int32))) = 0 → ¬ (f_Mo_fourAt u mp (k0 + (16 : Int32))) < 0 → (f_Mo_fourAt u mp (k0 + (20 : Int32))) = (f_Mo_fourAt u mp (k0 + (16 : Int32))) → (f_Mo_fourAt u mp (k0 + (24 : Int32))) = 0 → o_Mo_fourAt u mp (k0 + (28 : Int32))) := ho
  obtain ⟨hn1, fa2⟩ := hR0
  refine lv_aload_n hx hb d_Mo_badField_0 rfl (lv_at hl 0 rfl) ?_
  refine lv_iload_n hx hb d_Mo_badField_1 rfl (lv_at hl 1 rfl) ?_
  refine lv_bipush (v := (8 : Int32)) hx hb d_Mo_badField_2 (by decide) ?_
  refine lv_iadd hx hb d_Mo_badField_4 ?_
  refine va_calli (va_runV (As := [.int (k0 + (8 : Int32))]) (rest := []) ⟨hx, hb, hml, hown, hA⟩ (c_Mo_fourAt l D tt ad N A zs w0 q u mp (k0 + (8 : Int32)) (⟨hn1, fa2⟩) hR1 (ho.1)) (cwV 1 hA (cd_gV aw_699 aw_700 aw_800 aw_8 aw_701) rfl rfl rfl ⟨rfl, by decide, by decide, by decide +kernel⟩ ⟨Nat.le_of_ble_eq_true rfl, Nat.le_of_ble_eq_true rfl⟩) ⟨cd_blind, cd_recv hK hP (k := q) (by omega) fa2 rfl, fun U hU hW => ⟨rfl, cd_pre hK hP hZ hS U hU hW⟩⟩ rfl rfl hl.1 rfl (lv_room (Nat.le_of_ble_eq_true rfl)) d_Mo_badField_5 ⟨Nat.zero_le _, Nat.zero_le _⟩) hS (fun _ _ h => h) (fun _ h => h) (fun r3 w1 tE H locs ht hvm hr4 hP hz1 hk1 hS => ?_)
  have hP := cd_Pf ht hP
  obtain ⟨rfl, rfl⟩ := hr4
  refine lv_istore (lv' := [(4, .int (f_Mo_fourAt u mp (k0 + (8 : Int32)))), (0, .ref (ad q)), (1, .int k0), (2, .int k1), (3, .int k2)]) hx hb d_Mo_badField_8 hl (by decide) rfl (fun ls hl => ?_)
  refine lv_aload_n hx hb d_Mo_badField_10 rfl (lv_at hl 1 rfl) ?_
  refine lv_iload_n hx hb d_Mo_badField_11 rfl (lv_at hl 2 rfl) ?_
  refine lv_bipush (v := (16 : Int32)) hx hb d_Mo_badField_12 (by decide) ?_
  refine lv_iadd hx hb d_Mo_badField_14 ?_
  refine va_calli (va_runV (As := [.int (k0 + (16 : Int32))]) (rest := []) ⟨hx, hb, hml, hown, hA⟩ (c_Mo_fourAt l D tt ad N A zs w0 q u mp (k0 + (16 : Int32)) (⟨hn1, fa2⟩) hR1 (ho.2.1)) (cwV 1 hA (cd_gV aw_699 aw_700 aw_800 aw_8 aw_701) rfl rfl rfl ⟨rfl, by decide, by decide, by decide +kernel⟩ ⟨Nat.le_of_ble_eq_true rfl, Nat.le_of_ble_eq_true rfl⟩) ⟨cd_blind, cd_recv hK hP (k := q) (by omega) fa2 rfl, fun U hU hW => ⟨rfl, cd_pre hK hP hZ hS U hU hW⟩⟩ rfl rfl hl.1 rfl (lv_room (Nat.le_of_ble_eq_true rfl)) d_Mo_badField_15 ⟨Nat.zero_le _, Nat.zero_le _⟩) hS (fun _ _ h => h) (fun _ h => h) (fun r6 w2 tE H locs ht hvm hr7 hP hz1 hk1 hS => ?_)
  have hP := cd_Pf ht hP
  obtain ⟨rfl, rfl⟩ := hr7
  refine lv_istore (lv' := [(5, .int (f_Mo_fourAt u mp (k0 + (16 : Int32)))), (4, .int (f_Mo_fourAt u mp (k0 + (8 : Int32)))), (0, .ref (ad q)), (1, .int k0), (2, .int k1), (3, .int k2)]) hx hb d_Mo_badField_18 hl (by decide) rfl (fun ls hl => ?_)
  refine lv_aload_n hx hb d_Mo_badField_20 rfl (lv_at hl 2 rfl) ?_
  refine lv_iload_n hx hb d_Mo_badField_21 rfl (lv_at hl 3 rfl) ?_
  refine lv_bipush (v := (20 : Int32)) hx hb d_Mo_badField_22 (by decide) ?_
  refine lv_iadd hx hb d_Mo_badField_24 ?_
  refine va_calli (va_runV (As := [.int (k0 + (20 : Int32))]) (rest := []) ⟨hx, hb, hml, hown, hA⟩ (c_Mo_fourAt l D tt ad N A zs w0 q u mp (k0 + (20 : Int32)) (⟨hn1, fa2⟩) hR1 (ho.2.2.1)) (cwV 1 hA (cd_gV aw_699 aw_700 aw_800 aw_8 aw_701) rfl rfl rfl ⟨rfl, by decide, by decide, by decide +kernel⟩ ⟨Nat.le_of_ble_eq_true rfl, Nat.le_of_ble_eq_true rfl⟩) ⟨cd_blind, cd_recv hK hP (k := q) (by omega) fa2 rfl, fun U hU hW => ⟨rfl, cd_pre hK hP hZ hS U hU hW⟩⟩ rfl rfl hl.1 rfl (lv_room (Nat.le_of_ble_eq_true rfl)) d_Mo_badField_25 ⟨Nat.zero_le _, Nat.zero_le _⟩) hS (fun _ _ h => h) (fun _ h => h) (fun r9 w3 tE H locs ht hvm hr10 hP hz1 hk1 hS => ?_)
  have hP := cd_Pf ht hP
  obtain ⟨rfl, rfl⟩ := hr10
  refine lv_istore (lv' := [(6, .int (f_Mo_fourAt u mp (k0 + (20 : Int32)))), (5, .int (f_Mo_fourAt u mp (k0 + (16 : Int32)))), (4, .int (f_Mo_fourAt u mp (k0 + (8 : Int32)))), (0, .ref (ad q)), (1, .int k0), (2, .int k1), (3, .int k2)]) hx hb d_Mo_badField_28 hl (by decide) rfl (fun ls hl => ?_)
  refine lv_aload_n hx hb d_Mo_badField_30 rfl (lv_at hl 3 rfl) ?_
  refine lv_iload_n hx hb d_Mo_badField_31 rfl (lv_at hl 4 rfl) ?_
  refine lv_bipush (v := (24 : Int32)) hx hb d_Mo_badField_32 (by decide) ?_
  refine lv_iadd hx hb d_Mo_badField_34 ?_
  refine va_calli (va_runV (As := [.int (k0 + (24 : Int32))]) (rest := []) ⟨hx, hb, hml, hown, hA⟩ (c_Mo_fourAt l D tt ad N A zs w0 q u mp (k0 + (24 : Int32)) (⟨hn1, fa2⟩) hR1 (ho.2.2.2.1)) (cwV 1 hA (cd_gV aw_699 aw_700 aw_800 aw_8 aw_701) rfl rfl rfl ⟨rfl, by decide, by decide, by decide +kernel⟩ ⟨Nat.le_of_ble_eq_true rfl, Nat.le_of_ble_eq_true rfl⟩) ⟨cd_blind, cd_recv hK hP (k := q) (by omega) fa2 rfl, fun U hU hW => ⟨rfl, cd_pre hK hP hZ hS U hU hW⟩⟩ rfl rfl hl.1 rfl (lv_room (Nat.le_of_ble_eq_true rfl)) d_Mo_badField_35 ⟨Nat.zero_le _, Nat.zero_le _⟩) hS (fun _ _ h => h) (fun _ h => h) (fun r12 w4 tE H locs ht hvm hr13 hP hz1 hk1 hS => ?_)
  have hP := cd_Pf ht hP
  obtain ⟨rfl, rfl⟩ := hr13
  refine lv_istore (lv' := [(7, .int (f_Mo_fourAt u mp (k0 + (24 : Int32)))), (6, .int (f_Mo_fourAt u mp (k0 + (20 : Int32)))), (5, .int (f_Mo_fourAt u mp (k0 + (16 : Int32)))), (4, .int (f_Mo_fourAt u mp (k0 + (8 : Int32)))), (0, .ref (ad q)), (1, .int k0), (2, .int k1), (3, .int k2)]) hx hb d_Mo_badField_38 hl (by decide) rfl (fun ls hl => ?_)
  refine lv_aload_n hx hb d_Mo_badField_40 rfl (lv_at hl 4 rfl) ?_
  refine lv_iload_n hx hb d_Mo_badField_41 rfl (lv_at hl 5 rfl) ?_
  refine va_calli (va_runV (As := [.int k0]) (rest := []) ⟨hx, hb, hml, hown, hA⟩ (c_Mo_fourAt l D tt ad N A zs w0 q u mp k0 (⟨hn1, fa2⟩) hR1 (ho.2.2.2.2.1)) (cwV 1 hA (cd_gV aw_699 aw_700 aw_800 aw_8 aw_701) rfl rfl rfl ⟨rfl, by decide, by decide, by decide +kernel⟩ ⟨Nat.le_of_ble_eq_true rfl, Nat.le_of_ble_eq_true rfl⟩) ⟨cd_blind, cd_recv hK hP (k := q) (by omega) fa2 rfl, fun U hU hW => ⟨rfl, cd_pre hK hP hZ hS U hU hW⟩⟩ rfl rfl hl.1 rfl (lv_room (Nat.le_of_ble_eq_true rfl)) d_Mo_badField_42 ⟨Nat.zero_le _, Nat.zero_le _⟩) hS (fun _ _ h => h) (fun _ h => h) (fun r15 w5 tE H locs ht hvm hr16 hP hz1 hk1 hS => ?_)
  have hP := cd_Pf ht hP
  obtain ⟨rfl, rfl⟩ := hr16
  refine lv_iload_n hx hb d_Mo_badField_45 rfl (lv_at hl 6 rfl) ?_
  refine lv_if_eq (tgt := 53) hx hb d_Mo_badField_46 (by decide) (fun hc18 => ?_) (fun hc18 => ?_)
  · refine lv_iconst (v := (1 : Int32)) hx hb d_Mo_badField_53 (by decide) ?_
    refine lv_icmp_eq (tgt := 59) hx hb d_Mo_badField_54 (by decide) (fun hc19 => ?_) (fun hc19 => ?_)
    · refine lv_aload_n hx hb d_Mo_badField_59 rfl (lv_at hl 4 rfl) ?_
      refine lv_iload_n hx hb d_Mo_badField_60 rfl (lv_at hl 5 rfl) ?_
      refine lv_iconst (v := (4 : Int32)) hx hb d_Mo_badField_61 (by decide) ?_
      refine lv_iadd hx hb d_Mo_badField_62 ?_
      refine va_calli (va_runV (As := [.int (k0 + (4 : Int32))]) (rest := []) ⟨hx, hb, hml, hown, hA⟩ (c_Mo_fourAt l D tt ad N A zs w0 q u mp (k0 + (4 : Int32)) (⟨hn1, fa2⟩) hR1 (ho.2.2.2.2.2.1 hc18 hc19)) (cwV 1 hA (cd_gV aw_699 aw_700 aw_800 aw_8 aw_701) rfl rfl rfl ⟨rfl, by decide, by decide, by decide +kernel⟩ ⟨Nat.le_of_ble_eq_true rfl, Nat.le_of_ble_eq_true rfl⟩) ⟨cd_blind, cd_recv hK hP (k := q) (by omega) fa2 rfl, fun U hU hW => ⟨rfl, cd_pre hK hP hZ hS U hU hW⟩⟩ rfl rfl hl.1 rfl (lv_room (Nat.le_of_ble_eq_true rfl)) d_Mo_badField_63 ⟨Nat.zero_le _, Nat.zero_le _⟩) hS (fun _ _ h => h) (fun _ h => h) (fun r20 w6 tE H locs ht hvm hr21 hP hz1 hk1 hS => ?_)
      have hP := cd_Pf ht hP
      obtain ⟨rfl, rfl⟩ := hr21
      refine lv_iload_n hx hb d_Mo_badField_66 rfl (lv_at hl 7 rfl) ?_
      refine lv_icmp_ge (tgt := 72) hx hb d_Mo_badField_67 (by decide) (fun hc23 => ?_) (fun hc23 => ?_)
      · refine lv_iload_n hx hb d_Mo_badField_72 rfl (lv_at hl 6 rfl) ?_
        refine lv_if_eq (tgt := 84) hx hb d_Mo_badField_73 (by decide) (fun _ => ?_) (fun h9 => absurd hc18 h9)
        refine lv_iload hx hb d_Mo_badField_84 (lv_at hl 3 rfl) ?_
        refine lv_if_lt (tgt := 97) hx hb d_Mo_badField_86 (by decide) (fun hc25 => ?_) (fun hc25 => ?_)
        · refine lv_iconst (v := (2 : Int32)) hx hb d_Mo_badField_97 (by decide) ?_
          have hf26 : (f_Mo_badField u mp k0 k1 k2) = (2 : Int32) := by rw [f_Mo_badField, if_pos hc18, if_pos hc19, if_pos hc23, if_pos hc25]
          exact W.iret (v := (2 : Int32)) hx hb hr (fun tE ht _ => ⟨⟨_, w0, rfl, ⟨hf26, rfl⟩, cd_Pt ht hP⟩, hS.F ht⟩) hS.2.2 d_Mo_badField_98
        · refine lv_iload hx hb d_Mo_badField_89 (lv_at hl 3 rfl) ?_
          refine lv_bipush (v := (64 : Int32)) hx hb d_Mo_badField_91 (by decide) ?_
          refine lv_irem hx hb d_Mo_badField_93 (by decide) ?_
          refine lv_if_eq (tgt := 99) hx hb d_Mo_badField_94 (by decide) (fun hc27 => ?_) (fun hc27 => ?_)
          · refine lv_aload_n hx hb d_Mo_badField_99 rfl (lv_at hl 4 rfl) ?_
            refine lv_iload_n hx hb d_Mo_badField_100 rfl (lv_at hl 5 rfl) ?_
            refine lv_bipush (v := (12 : Int32)) hx hb d_Mo_badField_101 (by decide) ?_
            refine lv_iadd hx hb d_Mo_badField_103 ?_
            refine va_calli (va_runV (As := [.int (k0 + (12 : Int32))]) (rest := []) ⟨hx, hb, hml, hown, hA⟩ (c_Mo_fourAt l D tt ad N A zs w0 q u mp (k0 + (12 : Int32)) (⟨hn1, fa2⟩) hR1 (ho.2.2.2.2.2.2.1 hc18 hc19 hc23 hc25 hc27)) (cwV 1 hA (cd_gV aw_699 aw_700 aw_800 aw_8 aw_701) rfl rfl rfl ⟨rfl, by decide, by decide, by decide +kernel⟩ ⟨Nat.le_of_ble_eq_true rfl, Nat.le_of_ble_eq_true rfl⟩) ⟨cd_blind, cd_recv hK hP (k := q) (by omega) fa2 rfl, fun U hU hW => ⟨rfl, cd_pre hK hP hZ hS U hU hW⟩⟩ rfl rfl hl.1 rfl (lv_room (Nat.le_of_ble_eq_true rfl)) d_Mo_badField_104 ⟨Nat.zero_le _, Nat.zero_le _⟩) hS (fun _ _ h => h) (fun _ h => h) (fun r28 w7 tE H locs ht hvm hr29 hP hz1 hk1 hS => ?_)
            have hP := cd_Pf ht hP
            obtain ⟨rfl, rfl⟩ := hr29
            refine lv_if_eq (tgt := 112) hx hb d_Mo_badField_107 (by decide) (fun hc31 => ?_) (fun hc31 => ?_)
            · refine lv_iload hx hb d_Mo_badField_112 (lv_at hl 2 rfl) ?_
              refine lv_if_lt (tgt := 137) hx hb d_Mo_badField_114 (by decide) (fun hc32 => ?_) (fun hc32 => ?_)
              · refine lv_iconst (v := (4 : Int32)) hx hb d_Mo_badField_137 (by decide) ?_
                have hf33 : (f_Mo_badField u mp k0 k1 k2) = (4 : Int32) := by rw [f_Mo_badField, if_pos hc18, if_pos hc19, if_pos hc23, if_neg hc25, if_pos hc27, if_pos hc31, if_pos hc32]
                exact W.iret (v := (4 : Int32)) hx hb hr (fun tE ht _ => ⟨⟨_, w0, rfl, ⟨hf33, rfl⟩, cd_Pt ht hP⟩, hS.F ht⟩) hS.2.2 d_Mo_badField_138
              · refine lv_iload_n hx hb d_Mo_badField_117 rfl (lv_at hl 6 rfl) ?_
                refine lv_if_ne (tgt := 139) hx hb d_Mo_badField_118 (by decide) (fun h9 => absurd hc18 h9) (fun _ => ?_)
                refine lv_iload hx hb d_Mo_badField_121 (lv_at hl 2 rfl) ?_
                refine lv_bipush (v := (64 : Int32)) hx hb d_Mo_badField_123 (by decide) ?_
                refine lv_irem hx hb d_Mo_badField_125 (by decide) ?_
                refine lv_if_ne (tgt := 137) hx hb d_Mo_badField_126 (by decide) (fun hc35 => ?_) (fun hc35 => ?_)
                · refine lv_iconst (v := (4 : Int32)) hx hb d_Mo_badField_137 (by decide) ?_
                  have hf36 : (f_Mo_badField u mp k0 k1 k2) = (4 : Int32) := by rw [f_Mo_badField, if_pos hc18, if_pos hc19, if_pos hc23, if_neg hc25, if_pos hc27, if_pos hc31, if_neg hc32, if_neg hc35]
                  exact W.iret (v := (4 : Int32)) hx hb hr (fun tE ht _ => ⟨⟨_, w0, rfl, ⟨hf36, rfl⟩, cd_Pt ht hP⟩, hS.F ht⟩) hS.2.2 d_Mo_badField_138
                · refine lv_iload hx hb d_Mo_badField_129 (lv_at hl 2 rfl) ?_
                  refine lv_sipush (v := (1024 : Int32)) hx hb d_Mo_badField_131 (by decide) ?_
                  refine lv_icmp_le (tgt := 139) hx hb d_Mo_badField_134 (by decide) (fun hc37 => ?_) (fun hc37 => ?_)
                  · refine lv_iload_n hx hb d_Mo_badField_139 rfl (lv_at hl 6 rfl) ?_
                    refine lv_if_eq (tgt := 153) hx hb d_Mo_badField_140 (by decide) (fun _ => ?_) (fun h9 => absurd hc18 h9)
                    refine lv_iload hx hb d_Mo_badField_153 (lv_at hl 1 rfl) ?_
                    refine lv_bipush (v := (64 : Int32)) hx hb d_Mo_badField_155 (by decide) ?_
                    refine lv_irem hx hb d_Mo_badField_157 (by decide) ?_
                    refine lv_if_ne (tgt := 197) hx hb d_Mo_badField_158 (by decide) (fun hc39 => ?_) (fun hc39 => ?_)
                    · refine lv_iconst (v := (5 : Int32)) hx hb d_Mo_badField_197 (by decide) ?_
                      have hf40 : (f_Mo_badField u mp k0 k1 k2) = (5 : Int32) := by rw [f_Mo_badField, if_pos hc18, if_pos hc19, if_pos hc23, if_neg hc25, if_pos hc27, if_pos hc31, if_neg hc32, if_pos hc35, if_pos hc37, if_neg hc39]
                      exact W.iret (v := (5 : Int32)) hx hb hr (fun tE ht _ => ⟨⟨_, w0, rfl, ⟨hf40, rfl⟩, cd_Pt ht hP⟩, hS.F ht⟩) hS.2.2 d_Mo_badField_198
                    · refine lv_iload hx hb d_Mo_badField_161 (lv_at hl 1 rfl) ?_
                      refine lv_bipush (v := (64 : Int32)) hx hb d_Mo_badField_163 (by decide) ?_
                      refine lv_icmp_lt (tgt := 197) hx hb d_Mo_badField_165 (by decide) (fun hc41 => ?_) (fun hc41 => ?_)
                      · refine lv_iconst (v := (5 : Int32)) hx hb d_Mo_badField_197 (by decide) ?_
                        have hf42 : (f_Mo_badField u mp k0 k1 k2) = (5 : Int32) := by rw [f_Mo_badField, if_pos hc18, if_pos hc19, if_pos hc23, if_neg hc25, if_pos hc27, if_pos hc31, if_neg hc32, if_pos hc35, if_pos hc37, if_pos hc39, if_pos hc41]
                        exact W.iret (v := (5 : Int32)) hx hb hr (fun tE ht _ => ⟨⟨_, w0, rfl, ⟨hf42, rfl⟩, cd_Pt ht hP⟩, hS.F ht⟩) hS.2.2 d_Mo_badField_198
                      · refine lv_iload hx hb d_Mo_badField_168 (lv_at hl 1 rfl) ?_
                        refine lv_sipush (v := (1024 : Int32)) hx hb d_Mo_badField_170 (by decide) ?_
                        refine lv_icmp_gt (tgt := 197) hx hb d_Mo_badField_173 (by decide) (fun hc43 => ?_) (fun hc43 => ?_)
                        · refine lv_iconst (v := (5 : Int32)) hx hb d_Mo_badField_197 (by decide) ?_
                          have hf44 : (f_Mo_badField u mp k0 k1 k2) = (5 : Int32) := by rw [f_Mo_badField, if_pos hc18, if_pos hc19, if_pos hc23, if_neg hc25, if_pos hc27, if_pos hc31, if_neg hc32, if_pos hc35, if_pos hc37, if_pos hc39, if_neg hc41, if_pos hc43]
                          exact W.iret (v := (5 : Int32)) hx hb hr (fun tE ht _ => ⟨⟨_, w0, rfl, ⟨hf44, rfl⟩, cd_Pt ht hP⟩, hS.F ht⟩) hS.2.2 d_Mo_badField_198
                        · refine lv_iload hx hb d_Mo_badField_176 (lv_at hl 1 rfl) ?_
                          refine lv_iload hx hb d_Mo_badField_178 (lv_at hl 2 rfl) ?_
                          refine lv_icmp_lt (tgt := 197) hx hb d_Mo_badField_180 (by decide) (fun hc45 => ?_) (fun hc45 => ?_)
                          · refine lv_iconst (v := (5 : Int32)) hx hb d_Mo_badField_197 (by decide) ?_
                            have hf46 : (f_Mo_badField u mp k0 k1 k2) = (5 : Int32) := by rw [f_Mo_badField, if_pos hc18, if_pos hc19, if_pos hc23, if_neg hc25, if_pos hc27, if_pos hc31, if_neg hc32, if_pos hc35, if_pos hc37, if_pos hc39, if_neg hc41, if_neg hc43, if_pos hc45]
                            exact W.iret (v := (5 : Int32)) hx hb hr (fun tE ht _ => ⟨⟨_, w0, rfl, ⟨hf46, rfl⟩, cd_Pt ht hP⟩, hS.F ht⟩) hS.2.2 d_Mo_badField_198
                          · refine lv_iload hx hb d_Mo_badField_183 (lv_at hl 3 rfl) ?_
                            refine lv_i2l hx hb d_Mo_badField_185 rfl ?_
                            refine lv_iload hx hb d_Mo_badField_186 (lv_at hl 1 rfl) ?_
                            refine lv_i2l hx hb d_Mo_badField_188 rfl ?_
                            refine lv_ladd hx hb d_Mo_badField_189 ?_
                            refine lv_ldc2 (v := (2147483648 : Int64)) hx hb hown (hA _ aw_600) d_Mo_badField_190 ?_
                            refine g_lif_le (tgt := 199) hx hb d_Mo_badField_193 d_Mo_badField_194 (by decide) (fun hc47 => ?_) (fun hc47 => ?_)
                            · refine lv_iload_n hx hb d_Mo_badField_199 rfl (lv_at hl 6 rfl) ?_
                              refine lv_if_eq (tgt := 211) hx hb d_Mo_badField_200 (by decide) (fun _ => ?_) (fun h9 => absurd hc18 h9)
                              refine lv_iload hx hb d_Mo_badField_211 (lv_at hl 0 rfl) ?_
                              refine lv_if_lt (tgt := 223) hx hb d_Mo_badField_213 (by decide) (fun hc49 => ?_) (fun hc49 => ?_)
                              · refine lv_bipush (v := (6 : Int32)) hx hb d_Mo_badField_223 (by decide) ?_
                                have hf50 : (f_Mo_badField u mp k0 k1 k2) = (6 : Int32) := by rw [f_Mo_badField, if_pos hc18, if_pos hc19, if_pos hc23, if_neg hc25, if_pos hc27, if_pos hc31, if_neg hc32, if_pos hc35, if_pos hc37, if_pos hc39, if_neg hc41, if_neg hc43, if_neg hc45, if_pos hc47, if_pos hc49]
                                exact W.iret (v := (6 : Int32)) hx hb hr (fun tE ht _ => ⟨⟨_, w0, rfl, ⟨hf50, rfl⟩, cd_Pt ht hP⟩, hS.F ht⟩) hS.2.2 d_Mo_badField_225
                              · refine lv_iload hx hb d_Mo_badField_216 (lv_at hl 0 rfl) ?_
                                refine lv_bipush (v := (7 : Int32)) hx hb d_Mo_badField_218 (by decide) ?_
                                refine lv_icmp_le (tgt := 226) hx hb d_Mo_badField_220 (by decide) (fun hc51 => ?_) (fun hc51 => ?_)
                                · refine lv_aload_n hx hb d_Mo_badField_226 rfl (lv_at hl 4 rfl) ?_
                                  refine lv_iload_n hx hb d_Mo_badField_227 rfl (lv_at hl 5 rfl) ?_
                                  refine lv_bipush (v := (28 : Int32)) hx hb d_Mo_badField_228 (by decide) ?_
                                  refine lv_iadd hx hb d_Mo_badField_230 ?_
                                  refine va_calli (va_runV (As := [.int (k0 + (28 : Int32))]) (rest := []) ⟨hx, hb, hml, hown, hA⟩ (c_Mo_fourAt l D tt ad N A zs w0 q u mp (k0 + (28 : Int32)) (⟨hn1, fa2⟩) hR1 (ho.2.2.2.2.2.2.2.1 hc18 hc19 hc23 hc25 hc27 hc31 hc32 hc35 hc37 hc39 hc41 hc43 hc45 hc47 hc49 hc51)) (cwV 1 hA (cd_gV aw_699 aw_700 aw_800 aw_8 aw_701) rfl rfl rfl ⟨rfl, by decide, by decide, by decide +kernel⟩ ⟨Nat.le_of_ble_eq_true rfl, Nat.le_of_ble_eq_true rfl⟩) ⟨cd_blind, cd_recv hK hP (k := q) (by omega) fa2 rfl, fun U hU hW => ⟨rfl, cd_pre hK hP hZ hS U hU hW⟩⟩ rfl rfl hl.1 rfl (lv_room (Nat.le_of_ble_eq_true rfl)) d_Mo_badField_231 ⟨Nat.zero_le _, Nat.zero_le _⟩) hS (fun _ _ h => h) (fun _ h => h) (fun r52 w8 tE H locs ht hvm hr53 hP hz1 hk1 hS => ?_)
                                  have hP := cd_Pf ht hP
                                  obtain ⟨rfl, rfl⟩ := hr53
                                  refine lv_iload_n hx hb d_Mo_badField_234 rfl (lv_at hl 6 rfl) ?_
                                  refine lv_if_eq (tgt := 242) hx hb d_Mo_badField_235 (by decide) (fun _ => ?_) (fun h9 => absurd hc18 h9)
                                  refine lv_bipush (v := (64 : Int32)) hx hb d_Mo_badField_242 (by decide) ?_
                                  refine lv_icmp_eq (tgt := 252) hx hb d_Mo_badField_244 (by decide) (fun hc56 => ?_) (fun hc56 => ?_)
                                  · refine lv_bipush (v := (8 : Int32)) hx hb d_Mo_badField_252 (by decide) ?_
                                    have hf57 : (f_Mo_badField u mp k0 k1 k2) = (8 : Int32) := by rw [f_Mo_badField, if_pos hc18, if_pos hc19, if_pos hc23, if_neg hc25, if_pos hc27, if_pos hc31, if_neg hc32, if_pos hc35, if_pos hc37, if_pos hc39, if_neg hc41, if_neg hc43, if_neg hc45, if_pos hc47, if_neg hc49, if_pos hc51, if_pos hc56]
                                    exact W.iret (v := (8 : Int32)) hx hb hr (fun tE ht _ => ⟨⟨_, w0, rfl, ⟨hf57, rfl⟩, cd_Pt ht hP⟩, hS.F ht⟩) hS.2.2 d_Mo_badField_254
                                  · refine lv_bipush (v := (7 : Int32)) hx hb d_Mo_badField_247 (by decide) ?_
                                    refine lv_goto (tgt := 254) hx hb d_Mo_badField_249 (by decide) ?_
                                    have hf58 : (f_Mo_badField u mp k0 k1 k2) = (7 : Int32) := by rw [f_Mo_badField, if_pos hc18, if_pos hc19, if_pos hc23, if_neg hc25, if_pos hc27, if_pos hc31, if_neg hc32, if_pos hc35, if_pos hc37, if_pos hc39, if_neg hc41, if_neg hc43, if_neg hc45, if_pos hc47, if_neg hc49, if_pos hc51, if_neg hc56]
                                    exact W.iret (v := (7 : Int32)) hx hb hr (fun tE ht _ => ⟨⟨_, w0, rfl, ⟨hf58, rfl⟩, cd_Pt ht hP⟩, hS.F ht⟩) hS.2.2 d_Mo_badField_254
                                · refine lv_bipush (v := (6 : Int32)) hx hb d_Mo_badField_223 (by decide) ?_
                                  have hf59 : (f_Mo_badField u mp k0 k1 k2) = (6 : Int32) := by rw [f_Mo_badField, if_pos hc18, if_pos hc19, if_pos hc23, if_neg hc25, if_pos hc27, if_pos hc31, if_neg hc32, if_pos hc35, if_pos hc37, if_pos hc39, if_neg hc41, if_neg hc43, if_neg hc45, if_pos hc47, if_neg hc49, if_neg hc51]
                                  exact W.iret (v := (6 : Int32)) hx hb hr (fun tE ht _ => ⟨⟨_, w0, rfl, ⟨hf59, rfl⟩, cd_Pt ht hP⟩, hS.F ht⟩) hS.2.2 d_Mo_badField_225
                            · refine lv_iconst (v := (5 : Int32)) hx hb d_Mo_badField_197 (by decide) ?_
                              have hf60 : (f_Mo_badField u mp k0 k1 k2) = (5 : Int32) := by rw [f_Mo_badField, if_pos hc18, if_pos hc19, if_pos hc23, if_neg hc25, if_pos hc27, if_pos hc31, if_neg hc32, if_pos hc35, if_pos hc37, if_pos hc39, if_neg hc41, if_neg hc43, if_neg hc45, if_neg hc47]
                              exact W.iret (v := (5 : Int32)) hx hb hr (fun tE ht _ => ⟨⟨_, w0, rfl, ⟨hf60, rfl⟩, cd_Pt ht hP⟩, hS.F ht⟩) hS.2.2 d_Mo_badField_198
                  · refine lv_iconst (v := (4 : Int32)) hx hb d_Mo_badField_137 (by decide) ?_
                    have hf61 : (f_Mo_badField u mp k0 k1 k2) = (4 : Int32) := by rw [f_Mo_badField, if_pos hc18, if_pos hc19, if_pos hc23, if_neg hc25, if_pos hc27, if_pos hc31, if_neg hc32, if_pos hc35, if_neg hc37]
                    exact W.iret (v := (4 : Int32)) hx hb hr (fun tE ht _ => ⟨⟨_, w0, rfl, ⟨hf61, rfl⟩, cd_Pt ht hP⟩, hS.F ht⟩) hS.2.2 d_Mo_badField_138
            · refine lv_iconst (v := (3 : Int32)) hx hb d_Mo_badField_110 (by decide) ?_
              have hf62 : (f_Mo_badField u mp k0 k1 k2) = (3 : Int32) := by rw [f_Mo_badField, if_pos hc18, if_pos hc19, if_pos hc23, if_neg hc25, if_pos hc27, if_neg hc31]
              exact W.iret (v := (3 : Int32)) hx hb hr (fun tE ht _ => ⟨⟨_, w0, rfl, ⟨hf62, rfl⟩, cd_Pt ht hP⟩, hS.F ht⟩) hS.2.2 d_Mo_badField_111
          · refine lv_iconst (v := (2 : Int32)) hx hb d_Mo_badField_97 (by decide) ?_
            have hf63 : (f_Mo_badField u mp k0 k1 k2) = (2 : Int32) := by rw [f_Mo_badField, if_pos hc18, if_pos hc19, if_pos hc23, if_neg hc25, if_neg hc27]
            exact W.iret (v := (2 : Int32)) hx hb hr (fun tE ht _ => ⟨⟨_, w0, rfl, ⟨hf63, rfl⟩, cd_Pt ht hP⟩, hS.F ht⟩) hS.2.2 d_Mo_badField_98
      · refine lv_iconst (v := (1 : Int32)) hx hb d_Mo_badField_70 (by decide) ?_
        have hf64 : (f_Mo_badField u mp k0 k1 k2) = (1 : Int32) := by rw [f_Mo_badField, if_pos hc18, if_pos hc19, if_neg hc23]
        exact W.iret (v := (1 : Int32)) hx hb hr (fun tE ht _ => ⟨⟨_, w0, rfl, ⟨hf64, rfl⟩, cd_Pt ht hP⟩, hS.F ht⟩) hS.2.2 d_Mo_badField_71
    · refine lv_iconst (v := (0 : Int32)) hx hb d_Mo_badField_57 (by decide) ?_
      have hf65 : (f_Mo_badField u mp k0 k1 k2) = (0 : Int32) := by rw [f_Mo_badField, if_pos hc18, if_neg hc19]
      exact W.iret (v := (0 : Int32)) hx hb hr (fun tE ht _ => ⟨⟨_, w0, rfl, ⟨hf65, rfl⟩, cd_Pt ht hP⟩, hS.F ht⟩) hS.2.2 d_Mo_badField_58
  · refine lv_iconst (v := (4 : Int32)) hx hb d_Mo_badField_49 (by decide) ?_
    refine lv_goto (tgt := 54) hx hb d_Mo_badField_50 (by decide) ?_
    refine lv_icmp_eq (tgt := 59) hx hb d_Mo_badField_54 (by decide) (fun hc66 => ?_) (fun hc66 => ?_)
    · refine lv_aload_n hx hb d_Mo_badField_59 rfl (lv_at hl 4 rfl) ?_
      refine lv_iload_n hx hb d_Mo_badField_60 rfl (lv_at hl 5 rfl) ?_
      refine lv_iconst (v := (4 : Int32)) hx hb d_Mo_badField_61 (by decide) ?_
      refine lv_iadd hx hb d_Mo_badField_62 ?_
      refine va_calli (va_runV (As := [.int (k0 + (4 : Int32))]) (rest := []) ⟨hx, hb, hml, hown, hA⟩ (c_Mo_fourAt l D tt ad N A zs w0 q u mp (k0 + (4 : Int32)) (⟨hn1, fa2⟩) hR1 (ho.2.2.2.2.2.2.2.2.1 hc18 hc66)) (cwV 1 hA (cd_gV aw_699 aw_700 aw_800 aw_8 aw_701) rfl rfl rfl ⟨rfl, by decide, by decide, by decide +kernel⟩ ⟨Nat.le_of_ble_eq_true rfl, Nat.le_of_ble_eq_true rfl⟩) ⟨cd_blind, cd_recv hK hP (k := q) (by omega) fa2 rfl, fun U hU hW => ⟨rfl, cd_pre hK hP hZ hS U hU hW⟩⟩ rfl rfl hl.1 rfl (lv_room (Nat.le_of_ble_eq_true rfl)) d_Mo_badField_63 ⟨Nat.zero_le _, Nat.zero_le _⟩) hS (fun _ _ h => h) (fun _ h => h) (fun r67 w9 tE H locs ht hvm hr68 hP hz1 hk1 hS => ?_)
      have hP := cd_Pf ht hP
      obtain ⟨rfl, rfl⟩ := hr68
      refine lv_iload_n hx hb d_Mo_badField_66 rfl (lv_at hl 7 rfl) ?_
      refine lv_icmp_ge (tgt := 72) hx hb d_Mo_badField_67 (by decide) (fun hc70 => ?_) (fun hc70 => ?_)
      · refine lv_iload_n hx hb d_Mo_badField_72 rfl (lv_at hl 6 rfl) ?_
        refine lv_if_eq (tgt := 84) hx hb d_Mo_badField_73 (by decide) (fun h9 => absurd h9 hc18) (fun _ => ?_)
        refine lv_iload hx hb d_Mo_badField_76 (lv_at hl 3 rfl) ?_
        refine lv_if_eq (tgt := 99) hx hb d_Mo_badField_78 (by decide) (fun hc72 => ?_) (fun hc72 => ?_)
        · refine lv_aload_n hx hb d_Mo_badField_99 rfl (lv_at hl 4 rfl) ?_
          refine lv_iload_n hx hb d_Mo_badField_100 rfl (lv_at hl 5 rfl) ?_
          refine lv_bipush (v := (12 : Int32)) hx hb d_Mo_badField_101 (by decide) ?_
          refine lv_iadd hx hb d_Mo_badField_103 ?_
          refine va_calli (va_runV (As := [.int (k0 + (12 : Int32))]) (rest := []) ⟨hx, hb, hml, hown, hA⟩ (c_Mo_fourAt l D tt ad N A zs w0 q u mp (k0 + (12 : Int32)) (⟨hn1, fa2⟩) hR1 (ho.2.2.2.2.2.2.2.2.2.1 hc18 hc66 hc70 hc72)) (cwV 1 hA (cd_gV aw_699 aw_700 aw_800 aw_8 aw_701) rfl rfl rfl ⟨rfl, by decide, by decide, by decide +kernel⟩ ⟨Nat.le_of_ble_eq_true rfl, Nat.le_of_ble_eq_true rfl⟩) ⟨cd_blind, cd_recv hK hP (k := q) (by omega) fa2 rfl, fun U hU hW => ⟨rfl, cd_pre hK hP hZ hS U hU hW⟩⟩ rfl rfl hl.1 rfl (lv_room (Nat.le_of_ble_eq_true rfl)) d_Mo_badField_104 ⟨Nat.zero_le _, Nat.zero_le _⟩) hS (fun _ _ h => h) (fun _ h => h) (fun r73 w10 tE H locs ht hvm hr74 hP hz1 hk1 hS => ?_)
          have hP := cd_Pf ht hP
          obtain ⟨rfl, rfl⟩ := hr74
          refine lv_if_eq (tgt := 112) hx hb d_Mo_badField_107 (by decide) (fun hc76 => ?_) (fun hc76 => ?_)
          · refine lv_iload hx hb d_Mo_badField_112 (lv_at hl 2 rfl) ?_
            refine lv_if_lt (tgt := 137) hx hb d_Mo_badField_114 (by decide) (fun hc77 => ?_) (fun hc77 => ?_)
            · refine lv_iconst (v := (4 : Int32)) hx hb d_Mo_badField_137 (by decide) ?_
              have hf78 : (f_Mo_badField u mp k0 k1 k2) = (4 : Int32) := by rw [f_Mo_badField, if_neg hc18, if_pos hc66, if_pos hc70, if_pos hc72, if_pos hc76, if_pos hc77]
              exact W.iret (v := (4 : Int32)) hx hb hr (fun tE ht _ => ⟨⟨_, w0, rfl, ⟨hf78, rfl⟩, cd_Pt ht hP⟩, hS.F ht⟩) hS.2.2 d_Mo_badField_138
            · refine lv_iload_n hx hb d_Mo_badField_117 rfl (lv_at hl 6 rfl) ?_
              refine lv_if_ne (tgt := 139) hx hb d_Mo_badField_118 (by decide) (fun _ => ?_) (fun h9 => absurd h9 hc18)
              refine lv_iload_n hx hb d_Mo_badField_139 rfl (lv_at hl 6 rfl) ?_
              refine lv_if_eq (tgt := 153) hx hb d_Mo_badField_140 (by decide) (fun h9 => absurd h9 hc18) (fun _ => ?_)
              refine lv_iload hx hb d_Mo_badField_143 (lv_at hl 1 rfl) ?_
              refine lv_iload hx hb d_Mo_badField_145 (lv_at hl 2 rfl) ?_
              refine lv_icmp_eq (tgt := 199) hx hb d_Mo_badField_147 (by decide) (fun hc81 => ?_) (fun hc81 => ?_)
              · refine lv_iload_n hx hb d_Mo_badField_199 rfl (lv_at hl 6 rfl) ?_
                refine lv_if_eq (tgt := 211) hx hb d_Mo_badField_200 (by decide) (fun h9 => absurd h9 hc18) (fun _ => ?_)
                refine lv_iload hx hb d_Mo_badField_203 (lv_at hl 0 rfl) ?_
                refine lv_if_eq (tgt := 226) hx hb d_Mo_badField_205 (by decide) (fun hc83 => ?_) (fun hc83 => ?_)
                · refine lv_aload_n hx hb d_Mo_badField_226 rfl (lv_at hl 4 rfl) ?_
                  refine lv_iload_n hx hb d_Mo_badField_227 rfl (lv_at hl 5 rfl) ?_
                  refine lv_bipush (v := (28 : Int32)) hx hb d_Mo_badField_228 (by decide) ?_
                  refine lv_iadd hx hb d_Mo_badField_230 ?_
                  refine va_calli (va_runV (As := [.int (k0 + (28 : Int32))]) (rest := []) ⟨hx, hb, hml, hown, hA⟩ (c_Mo_fourAt l D tt ad N A zs w0 q u mp (k0 + (28 : Int32)) (⟨hn1, fa2⟩) hR1 (ho.2.2.2.2.2.2.2.2.2.2 hc18 hc66 hc70 hc72 hc76 hc77 hc81 hc83)) (cwV 1 hA (cd_gV aw_699 aw_700 aw_800 aw_8 aw_701) rfl rfl rfl ⟨rfl, by decide, by decide, by decide +kernel⟩ ⟨Nat.le_of_ble_eq_true rfl, Nat.le_of_ble_eq_true rfl⟩) ⟨cd_blind, cd_recv hK hP (k := q) (by omega) fa2 rfl, fun U hU hW => ⟨rfl, cd_pre hK hP hZ hS U hU hW⟩⟩ rfl rfl hl.1 rfl (lv_room (Nat.le_of_ble_eq_true rfl)) d_Mo_badField_231 ⟨Nat.zero_le _, Nat.zero_le _⟩) hS (fun _ _ h => h) (fun _ h => h) (fun r84 w11 tE H locs ht hvm hr85 hP hz1 hk1 hS => ?_)
                  have hP := cd_Pf ht hP
                  obtain ⟨rfl, rfl⟩ := hr85
                  refine lv_iload_n hx hb d_Mo_badField_234 rfl (lv_at hl 6 rfl) ?_
                  refine lv_if_eq (tgt := 242) hx hb d_Mo_badField_235 (by decide) (fun h9 => absurd h9 hc18) (fun _ => ?_)
                  refine lv_iconst (v := (4 : Int32)) hx hb d_Mo_badField_238 (by decide) ?_
                  refine lv_goto (tgt := 244) hx hb d_Mo_badField_239 (by decide) ?_
                  refine lv_icmp_eq (tgt := 252) hx hb d_Mo_badField_244 (by decide) (fun hc88 => ?_) (fun hc88 => ?_)
                  · refine lv_bipush (v := (8 : Int32)) hx hb d_Mo_badField_252 (by decide) ?_
                    have hf89 : (f_Mo_badField u mp k0 k1 k2) = (8 : Int32) := by rw [f_Mo_badField, if_neg hc18, if_pos hc66, if_pos hc70, if_pos hc72, if_pos hc76, if_neg hc77, if_pos hc81, if_pos hc83, if_pos hc88]
                    exact W.iret (v := (8 : Int32)) hx hb hr (fun tE ht _ => ⟨⟨_, w0, rfl, ⟨hf89, rfl⟩, cd_Pt ht hP⟩, hS.F ht⟩) hS.2.2 d_Mo_badField_254
                  · refine lv_bipush (v := (7 : Int32)) hx hb d_Mo_badField_247 (by decide) ?_
                    refine lv_goto (tgt := 254) hx hb d_Mo_badField_249 (by decide) ?_
                    have hf90 : (f_Mo_badField u mp k0 k1 k2) = (7 : Int32) := by rw [f_Mo_badField, if_neg hc18, if_pos hc66, if_pos hc70, if_pos hc72, if_pos hc76, if_neg hc77, if_pos hc81, if_pos hc83, if_neg hc88]
                    exact W.iret (v := (7 : Int32)) hx hb hr (fun tE ht _ => ⟨⟨_, w0, rfl, ⟨hf90, rfl⟩, cd_Pt ht hP⟩, hS.F ht⟩) hS.2.2 d_Mo_badField_254
                · refine lv_goto (tgt := 223) hx hb d_Mo_badField_208 (by decide) ?_
                  refine lv_bipush (v := (6 : Int32)) hx hb d_Mo_badField_223 (by decide) ?_
                  have hf91 : (f_Mo_badField u mp k0 k1 k2) = (6 : Int32) := by rw [f_Mo_badField, if_neg hc18, if_pos hc66, if_pos hc70, if_pos hc72, if_pos hc76, if_neg hc77, if_pos hc81, if_neg hc83]
                  exact W.iret (v := (6 : Int32)) hx hb hr (fun tE ht _ => ⟨⟨_, w0, rfl, ⟨hf91, rfl⟩, cd_Pt ht hP⟩, hS.F ht⟩) hS.2.2 d_Mo_badField_225
              · refine lv_goto (tgt := 197) hx hb d_Mo_badField_150 (by decide) ?_
                refine lv_iconst (v := (5 : Int32)) hx hb d_Mo_badField_197 (by decide) ?_
                have hf92 : (f_Mo_badField u mp k0 k1 k2) = (5 : Int32) := by rw [f_Mo_badField, if_neg hc18, if_pos hc66, if_pos hc70, if_pos hc72, if_pos hc76, if_neg hc77, if_neg hc81]
                exact W.iret (v := (5 : Int32)) hx hb hr (fun tE ht _ => ⟨⟨_, w0, rfl, ⟨hf92, rfl⟩, cd_Pt ht hP⟩, hS.F ht⟩) hS.2.2 d_Mo_badField_198
          · refine lv_iconst (v := (3 : Int32)) hx hb d_Mo_badField_110 (by decide) ?_
            have hf93 : (f_Mo_badField u mp k0 k1 k2) = (3 : Int32) := by rw [f_Mo_badField, if_neg hc18, if_pos hc66, if_pos hc70, if_pos hc72, if_neg hc76]
            exact W.iret (v := (3 : Int32)) hx hb hr (fun tE ht _ => ⟨⟨_, w0, rfl, ⟨hf93, rfl⟩, cd_Pt ht hP⟩, hS.F ht⟩) hS.2.2 d_Mo_badField_111
        · refine lv_goto (tgt := 97) hx hb d_Mo_badField_81 (by decide) ?_
          refine lv_iconst (v := (2 : Int32)) hx hb d_Mo_badField_97 (by decide) ?_
          have hf94 : (f_Mo_badField u mp k0 k1 k2) = (2 : Int32) := by rw [f_Mo_badField, if_neg hc18, if_pos hc66, if_pos hc70, if_neg hc72]
          exact W.iret (v := (2 : Int32)) hx hb hr (fun tE ht _ => ⟨⟨_, w0, rfl, ⟨hf94, rfl⟩, cd_Pt ht hP⟩, hS.F ht⟩) hS.2.2 d_Mo_badField_98
      · refine lv_iconst (v := (1 : Int32)) hx hb d_Mo_badField_70 (by decide) ?_
        have hf95 : (f_Mo_badField u mp k0 k1 k2) = (1 : Int32) := by rw [f_Mo_badField, if_neg hc18, if_pos hc66, if_neg hc70]
        exact W.iret (v := (1 : Int32)) hx hb hr (fun tE ht _ => ⟨⟨_, w0, rfl, ⟨hf95, rfl⟩, cd_Pt ht hP⟩, hS.F ht⟩) hS.2.2 d_Mo_badField_71
    · refine lv_iconst (v := (0 : Int32)) hx hb d_Mo_badField_57 (by decide) ?_
      have hf96 : (f_Mo_badField u mp k0 k1 k2) = (0 : Int32) := by rw [f_Mo_badField, if_neg hc18, if_neg hc66]
      exact W.iret (v := (0 : Int32)) hx hb hr (fun tE ht _ => ⟨⟨_, w0, rfl, ⟨hf96, rfl⟩, cd_Pt ht hP⟩, hS.F ht⟩) hS.2.2 d_Mo_badField_58
def f_Mo_meet (k0 : Int64) (k1 : Int64) (k2 : Int64) (k3 : Int64) : Int32 := (if k1 ≤ (0 : Int64) then (0 : Int32) else (if k3 ≤ (0 : Int64) then (0 : Int32) else (if (k2 + k3) ≤ k0 then (0 : Int32) else (if (k0 + k1) ≤ k2 then (0 : Int32) else (1 : Int32)))))
set_option maxHeartbeats 4000000 in
set_option maxRecDepth 100000 in
theorem c_Mo_meet (l : Launch) (D : va_G) (tt : Nat → ClassId) (ad : Nat → Nat) (N : Nat) (A : Nat → Prop) (zs : Nat → Nat) (w0 : Nat → va_E) (k0 : Int64) (k1 : Int64) (k2 : Int64) (k3 : Int64) : Met l y_Mo_meet w_Mo_meet ({ frames := 0, cells := 0, slots := 0, locals := 0 }) (va_Pc [.long k0, .long k1, .long k2, .long k3] (cd_U D tt ad N A zs w0)) (va_Qi (fun r w' => (f_Mo_meet k0 k1 k2 k3) = r ∧ (r = 0 ∨ r = 1) ∧ w0 = w') (fun w' t => cd_P D ad N A w' t.heap) A) 0 0 A := by
  refine Met.ofW (cc := b_Mo_meet) (maxL := 8) (ret := (some .boolean)) (by decide) rfl ?_
  intro p e s m args below meth c s₁ B hml hv
  obtain ⟨rfl, hP, hK, hZ⟩ := hv
  have hx := B.exec
  have hb := B.bytes
  have hr := B.returns
  have hA : ∀ w ∈ cd_AW, w.before _ s = true := fun w h => atoms_spec (ws := w_Mo_meet) B.pre w (List.mem_cons_of_mem _ h)
  have hown : s.vm.findClass R_Mo = some m.cls := findClass_of_methodNamed B.named
  have hlocks := B.notSynchronized
  have hS : va_S A s.heap s.heap [] := va_S.rf
  have hl := lv_entry ([.long k0, .long k1, .long k2, .long k3]) (n := 8) (Nat.le_of_ble_eq_true rfl)
  rw [lg_entry_eq]
  generalize (lg_sl ([.long k0, .long k1, .long k2, .long k3]) ++ List.replicate (8 - (lg_sl ([.long k0, .long k1, .long k2, .long k3])).length) Slot.unset).toArray = ls at hl ⊢
  have hl : lv_has ls 8 [(0, .long k0), (2, .long k1), (4, .long k2), (6, .long k3)] := hl
  refine lv_lload_n hx hb d_Mo_meet_0 rfl (lv_at hl 1 rfl) ?_
  refine lv_lconst (v := (0 : Int64)) hx hb d_Mo_meet_1 (by decide) ?_
  refine g_lif_le (tgt := 36) hx hb d_Mo_meet_2 d_Mo_meet_3 (by decide) (fun hc1 => ?_) (fun hc1 => ?_)
  · refine lv_iconst (v := (0 : Int32)) hx hb d_Mo_meet_36 (by decide) ?_
    have hf2 : (f_Mo_meet k0 k1 k2 k3) = (0 : Int32) := by rw [f_Mo_meet, if_pos hc1]
    exact W.zret (ty := .boolean) (v := (0 : Int32)) hx hb hr rfl (fun tE ht _ => ⟨⟨_, w0, rfl, ⟨hf2, (Or.inl rfl), rfl⟩, cd_Pt ht hP⟩, hS.F ht⟩) hS.2.2 d_Mo_meet_37
  · refine lv_lload hx hb d_Mo_meet_6 (lv_at hl 3 rfl) ?_
    refine lv_lconst (v := (0 : Int64)) hx hb d_Mo_meet_8 (by decide) ?_
    refine g_lif_le (tgt := 36) hx hb d_Mo_meet_9 d_Mo_meet_10 (by decide) (fun hc3 => ?_) (fun hc3 => ?_)
    · refine lv_iconst (v := (0 : Int32)) hx hb d_Mo_meet_36 (by decide) ?_
      have hf4 : (f_Mo_meet k0 k1 k2 k3) = (0 : Int32) := by rw [f_Mo_meet, if_neg hc1, if_pos hc3]
      exact W.zret (ty := .boolean) (v := (0 : Int32)) hx hb hr rfl (fun tE ht _ => ⟨⟨_, w0, rfl, ⟨hf4, (Or.inl rfl), rfl⟩, cd_Pt ht hP⟩, hS.F ht⟩) hS.2.2 d_Mo_meet_37
    · refine lv_lload_n hx hb d_Mo_meet_13 rfl (lv_at hl 0 rfl) ?_
      refine lv_lload hx hb d_Mo_meet_14 (lv_at hl 2 rfl) ?_
      refine lv_lload hx hb d_Mo_meet_16 (lv_at hl 3 rfl) ?_
      refine lv_ladd hx hb d_Mo_meet_18 ?_
      refine g_lif_ge (tgt := 36) hx hb d_Mo_meet_19 d_Mo_meet_20 (by decide) (fun hc5 => ?_) (fun hc5 => ?_)
      · refine lv_iconst (v := (0 : Int32)) hx hb d_Mo_meet_36 (by decide) ?_
        have hf6 : (f_Mo_meet k0 k1 k2 k3) = (0 : Int32) := by rw [f_Mo_meet, if_neg hc1, if_neg hc3, if_pos hc5]
        exact W.zret (ty := .boolean) (v := (0 : Int32)) hx hb hr rfl (fun tE ht _ => ⟨⟨_, w0, rfl, ⟨hf6, (Or.inl rfl), rfl⟩, cd_Pt ht hP⟩, hS.F ht⟩) hS.2.2 d_Mo_meet_37
      · refine lv_lload hx hb d_Mo_meet_23 (lv_at hl 2 rfl) ?_
        refine lv_lload_n hx hb d_Mo_meet_25 rfl (lv_at hl 0 rfl) ?_
        refine lv_lload_n hx hb d_Mo_meet_26 rfl (lv_at hl 1 rfl) ?_
        refine lv_ladd hx hb d_Mo_meet_27 ?_
        refine g_lif_ge (tgt := 36) hx hb d_Mo_meet_28 d_Mo_meet_29 (by decide) (fun hc7 => ?_) (fun hc7 => ?_)
        · refine lv_iconst (v := (0 : Int32)) hx hb d_Mo_meet_36 (by decide) ?_
          have hf8 : (f_Mo_meet k0 k1 k2 k3) = (0 : Int32) := by rw [f_Mo_meet, if_neg hc1, if_neg hc3, if_neg hc5, if_pos hc7]
          exact W.zret (ty := .boolean) (v := (0 : Int32)) hx hb hr rfl (fun tE ht _ => ⟨⟨_, w0, rfl, ⟨hf8, (Or.inl rfl), rfl⟩, cd_Pt ht hP⟩, hS.F ht⟩) hS.2.2 d_Mo_meet_37
        · refine lv_iconst (v := (1 : Int32)) hx hb d_Mo_meet_32 (by decide) ?_
          refine lv_goto (tgt := 37) hx hb d_Mo_meet_33 (by decide) ?_
          have hf9 : (f_Mo_meet k0 k1 k2 k3) = (1 : Int32) := by rw [f_Mo_meet, if_neg hc1, if_neg hc3, if_neg hc5, if_neg hc7]
          exact W.zret (ty := .boolean) (v := (1 : Int32)) hx hb hr rfl (fun tE ht _ => ⟨⟨_, w0, rfl, ⟨hf9, (Or.inr rfl), rfl⟩, cd_Pt ht hP⟩, hS.F ht⟩) hS.2.2 d_Mo_meet_37
def f_Mo_entryFits_L154 (u : cd_Mo) (mp : cd_By) (k0 : Int32) (k1 : Int32) : Nat → Int32 → Int32 → cd_Mo → Int32 × cd_Mo
  | 0, _, _, _ => default
  | gn + 1, x3, x9, u' => (if k0 ≤ x9 then ((1 : Int32), u') else (if (f_Mo_meet ((f_Mo_fourAt u' mp (x3 + (8 : Int32))).toInt64) ((f_Mo_fourAt u' mp (x3 + (20 : Int32))).toInt64) ((f_Mo_fourAt u' mp (((52 : Int32) + ((32 : Int32) * x9)) + (8 : Int32))).toInt64) ((f_Mo_fourAt u' mp (((52 : Int32) + ((32 : Int32) * x9)) + (20 : Int32))).toInt64)) = 0 then (f_Mo_entryFits_L154 u mp k0 k1 gn x3 (x9 + (1 : Int32)) u') else ((f_Mo_isWrong u' (5 : Int32) (x3 + (8 : Int32))).1, (f_Mo_isWrong u' (5 : Int32) (x3 + (8 : Int32))).2)))
def f_Mo_entryFits_L91 (u : cd_Mo) (mp : cd_By) (k0 : Int32) (k1 : Int32) : Nat → Int32 → Int64 → Int64 → Int32 → cd_Mo → Int32 × cd_Mo
  | 0, _, _, _, _, _ => default
  | gn + 1, x3, x5, x7, x9, u' => (if k0 ≤ x9 then (f_Mo_entryFits_L154 u mp k0 k1 8 x3 (1 : Int32) u') else (if (f_Mo_meet x5 x7 ((f_Mo_fourAt u' mp (((52 : Int32) + ((32 : Int32) * x9)) + (4 : Int32))).toInt64) ((f_Mo_fourAt u' mp (((52 : Int32) + ((32 : Int32) * x9)) + (16 : Int32))).toInt64)) = 0 then (f_Mo_entryFits_L91 u mp k0 k1 gn x3 x5 x7 (x9 + (1 : Int32)) u') else ((f_Mo_isWrong u' (4 : Int32) (x3 + (4 : Int32))).1, (f_Mo_isWrong u' (4 : Int32) (x3 + (4 : Int32))).2)))
def f_Mo_entryFits (u : cd_Mo) (mp : cd_By) (k0 : Int32) (k1 : Int32) : Int32 × cd_Mo := (if k0 = 0 then (if (8 : Int32) ≤ (f_Mo_badField u mp ((52 : Int32) + ((32 : Int32) * k0)) (1 : Int32) k1) then (if ((f_Mo_fourAt u mp (((52 : Int32) + ((32 : Int32) * k0)) + (4 : Int32))).toInt64 + (f_Mo_fourAt u mp (((52 : Int32) + ((32 : Int32) * k0)) + (16 : Int32))).toInt64) ≤ u.2.2.1.toInt64 then (f_Mo_entryFits_L91 u mp k0 k1 8 ((52 : Int32) + ((32 : Int32) * k0)) ((f_Mo_fourAt u mp (((52 : Int32) + ((32 : Int32) * k0)) + (4 : Int32))).toInt64) ((f_Mo_fourAt u mp (((52 : Int32) + ((32 : Int32) * k0)) + (16 : Int32))).toInt64) (0 : Int32) u) else ((f_Mo_isWrong u (1 : Int32) (((52 : Int32) + ((32 : Int32) * k0)) + (4 : Int32))).1, (f_Mo_isWrong u (1 : Int32) (((52 : Int32) + ((32 : Int32) * k0)) + (4 : Int32))).2)) else ((f_Mo_isWrong u (3 : Int32) (((52 : Int32) + ((32 : Int32) * k0)) + ((4 : Int32) * (f_Mo_badField u mp ((52 : Int32) + ((32 : Int32) * k0)) (1 : Int32) k1)))).1, (f_Mo_isWrong u (3 : Int32) (((52 : Int32) + ((32 : Int32) * k0)) + ((4 : Int32) * (f_Mo_badField u mp ((52 : Int32) + ((32 : Int32) * k0)) (1 : Int32) k1)))).2)) else (if (8 : Int32) ≤ (f_Mo_badField u mp ((52 : Int32) + ((32 : Int32) * k0)) (0 : Int32) k1) then (if ((f_Mo_fourAt u mp (((52 : Int32) + ((32 : Int32) * k0)) + (4 : Int32))).toInt64 + (f_Mo_fourAt u mp (((52 : Int32) + ((32 : Int32) * k0)) + (16 : Int32))).toInt64) ≤ u.2.2.1.toInt64 then (f_Mo_entryFits_L91 u mp k0 k1 8 ((52 : Int32) + ((32 : Int32) * k0)) ((f_Mo_fourAt u mp (((52 : Int32) + ((32 : Int32) * k0)) + (4 : Int32))).toInt64) ((f_Mo_fourAt u mp (((52 : Int32) + ((32 : Int32) * k0)) + (16 : Int32))).toInt64) (0 : Int32) u) else ((f_Mo_isWrong u (1 : Int32) (((52 : Int32) + ((32 : Int32) * k0)) + (4 : Int32))).1, (f_Mo_isWrong u (1 : Int32) (((52 : Int32) + ((32 : Int32) * k0)) + (4 : Int32))).2)) else ((f_Mo_isWrong u (3 : Int32) (((52 : Int32) + ((32 : Int32) * k0)) + ((4 : Int32) * (f_Mo_badField u mp ((52 : Int32) + ((32 : Int32) * k0)) (0 : Int32) k1)))).1, (f_Mo_isWrong u (3 : Int32) (((52 : Int32) + ((32 : Int32) * k0)) + ((4 : Int32) * (f_Mo_badField u mp ((52 : Int32) + ((32 : Int32) * k0)) (0 : Int32) k1)))).2)))
def o_Mo_entryFits_L154 (u : cd_Mo) (mp : cd_By) (k0 : Int32) (k1 : Int32) : Nat → Int32 → Int32 → cd_Mo → Prop
  | 0, _, _, _ => False
  | gn + 1, x3, x9, u' => (¬ k0 ≤ x9 → o_Mo_fourAt u' mp (x3 + (8 : Int32))) ∧ (¬ k0 ≤ x9 → o_Mo_fourAt u' mp (x3 + (20 : Int32))) ∧ (¬ k0 ≤ x9 → o_Mo_fourAt u' mp (((52 : Int32) + ((32 : Int32) * x9)) + (8 : Int32))) ∧ (¬ k0 ≤ x9 → o_Mo_fourAt u' mp (((52 : Int32) + ((32 : Int32) * x9)) + (20 : Int32))) ∧ (¬ k0 ≤ x9 → (f_Mo_meet ((f_Mo_fourAt u' mp (x3 + (8 : Int32))).toInt64) ((f_Mo_fourAt u' mp (x3 + (20 : Int32))).toInt64) ((f_Mo_fourAt u' mp (((52 : Int32) + ((32 : Int32) * x9)) + (8 : Int32))).toInt64) ((f_Mo_fourAt u' mp (((52 : Int32) + ((32 : Int32) * x9)) + (20 : Int32))).toInt64)) = 0 → o_Mo_entryFits_L154 u mp k0 k1 gn x3 (x9 + (1 : Int32)) u')
def o_Mo_entryFits_L91 (u : cd_Mo) (mp : cd_By) (k0 : Int32) (k1 : Int32) : Nat → Int32 → Int64 → Int64 → Int32 → cd_Mo → Prop
  | 0, _, _, _, _, _ => False
  | gn + 1, x3, x5, x7, x9, u' => (k0 ≤ x9 → o_Mo_entryFits_L154 u mp k0 k1 8 x3 (1 : Int32) u') ∧ (¬ k0 ≤ x9 → o_Mo_fourAt u' mp (((52 : Int32) + ((32 : Int32) * x9)) + (4 : Int32))) ∧ (¬ k0 ≤ x9 → o_Mo_fourAt u' mp (((52 : Int32) + ((32 : Int32) * x9)) + (16 : Int32))) ∧ (¬ k0 ≤ x9 → (f_Mo_meet x5 x7 ((f_Mo_fourAt u' mp (((52 : Int32) + ((32 : Int32) * x9)) + (4 : Int32))).toInt64) ((f_Mo_fourAt u' mp (((52 : Int32) + ((32 : Int32) * x9)) + (16 : Int32))).toInt64)) = 0 → o_Mo_entryFits_L91 u mp k0 k1 gn x3 x5 x7 (x9 + (1 : Int32)) u')
def o_Mo_entryFits (u : cd_Mo) (mp : cd_By) (k0 : Int32) (k1 : Int32) : Prop := (¬ k0 = 0 → o_Mo_badField u mp ((52 : Int32) + ((32 : Int32) * k0)) (0 : Int32) k1) ∧ (¬ k0 = 0 → (8 : Int32) ≤ (f_Mo_badField u mp ((52 : Int32) + ((32 : Int32) * k0)) (0 : Int32) k1) → o_Mo_fourAt u mp (((52 : Int32) + ((32 : Int32) * k0)) + (4 : Int32))) ∧ (¬ k0 = 0 → (8 : Int32) ≤ (f_Mo_badField u mp ((52 : Int32) + ((32 : Int32) * k0)) (0 : Int32) k1) → o_Mo_fourAt u mp (((52 : Int32) + ((32 : Int32) * k0)) + (16 : Int32))) ∧ (¬ k0 = 0 → (8 : Int32) ≤ (f_Mo_badField u mp ((52 : Int32) + ((32 : Int32) * k0)) (0 : Int32) k1) → ((f_Mo_fourAt u mp (((52 : Int32) + ((32 : Int32) * k0)) + (4 : Int32))).toInt64 + (f_Mo_fourAt u mp (((52 : Int32) + ((32 : Int32) * k0)) + (16 : Int32))).toInt64) ≤ u.2.2.1.toInt64 → o_Mo_entryFits_L91 u mp k0 k1 8 ((52 : Int32) + ((32 : Int32) * k0)) ((f_Mo_fourAt u mp (((52 : Int32) + ((32 : Int32) * k0)) + (4 : Int32))).toInt64) ((f_Mo_fourAt u mp (((52 : Int32) + ((32 : Int32) * k0)) + (16 : Int32))).toInt64) (0 : Int32) u) ∧ (k0 = 0 → o_Mo_badField u mp ((52 : Int32) + ((32 : Int32) * k0)) (1 : Int32) k1) ∧ (k0 = 0 → (8 : Int32) ≤ (f_Mo_badField u mp ((52 : Int32) + ((32 : Int32) * k0)) (1 : Int32) k1) → o_Mo_fourAt u mp (((52 : Int32) + ((32 : Int32) * k0)) + (4 : Int32))) ∧ (k0 = 0 → (8 : Int32) ≤ (f_Mo_badField u mp ((52 : Int32) + ((32 : Int32) * k0)) (1 : Int32) k1) → o_Mo_fourAt u mp (((52 : Int32) + ((32 : Int32) * k0)) + (16 : Int32))) ∧ (k0 = 0 → (8 : Int32) ≤ (f_Mo_badField u mp ((52 : Int32) + ((32 : Int32) * k0)) (1 : Int32) k1) → ((f_Mo_fourAt u mp (((52 : Int32) + ((32 : Int32) * k0)) + (4 : Int32))).toInt64 + (f_Mo_fourAt u mp (((52 : Int32) + ((32 : Int32) * k0)) + (16 : Int32))).toInt64) ≤ u.2.2.1.toInt64 → o_Mo_entryFits_L91 u mp k0 k1 8 ((52 : Int32) + ((32 : Int32) * k0)) ((f_Mo_fourAt u mp (((52 : Int32) + ((32 : Int32) * k0)) + (4 : Int32))).toInt64) ((f_Mo_fourAt u mp (((52 : Int32) + ((32 : Int32) * k0)) + (16 : Int32))).toInt64) (0 : Int32) u)
set_option maxHeartbeats 4000000 in
set_option maxRecDepth 100000 in
theorem c_Mo_entryFits (l : Launch) (D : va_G) (tt : Nat → ClassId) (ad : Nat → Nat) (N : Nat) (A : Nat → Prop) (zs : Nat → Nat) (w0 : Nat → va_E) (q : Nat) (u : cd_Mo) (mp : cd_By) (k0 : Int32) (k1 : Int32) (hR0 : cd_MoAt N tt ad w0 q u) (hR1 : cd_ByAt N tt ad w0 (q + 10) 8192 mp) (ho : o_Mo_entryFits u mp k0 k1) : Met l y_Mo_entryFits w_Mo_entryFits ({ frames := 3, cells := 0, slots := 0, locals := 69 }) (va_Pc [.ref (ad q), .int k0, .int k1] (cd_U D tt ad N A zs w0)) (va_Qi (fun r w' => (f_Mo_entryFits u mp k0 k1).1 = r ∧ (r = 0 ∨ r = 1) ∧ cd_MoAt N tt ad w' q ((f_Mo_entryFits u mp k0 k1).2) ∧ (∀ k : Nat, (k < q ∨ q + 1 ≤ k) → w' k = w0 k)) (fun w' t => cd_P D ad N A w' t.heap) A) 0 0 A := by
  refine Met.ofW (cc := b_Mo_entryFits) (maxL := 11) (ret := (some .boolean)) (by decide) rfl ?_
  intro p e s m args below meth c s₁ B hml hv
  obtain ⟨rfl, hP, hK, hZ⟩ := hv
  have hx := B.exec
  have hb := B.bytes
  have hr := B.returns
  have hA : ∀ w ∈ cd_AW, w.before _ s = true := fun w h => atoms_spec (ws := w_Mo_entryFits) B.pre w (List.mem_cons_of_mem _ h)
  have hown : s.vm.findClass R_Mo = some m.cls := findClass_of_methodNamed B.named
  have hlocks := B.notSynchronized
  have L154 : ∀ (gn : Nat) (x3 : Int32) (x9 : Int32) (u' : cd_Mo) (w : Nat → va_E) (efr : ∀ k : Nat, (k < q ∨ q + 1 ≤ k) → w k = w0 k) (H : Heap) (locs : List Loc) (ls : Array Slot), lv_has ls 11 [(0, .ref (ad q)), (1, .int k0), (3, .int x3), (9, .int x9)] → (f_Mo_entryFits u mp k0 k1) = f_Mo_entryFits_L154 u mp k0 k1 gn x3 x9 u' → cd_MoAt N tt ad w q u' → cd_ByAt N tt ad w (q + 10) 8192 mp → cd_P D ad N A w H → va_S A s.heap H locs → o_Mo_entryFits_L154 u mp k0 k1 gn x3 x9 u' → W p l e (headSpec w_Mo_entryFits ({ frames := 3, cells := 0, slots := 0, locals := 69 })).room s m [.ref (ad q), .int k0, .int k1].toArray below meth c H locs 0 0 (MQ below (va_Qi (fun r w' => (f_Mo_entryFits u mp k0 k1).1 = r ∧ (r = 0 ∨ r = 1) ∧ cd_MoAt N tt ad w' q ((f_Mo_entryFits u mp k0 k1).2) ∧ (∀ k : Nat, (k < q ∨ q + 1 ≤ k) → w' k = w0 k)) (fun w' t => cd_P D ad N A w' t.heap) A) [.ref (ad q), .int k0, .int k1].toArray s 0 0 A) (F0 m 154 ls []) := by
    intro gn
    induction gn with
    | zero => intro x3 x9 u' w efr H locs ls hl he hL0 hL1 hP hS ho; exact ho.elim
    | succ gn ih =>
      intro x3 x9 u' w efr H locs ls hl he hL0 hL1 hP hS ho
      have ho : (¬ k0 ≤ x9 → o_Mo_fourAt u' mp (x3 + (8 : Int32))) ∧ (¬ k0 ≤ x9 → o_Mo_fourAt u' mp (x3 + (20 : Int32))) ∧ (¬ k0 ≤ x9 → o_Mo_fourAt u' mp (((52 : Int32) + ((32 : Int32) * x9)) + (8 : Int32))) ∧ (¬ k0 ≤ x9 → o_Mo_fourAt u' mp (((52 : Int32) + ((32 : Int32) * x9)) + (20 : Int32))) ∧ (¬ k0 ≤ x9 → (f_Mo_meet ((f_Mo_fourAt u' mp (x3 + (8 : Int32))).toInt64) ((f_Mo_fourAt u' mp (x3 + (20 : Int32))).toInt64) ((f_Mo_fourAt u' mp (((52 : Int32) + ((32 : Int32) * x9)) + (8 : Int32))).toInt64) ((f_Mo_fourAt u' mp (((52 : Int32) + ((32 : Int32) * x9)) + (20 : Int32))).toInt64)) = 0 → o_Mo_entryFits_L154 u mp k0 k1 gn x3 (x9 + (1 : Int32)) u') := ho
      obtain ⟨hn1, fa2⟩ := hL0
      refine lv_iload hx hb d_Mo_entryFits_154 (lv_at hl 3 rfl) ?_
      refine lv_iload_n hx hb d_Mo_entryFits_156 rfl (lv_at hl 1 rfl) ?_
      refine lv_icmp_ge (tgt := 230) hx hb d_Mo_entryFits_157 (by decide) (fun hc3 => ?_) (fun hc3 => ?_)
      · refine lv_iconst (v := (1 : Int32)) hx hb d_Mo_entryFits_230 (by decide) ?_
        have hf4 : (f_Mo_entryFits u mp k0 k1) = ((1 : Int32), u') := by rw [he, f_Mo_entryFits_L154, if_pos hc3]
        exact W.zret (ty := .boolean) (v := (1 : Int32)) hx hb hr rfl (fun tE ht _ => ⟨⟨_, w, rfl, ⟨(by rw [hf4]), (Or.inr rfl), (by rw [hf4]; exact ⟨hn1, fa2⟩), (fun k hk => (efr k (by omega)))⟩, cd_Pt ht hP⟩, hS.F ht⟩) hS.2.2 d_Mo_entryFits_231
      · refine lv_bipush (v := (52 : Int32)) hx hb d_Mo_entryFits_160 (by decide) ?_
        refine lv_bipush (v := (32 : Int32)) hx hb d_Mo_entryFits_162 (by decide) ?_
        refine lv_iload hx hb d_Mo_entryFits_164 (lv_at hl 3 rfl) ?_
        refine lv_imul hx hb d_Mo_entryFits_166 ?_
        refine lv_iadd hx hb d_Mo_entryFits_167 ?_
        refine lv_istore (lv' := [(10, .int ((52 : Int32) + ((32 : Int32) * x9))), (0, .ref (ad q)), (1, .int k0), (3, .int x3), (9, .int x9)]) hx hb d_Mo_entryFits_168 hl (by decide) rfl (fun ls hl => ?_)
        refine lv_aload_n hx hb d_Mo_entryFits_170 rfl (lv_at hl 1 rfl) ?_
        refine lv_iload_n hx hb d_Mo_entryFits_171 rfl (lv_at hl 3 rfl) ?_
        refine lv_bipush (v := (8 : Int32)) hx hb d_Mo_entryFits_172 (by decide) ?_
        refine lv_iadd hx hb d_Mo_entryFits_174 ?_
        refine va_calli (va_runV (As := [.int (x3 + (8 : Int32))]) (rest := []) ⟨hx, hb, hml, hown, hA⟩ (c_Mo_fourAt l D tt ad N A zs w q u' mp (x3 + (8 : Int32)) (⟨hn1, fa2⟩) hL1 (ho.1 hc3)) (cwV 1 hA (cd_gV aw_699 aw_700 aw_800 aw_8 aw_701) rfl rfl rfl ⟨rfl, by decide, by decide, by decide +kernel⟩ ⟨Nat.le_of_ble_eq_true rfl, Nat.le_of_ble_eq_true rfl⟩) ⟨cd_blind, cd_recv hK hP (k := q) (by omega) fa2 rfl, fun U hU hW => ⟨rfl, cd_pre hK hP hZ hS U hU hW⟩⟩ rfl rfl hl.1 rfl (lv_room (Nat.le_of_ble_eq_true rfl)) d_Mo_entryFits_175 ⟨Nat.zero_le _, Nat.zero_le _⟩) hS (fun _ _ h => h) (fun _ h => h) (fun r5 w1 tE H locs ht hvm hr6 hP hz1 hk1 hS => ?_)
        have hP := cd_Pf ht hP
        obtain ⟨rfl, rfl⟩ := hr6
        refine lv_i2l hx hb d_Mo_entryFits_178 rfl ?_
        refine lv_aload_n hx hb d_Mo_entryFits_179 rfl (lv_at hl 1 rfl) ?_
        refine lv_iload_n hx hb d_Mo_entryFits_180 rfl (lv_at hl 3 rfl) ?_
        refine lv_bipush (v := (20 : Int32)) hx hb d_Mo_entryFits_181 (by decide) ?_
        refine lv_iadd hx hb d_Mo_entryFits_183 ?_
        refine va_calli (va_runV (As := [.int (x3 + (20 : Int32))]) (rest := [.long ((f_Mo_fourAt u' mp (x3 + (8 : Int32))).toInt64)]) ⟨hx, hb, hml, hown, hA⟩ (c_Mo_fourAt l D tt ad N A zs w q u' mp (x3 + (20 : Int32)) (⟨hn1, fa2⟩) hL1 (ho.2.1 hc3)) (cwV 1 hA (cd_gV aw_699 aw_700 aw_800 aw_8 aw_701) rfl rfl rfl ⟨rfl, by decide, by decide, by decide +kernel⟩ ⟨Nat.le_of_ble_eq_true rfl, Nat.le_of_ble_eq_true rfl⟩) ⟨cd_blind, cd_recv hK hP (k := q) (by omega) fa2 rfl, fun U hU hW => ⟨rfl, cd_pre hK hP hZ hS U hU hW⟩⟩ rfl rfl hl.1 rfl (lv_room (Nat.le_of_ble_eq_true rfl)) d_Mo_entryFits_184 ⟨Nat.zero_le _, Nat.zero_le _⟩) hS (fun _ _ h => h) (fun _ h => h) (fun r8 w2 tE H locs ht hvm hr9 hP hz1 hk1 hS => ?_)
        have hP := cd_Pf ht hP
        obtain ⟨rfl, rfl⟩ := hr9
        refine lv_i2l hx hb d_Mo_entryFits_187 rfl ?_
        refine lv_aload_n hx hb d_Mo_entryFits_188 rfl (lv_at hl 1 rfl) ?_
        refine lv_iload hx hb d_Mo_entryFits_189 (lv_at hl 0 rfl) ?_
        refine lv_bipush (v := (8 : Int32)) hx hb d_Mo_entryFits_191 (by decide) ?_
        refine lv_iadd hx hb d_Mo_entryFits_193 ?_
        refine va_calli (va_runV (As := [.int (((52 : Int32) + ((32 : Int32) * x9)) + (8 : Int32))]) (rest := [.long ((f_Mo_fourAt u' mp (x3 + (20 : Int32))).toInt64), .long ((f_Mo_fourAt u' mp (x3 + (8 : Int32))).toInt64)]) ⟨hx, hb, hml, hown, hA⟩ (c_Mo_fourAt l D tt ad N A zs w q u' mp (((52 : Int32) + ((32 : Int32) * x9)) + (8 : Int32)) (⟨hn1, fa2⟩) hL1 (ho.2.2.1 hc3)) (cwV 1 hA (cd_gV aw_699 aw_700 aw_800 aw_8 aw_701) rfl rfl rfl ⟨rfl, by decide, by decide, by decide +kernel⟩ ⟨Nat.le_of_ble_eq_true rfl, Nat.le_of_ble_eq_true rfl⟩) ⟨cd_blind, cd_recv hK hP (k := q) (by omega) fa2 rfl, fun U hU hW => ⟨rfl, cd_pre hK hP hZ hS U hU hW⟩⟩ rfl rfl hl.1 rfl (lv_room (Nat.le_of_ble_eq_true rfl)) d_Mo_entryFits_194 ⟨Nat.zero_le _, Nat.zero_le _⟩) hS (fun _ _ h => h) (fun _ h => h) (fun r11 w3 tE H locs ht hvm hr12 hP hz1 hk1 hS => ?_)
        have hP := cd_Pf ht hP
        obtain ⟨rfl, rfl⟩ := hr12
        refine lv_i2l hx hb d_Mo_entryFits_197 rfl ?_
        refine lv_aload_n hx hb d_Mo_entryFits_198 rfl (lv_at hl 1 rfl) ?_
        refine lv_iload hx hb d_Mo_entryFits_199 (lv_at hl 0 rfl) ?_
        refine lv_bipush (v := (20 : Int32)) hx hb d_Mo_entryFits_201 (by decide) ?_
        refine lv_iadd hx hb d_Mo_entryFits_203 ?_
        refine va_calli (va_runV (As := [.int (((52 : Int32) + ((32 : Int32) * x9)) + (20 : Int32))]) (rest := [.long ((f_Mo_fourAt u' mp (((52 : Int32) + ((32 : Int32) * x9)) + (8 : Int32))).toInt64), .long ((f_Mo_fourAt u' mp (x3 + (20 : Int32))).toInt64), .long ((f_Mo_fourAt u' mp (x3 + (8 : Int32))).toInt64)]) ⟨hx, hb, hml, hown, hA⟩ (c_Mo_fourAt l D tt ad N A zs w q u' mp (((52 : Int32) + ((32 : Int32) * x9)) + (20 : Int32)) (⟨hn1, fa2⟩) hL1 (ho.2.2.2.1 hc3)) (cwV 1 hA (cd_gV aw_699 aw_700 aw_800 aw_8 aw_701) rfl rfl rfl ⟨rfl, by decide, by decide, by decide +kernel⟩ ⟨Nat.le_of_ble_eq_true rfl, Nat.le_of_ble_eq_true rfl⟩) ⟨cd_blind, cd_recv hK hP (k := q) (by omega) fa2 rfl, fun U hU hW => ⟨rfl, cd_pre hK hP hZ hS U hU hW⟩⟩ rfl rfl hl.1 rfl (lv_room (Nat.le_of_ble_eq_true rfl)) d_Mo_entryFits_204 ⟨Nat.zero_le _, Nat.zero_le _⟩) hS (fun _ _ h => h) (fun _ h => h) (fun r14 w4 tE H locs ht hvm hr15 hP hz1 hk1 hS => ?_)
        have hP := cd_Pf ht hP
        obtain ⟨rfl, rfl⟩ := hr15
        refine lv_i2l hx hb d_Mo_entryFits_207 rfl ?_
        refine va_calli (va_runS (As := [.long ((f_Mo_fourAt u' mp (x3 + (8 : Int32))).toInt64), .long ((f_Mo_fourAt u' mp (x3 + (20 : Int32))).toInt64), .long ((f_Mo_fourAt u' mp (((52 : Int32) + ((32 : Int32) * x9)) + (8 : Int32))).toInt64), .long ((f_Mo_fourAt u' mp (((52 : Int32) + ((32 : Int32) * x9)) + (20 : Int32))).toInt64)]) (rest := []) ⟨hx, hb, hml, hown, hA⟩ (c_Mo_meet l D tt ad N A zs w ((f_Mo_fourAt u' mp (x3 + (8 : Int32))).toInt64) ((f_Mo_fourAt u' mp (x3 + (20 : Int32))).toInt64) ((f_Mo_fourAt u' mp (((52 : Int32) + ((32 : Int32) * x9)) + (8 : Int32))).toInt64) ((f_Mo_fourAt u' mp (((52 : Int32) + ((32 : Int32) * x9)) + (20 : Int32))).toInt64)) (cwS 4 hA (cd_gS aw_702 aw_703 aw_8 aw_704) rfl rfl rfl ⟨rfl, by decide, by decide, by decide +kernel⟩ ⟨Nat.le_of_ble_eq_true rfl, Nat.le_of_ble_eq_true rfl⟩) ⟨cd_blind, fun U hU hW => ⟨rfl, cd_pre hK hP hZ hS U hU hW⟩⟩ rfl rfl hl.1 rfl (lv_room (Nat.le_of_ble_eq_true rfl)) d_Mo_entryFits_208 ⟨Nat.zero_le _, Nat.zero_le _⟩) hS (fun _ _ h => h) (fun _ h => h) (fun r17 w5 tE H locs ht hvm hr18 hP hz1 hk1 hS => ?_)
        have hP := cd_Pf ht hP
        obtain ⟨rfl, hbo20, rfl⟩ := hr18
        refine lv_if_eq (tgt := 224) hx hb d_Mo_entryFits_211 (by decide) (fun hc21 => ?_) (fun hc21 => ?_)
        · refine lv_iinc (k := 4) (v := (x9 + (1 : Int32))) (lv' := [(9, .int (x9 + (1 : Int32))), (10, .int ((52 : Int32) + ((32 : Int32) * x9))), (0, .ref (ad q)), (1, .int k0), (3, .int x3)]) hx hb d_Mo_entryFits_224 hl rfl (cd_inc _ _ _ (by decide)) (by decide) rfl (fun ls hl => ?_)
          refine lv_goto (tgt := 154) hx hb d_Mo_entryFits_227 (by decide) ?_
          exact ih x3 (x9 + (1 : Int32)) u' w (fun k hk => (efr k (by omega))) H locs ls (lv_sub hl [2, 3, 4, 0] rfl) (show (f_Mo_entryFits u mp k0 k1) = f_Mo_entryFits_L154 u mp k0 k1 gn x3 (x9 + (1 : Int32)) u' by rw [he, f_Mo_entryFits_L154, if_neg hc3, if_pos hc21]) (⟨hn1, fa2⟩) hL1 hP hS (ho.2.2.2.2 hc3 hc21)
        · refine lv_aload_n hx hb d_Mo_entryFits_214 rfl (lv_at hl 1 rfl) ?_
          refine lv_iconst (v := (5 : Int32)) hx hb d_Mo_entryFits_215 (by decide) ?_
          refine lv_iload_n hx hb d_Mo_entryFits_216 rfl (lv_at hl 3 rfl) ?_
          refine lv_bipush (v := (8 : Int32)) hx hb d_Mo_entryFits_217 (by decide) ?_
          refine lv_iadd hx hb d_Mo_entryFits_219 ?_
          refine va_calli (va_runV (As := [.int (5 : Int32), .int (x3 + (8 : Int32))]) (rest := []) ⟨hx, hb, hml, hown, hA⟩ (c_Mo_isWrong l D tt ad N A zs w q u' (5 : Int32) (x3 + (8 : Int32)) (⟨hn1, fa2⟩)) (cwV 2 hA (cd_gV aw_681 aw_682 aw_796 aw_8 aw_683) rfl rfl rfl ⟨rfl, by decide, by decide, by decide +kernel⟩ ⟨Nat.le_of_ble_eq_true rfl, Nat.le_of_ble_eq_true rfl⟩) ⟨cd_blind, cd_recv hK hP (k := q) (by omega) fa2 rfl, fun U hU hW => ⟨rfl, cd_pre hK hP hZ hS U hU hW⟩⟩ rfl rfl hl.1 rfl (lv_room (Nat.le_of_ble_eq_true rfl)) d_Mo_entryFits_220 ⟨Nat.zero_le _, Nat.zero_le _⟩) hS (fun _ _ h => h) (fun _ h => h) (fun r22 w6 tE H locs ht hvm hr23 hP hz1 hk1 hS => ?_)
          have hP := cd_Pf ht hP
          obtain ⟨rfl, hbo25, at26, e6⟩ := hr23
          have at27 := cd_ByAt_keep hL1 (fun k h1 h2 => e6 k (by omega))
          obtain ⟨hn28, fa29⟩ := at26
          have hf30 : (f_Mo_entryFits u mp k0 k1) = ((f_Mo_isWrong u' (5 : Int32) (x3 + (8 : Int32))).1, (f_Mo_isWrong u' (5 : Int32) (x3 + (8 : Int32))).2) := by rw [he, f_Mo_entryFits_L154, if_neg hc3, if_neg hc21]
          exact W.zret (ty := .boolean) (v := (f_Mo_isWrong u' (5 : Int32) (x3 + (8 : Int32))).1) hx hb hr (cd_nb hbo25) (fun tE ht _ => ⟨⟨_, w6, rfl, ⟨(by rw [hf30]), hbo25, (by rw [hf30]; exact ⟨hn28, fa29⟩), (fun k hk => ((e6 k (by omega)).trans (efr k (by omega))))⟩, cd_Pt ht hP⟩, hS.F ht⟩) hS.2.2 d_Mo_entryFits_223
  have L91 : ∀ (gn : Nat) (x3 : Int32) (x5 : Int64) (x7 : Int64) (x9 : Int32) (u' : cd_Mo) (w : Nat → va_E) (efr : ∀ k : Nat, (k < q ∨ q + 1 ≤ k) → w k = w0 k) (H : Heap) (locs : List Loc) (ls : Array Slot), lv_has ls 11 [(0, .ref (ad q)), (1, .int k0), (3, .int x3), (5, .long x5), (7, .long x7), (9, .int x9)] → (f_Mo_entryFits u mp k0 k1) = f_Mo_entryFits_L91 u mp k0 k1 gn x3 x5 x7 x9 u' → cd_MoAt N tt ad w q u' → cd_ByAt N tt ad w (q + 10) 8192 mp → cd_P D ad N A w H → va_S A s.heap H locs → o_Mo_entryFits_L91 u mp k0 k1 gn x3 x5 x7 x9 u' → W p l e (headSpec w_Mo_entryFits ({ frames := 3, cells := 0, slots := 0, locals := 69 })).room s m [.ref (ad q), .int k0, .int k1].toArray below meth c H locs 0 0 (MQ below (va_Qi (fun r w' => (f_Mo_entryFits u mp k0 k1).1 = r ∧ (r = 0 ∨ r = 1) ∧ cd_MoAt N tt ad w' q ((f_Mo_entryFits u mp k0 k1).2) ∧ (∀ k : Nat, (k < q ∨ q + 1 ≤ k) → w' k = w0 k)) (fun w' t => cd_P D ad N A w' t.heap) A) [.ref (ad q), .int k0, .int k1].toArray s 0 0 A) (F0 m 91 ls []) := by
    intro gn
    induction gn with
    | zero => intro x3 x5 x7 x9 u' w efr H locs ls hl he hL0 hL1 hP hS ho; exact ho.elim
    | succ gn ih =>
      intro x3 x5 x7 x9 u' w efr H locs ls hl he hL0 hL1 hP hS ho
      have ho : (k0 ≤ x9 → o_Mo_entryFits_L154 u mp k0 k1 8 x3 (1 : Int32) u') ∧ (¬ k0 ≤ x9 → o_Mo_fourAt u' mp (((52 : Int32) + ((32 : Int32) * x9)) + (4 : Int32))) ∧ (¬ k0 ≤ x9 → o_Mo_fourAt u' mp (((52 : Int32) + ((32 : Int32) * x9)) + (16 : Int32))) ∧ (¬ k0 ≤ x9 → (f_Mo_meet x5 x7 ((f_Mo_fourAt u' mp (((52 : Int32) + ((32 : Int32) * x9)) + (4 : Int32))).toInt64) ((f_Mo_fourAt u' mp (((52 : Int32) + ((32 : Int32) * x9)) + (16 : Int32))).toInt64)) = 0 → o_Mo_entryFits_L91 u mp k0 k1 gn x3 x5 x7 (x9 + (1 : Int32)) u') := ho
      obtain ⟨hn31, fa32⟩ := hL0
      refine lv_iload hx hb d_Mo_entryFits_91 (lv_at hl 5 rfl) ?_
      refine lv_iload_n hx hb d_Mo_entryFits_93 rfl (lv_at hl 1 rfl) ?_
      refine lv_icmp_ge (tgt := 151) hx hb d_Mo_entryFits_94 (by decide) (fun hc33 => ?_) (fun hc33 => ?_)
      · refine lv_iconst (v := (1 : Int32)) hx hb d_Mo_entryFits_151 (by decide) ?_
        refine lv_istore (lv' := [(9, .int (1 : Int32)), (0, .ref (ad q)), (1, .int k0), (3, .int x3), (5, .long x5), (7, .long x7)]) hx hb d_Mo_entryFits_152 hl (by decide) rfl (fun ls hl => ?_)
        exact L154 8 x3 (1 : Int32) u' w (fun k hk => (efr k (by omega))) H locs ls (lv_sub hl [1, 2, 3, 0] rfl) (show (f_Mo_entryFits u mp k0 k1) = f_Mo_entryFits_L154 u mp k0 k1 8 x3 (1 : Int32) u' by rw [he, f_Mo_entryFits_L91, if_pos hc33]) (⟨hn31, fa32⟩) hL1 hP hS (ho.1 hc33)
      · refine lv_bipush (v := (52 : Int32)) hx hb d_Mo_entryFits_97 (by decide) ?_
        refine lv_bipush (v := (32 : Int32)) hx hb d_Mo_entryFits_99 (by decide) ?_
        refine lv_iload hx hb d_Mo_entryFits_101 (lv_at hl 5 rfl) ?_
        refine lv_imul hx hb d_Mo_entryFits_103 ?_
        refine lv_iadd hx hb d_Mo_entryFits_104 ?_
        refine lv_istore (lv' := [(10, .int ((52 : Int32) + ((32 : Int32) * x9))), (0, .ref (ad q)), (1, .int k0), (3, .int x3), (5, .long x5), (7, .long x7), (9, .int x9)]) hx hb d_Mo_entryFits_105 hl (by decide) rfl (fun ls hl => ?_)
        refine lv_lload hx hb d_Mo_entryFits_107 (lv_at hl 4 rfl) ?_
        refine lv_lload hx hb d_Mo_entryFits_109 (lv_at hl 5 rfl) ?_
        refine lv_aload_n hx hb d_Mo_entryFits_111 rfl (lv_at hl 1 rfl) ?_
        refine lv_iload hx hb d_Mo_entryFits_112 (lv_at hl 0 rfl) ?_
        refine lv_iconst (v := (4 : Int32)) hx hb d_Mo_entryFits_114 (by decide) ?_
        refine lv_iadd hx hb d_Mo_entryFits_115 ?_
        refine va_calli (va_runV (As := [.int (((52 : Int32) + ((32 : Int32) * x9)) + (4 : Int32))]) (rest := [.long x7, .long x5]) ⟨hx, hb, hml, hown, hA⟩ (c_Mo_fourAt l D tt ad N A zs w q u' mp (((52 : Int32) + ((32 : Int32) * x9)) + (4 : Int32)) (⟨hn31, fa32⟩) hL1 (ho.2.1 hc33)) (cwV 1 hA (cd_gV aw_699 aw_700 aw_800 aw_8 aw_701) rfl rfl rfl ⟨rfl, by decide, by decide, by decide +kernel⟩ ⟨Nat.le_of_ble_eq_true rfl, Nat.le_of_ble_eq_true rfl⟩) ⟨cd_blind, cd_recv hK hP (k := q) (by omega) fa32 rfl, fun U hU hW => ⟨rfl, cd_pre hK hP hZ hS U hU hW⟩⟩ rfl rfl hl.1 rfl (lv_room (Nat.le_of_ble_eq_true rfl)) d_Mo_entryFits_116 ⟨Nat.zero_le _, Nat.zero_le _⟩) hS (fun _ _ h => h) (fun _ h => h) (fun r34 w7 tE H locs ht hvm hr35 hP hz1 hk1 hS => ?_)
        have hP := cd_Pf ht hP
        obtain ⟨rfl, rfl⟩ := hr35
        refine lv_i2l hx hb d_Mo_entryFits_119 rfl ?_
        refine lv_aload_n hx hb d_Mo_entryFits_120 rfl (lv_at hl 1 rfl) ?_
        refine lv_iload hx hb d_Mo_entryFits_121 (lv_at hl 0 rfl) ?_
        refine lv_bipush (v := (16 : Int32)) hx hb d_Mo_entryFits_123 (by decide) ?_
        refine lv_iadd hx hb d_Mo_entryFits_125 ?_
        refine va_calli (va_runV (As := [.int (((52 : Int32) + ((32 : Int32) * x9)) + (16 : Int32))]) (rest := [.long ((f_Mo_fourAt u' mp (((52 : Int32) + ((32 : Int32) * x9)) + (4 : Int32))).toInt64), .long x7, .long x5]) ⟨hx, hb, hml, hown, hA⟩ (c_Mo_fourAt l D tt ad N A zs w q u' mp (((52 : Int32) + ((32 : Int32) * x9)) + (16 : Int32)) (⟨hn31, fa32⟩) hL1 (ho.2.2.1 hc33)) (cwV 1 hA (cd_gV aw_699 aw_700 aw_800 aw_8 aw_701) rfl rfl rfl ⟨rfl, by decide, by decide, by decide +kernel⟩ ⟨Nat.le_of_ble_eq_true rfl, Nat.le_of_ble_eq_true rfl⟩) ⟨cd_blind, cd_recv hK hP (k := q) (by omega) fa32 rfl, fun U hU hW => ⟨rfl, cd_pre hK hP hZ hS U hU hW⟩⟩ rfl rfl hl.1 rfl (lv_room (Nat.le_of_ble_eq_true rfl)) d_Mo_entryFits_126 ⟨Nat.zero_le _, Nat.zero_le _⟩) hS (fun _ _ h => h) (fun _ h => h) (fun r37 w8 tE H locs ht hvm hr38 hP hz1 hk1 hS => ?_)
        have hP := cd_Pf ht hP
        obtain ⟨rfl, rfl⟩ := hr38
        refine lv_i2l hx hb d_Mo_entryFits_129 rfl ?_
        refine va_calli (va_runS (As := [.long x5, .long x7, .long ((f_Mo_fourAt u' mp (((52 : Int32) + ((32 : Int32) * x9)) + (4 : Int32))).toInt64), .long ((f_Mo_fourAt u' mp (((52 : Int32) + ((32 : Int32) * x9)) + (16 : Int32))).toInt64)]) (rest := []) ⟨hx, hb, hml, hown, hA⟩ (c_Mo_meet l D tt ad N A zs w x5 x7 ((f_Mo_fourAt u' mp (((52 : Int32) + ((32 : Int32) * x9)) + (4 : Int32))).toInt64) ((f_Mo_fourAt u' mp (((52 : Int32) + ((32 : Int32) * x9)) + (16 : Int32))).toInt64)) (cwS 4 hA (cd_gS aw_702 aw_703 aw_8 aw_704) rfl rfl rfl ⟨rfl, by decide, by decide, by decide +kernel⟩ ⟨Nat.le_of_ble_eq_true rfl, Nat.le_of_ble_eq_true rfl⟩) ⟨cd_blind, fun U hU hW => ⟨rfl, cd_pre hK hP hZ hS U hU hW⟩⟩ rfl rfl hl.1 rfl (lv_room (Nat.le_of_ble_eq_true rfl)) d_Mo_entryFits_130 ⟨Nat.zero_le _, Nat.zero_le _⟩) hS (fun _ _ h => h) (fun _ h => h) (fun r40 w9 tE H locs ht hvm hr41 hP hz1 hk1 hS => ?_)
        have hP := cd_Pf ht hP
        obtain ⟨rfl, hbo43, rfl⟩ := hr41
        refine lv_if_eq (tgt := 145) hx hb d_Mo_entryFits_133 (by decide) (fun hc44 => ?_) (fun hc44 => ?_)
        · refine lv_iinc (k := 6) (v := (x9 + (1 : Int32))) (lv' := [(9, .int (x9 + (1 : Int32))), (10, .int ((52 : Int32) + ((32 : Int32) * x9))), (0, .ref (ad q)), (1, .int k0), (3, .int x3), (5, .long x5), (7, .long x7)]) hx hb d_Mo_entryFits_145 hl rfl (cd_inc _ _ _ (by decide)) (by decide) rfl (fun ls hl => ?_)
          refine lv_goto (tgt := 91) hx hb d_Mo_entryFits_148 (by decide) ?_
          exact ih x3 x5 x7 (x9 + (1 : Int32)) u' w (fun k hk => (efr k (by omega))) H locs ls (lv_sub hl [2, 3, 4, 5, 6, 0] rfl) (show (f_Mo_entryFits u mp k0 k1) = f_Mo_entryFits_L91 u mp k0 k1 gn x3 x5 x7 (x9 + (1 : Int32)) u' by rw [he, f_Mo_entryFits_L91, if_neg hc33, if_pos hc44]) (⟨hn31, fa32⟩) hL1 hP hS (ho.2.2.2 hc33 hc44)
        · refine lv_aload_n hx hb d_Mo_entryFits_136 rfl (lv_at hl 1 rfl) ?_
          refine lv_iconst (v := (4 : Int32)) hx hb d_Mo_entryFits_137 (by decide) ?_
          refine lv_iload_n hx hb d_Mo_entryFits_138 rfl (lv_at hl 3 rfl) ?_
          refine lv_iconst (v := (4 : Int32)) hx hb d_Mo_entryFits_139 (by decide) ?_
          refine lv_iadd hx hb d_Mo_entryFits_140 ?_
          refine va_calli (va_runV (As := [.int (4 : Int32), .int (x3 + (4 : Int32))]) (rest := []) ⟨hx, hb, hml, hown, hA⟩ (c_Mo_isWrong l D tt ad N A zs w q u' (4 : Int32) (x3 + (4 : Int32)) (⟨hn31, fa32⟩)) (cwV 2 hA (cd_gV aw_681 aw_682 aw_796 aw_8 aw_683) rfl rfl rfl ⟨rfl, by decide, by decide, by decide +kernel⟩ ⟨Nat.le_of_ble_eq_true rfl, Nat.le_of_ble_eq_true rfl⟩) ⟨cd_blind, cd_recv hK hP (k := q) (by omega) fa32 rfl, fun U hU hW => ⟨rfl, cd_pre hK hP hZ hS U hU hW⟩⟩ rfl rfl hl.1 rfl (lv_room (Nat.le_of_ble_eq_true rfl)) d_Mo_entryFits_141 ⟨Nat.zero_le _, Nat.zero_le _⟩) hS (fun _ _ h => h) (fun _ h => h) (fun r45 w10 tE H locs ht hvm hr46 hP hz1 hk1 hS => ?_)
          have hP := cd_Pf ht hP
          obtain ⟨rfl, hbo48, at49, e10⟩ := hr46
          have at50 := cd_ByAt_keep hL1 (fun k h1 h2 => e10 k (by omega))
          obtain ⟨hn51, fa52⟩ := at49
          have hf53 : (f_Mo_entryFits u mp k0 k1) = ((f_Mo_isWrong u' (4 : Int32) (x3 + (4 : Int32))).1, (f_Mo_isWrong u' (4 : Int32) (x3 + (4 : Int32))).2) := by rw [he, f_Mo_entryFits_L91, if_neg hc33, if_neg hc44]
          exact W.zret (ty := .boolean) (v := (f_Mo_isWrong u' (4 : Int32) (x3 + (4 : Int32))).1) hx hb hr (cd_nb hbo48) (fun tE ht _ => ⟨⟨_, w10, rfl, ⟨(by rw [hf53]), hbo48, (by rw [hf53]; exact ⟨hn51, fa52⟩), (fun k hk => ((e10 k (by omega)).trans (efr k (by omega))))⟩, cd_Pt ht hP⟩, hS.F ht⟩) hS.2.2 d_Mo_entryFits_144
  have hS : va_S A s.heap s.heap [] := va_S.rf
  have hl := lv_entry ([.ref (ad q), .int k0, .int k1]) (n := 11) (Nat.le_of_ble_eq_true rfl)
  rw [lg_entry_eq]
  generalize (lg_sl ([.ref (ad q), .int k0, .int k1]) ++ List.replicate (11 - (lg_sl ([.ref (ad q), .int k0, .int k1])).length) Slot.unset).toArray = ls at hl ⊢
  have hl : lv_has ls 11 [(0, .ref (ad q)), (1, .int k0), (2, .int k1)] := hl
  have ho : (¬ k0 = 0 → o_Mo_badField u mp ((52 : Int32) + ((32 : Int32) * k0)) (0 : Int32) k1) ∧ (¬ k0 = 0 → (8 : Int32) ≤ (f_Mo_badField u mp ((52 : Int32) + ((32 : Int32) * k0)) (0 : Int32) k1) → o_Mo_fourAt u mp (((52 : Int32) + ((32 : Int32) * k0)) + (4 : Int32))) ∧ (¬ k0 = 0 → (8 : Int32) ≤ (f_Mo_badField u mp ((52 : Int32) + ((32 : Int32) * k0)) (0 : Int32) k1) → o_Mo_fourAt u mp (((52 : Int32) + ((32 : Int32) * k0)) + (16 : Int32))) ∧ (¬ k0 = 0 → (8 : Int32) ≤ (f_Mo_badField u mp ((52 : Int32) + ((32 : Int32) * k0)) (0 : Int32) k1) → ((f_Mo_fourAt u mp (((52 : Int32) + ((32 : Int32) * k0)) + (4 : Int32))).toInt64 + (f_Mo_fourAt u mp (((52 : Int32) + ((32 : Int32) * k0)) + (16 : Int32))).toInt64) ≤ u.2.2.1.toInt64 → o_Mo_entryFits_L91 u mp k0 k1 8 ((52 : Int32) + ((32 : Int32) * k0)) ((f_Mo_fourAt u mp (((52 : Int32) + ((32 : Int32) * k0)) + (4 : Int32))).toInt64) ((f_Mo_fourAt u mp (((52 : Int32) + ((32 : Int32) * k0)) + (16 : Int32))).toInt64) (0 : Int32) u) ∧ (k0 = 0 → o_Mo_badField u mp ((52 : Int32) + ((32 : Int32) * k0)) (1 : Int32) k1) ∧ (k0 = 0 → (8 : Int32) ≤ (f_Mo_badField u mp ((52 : Int32) + ((32 : Int32) * k0)) (1 : Int32) k1) → o_Mo_fourAt u mp (((52 : Int32) + ((32 : Int32) * k0)) + (4 : Int32))) ∧ (k0 = 0 → (8 : Int32) ≤ (f_Mo_badField u mp ((52 : Int32) + ((32 : Int32) * k0)) (1 : Int32) k1) → o_Mo_fourAt u mp (((52 : Int32) + ((32 : Int32) * k0)) + (16 : Int32))) ∧ (k0 = 0 → (8 : Int32) ≤ (f_Mo_badField u mp ((52 : Int32) + ((32 : Int32) * k0)) (1 : Int32) k1) → ((f_Mo_fourAt u mp (((52 : Int32) + ((32 : Int32) * k0)) + (4 : Int32))).toInt64 + (f_Mo_fourAt u mp (((52 : Int32) + ((32 : Int32) * k0)) + (16 : Int32))).toInt64) ≤ u.2.2.1.toInt64 → o_Mo_entryFits_L91 u mp k0 k1 8 ((52 : Int32) + ((32 : Int32) * k0)) ((f_Mo_fourAt u mp (((52 : Int32) + ((32 : Int32) * k0)) + (4 : Int32))).toInt64) ((f_Mo_fourAt u mp (((52 : Int32) + ((32 : Int32) * k0)) + (16 : Int32))).toInt64) (0 : Int32) u) := ho
  obtain ⟨hn54, fa55⟩ := hR0
  refine lv_bipush (v := (52 : Int32)) hx hb d_Mo_entryFits_0 (by decide) ?_
  refine lv_bipush (v := (32 : Int32)) hx hb d_Mo_entryFits_2 (by decide) ?_
  refine lv_iload_n hx hb d_Mo_entryFits_4 rfl (lv_at hl 1 rfl) ?_
  refine lv_imul hx hb d_Mo_entryFits_5 ?_
  refine lv_iadd hx hb d_Mo_entryFits_6 ?_
  refine lv_istore_n (lv' := [(3, .int ((52 : Int32) + ((32 : Int32) * k0))), (0, .ref (ad q)), (1, .int k0), (2, .int k1)]) hx hb d_Mo_entryFits_7 rfl hl (by decide) rfl (fun ls hl => ?_)
  refine lv_aload_n hx hb d_Mo_entryFits_8 rfl (lv_at hl 1 rfl) ?_
  refine lv_iload_n hx hb d_Mo_entryFits_9 rfl (lv_at hl 0 rfl) ?_
  refine lv_iload_n hx hb d_Mo_entryFits_10 rfl (lv_at hl 2 rfl) ?_
  refine lv_if_ne (tgt := 18) hx hb d_Mo_entryFits_11 (by decide) (fun hc56 => ?_) (fun hc56 => ?_)
  · refine lv_iconst (v := (0 : Int32)) hx hb d_Mo_entryFits_18 (by decide) ?_
    refine lv_iload_n hx hb d_Mo_entryFits_19 rfl (lv_at hl 3 rfl) ?_
    refine va_calli (va_runV (As := [.int ((52 : Int32) + ((32 : Int32) * k0)), .int (0 : Int32), .int k1]) (rest := []) ⟨hx, hb, hml, hown, hA⟩ (c_Mo_badField l D tt ad N A zs w0 q u mp ((52 : Int32) + ((32 : Int32) * k0)) (0 : Int32) k1 (⟨hn54, fa55⟩) hR1 (ho.1 hc56)) (cwV 3 hA (cd_gV aw_696 aw_697 aw_799 aw_8 aw_698) rfl rfl rfl ⟨rfl, by decide, by decide, by decide +kernel⟩ ⟨Nat.le_of_ble_eq_true rfl, Nat.le_of_ble_eq_true rfl⟩) ⟨cd_blind, cd_recv hK hP (k := q) (by omega) fa55 rfl, fun U hU hW => ⟨rfl, cd_pre hK hP hZ hS U hU hW⟩⟩ rfl rfl hl.1 rfl (lv_room (Nat.le_of_ble_eq_true rfl)) d_Mo_entryFits_20 ⟨Nat.zero_le _, Nat.zero_le _⟩) hS (fun _ _ h => h) (fun _ h => h) (fun r57 w11 tE H locs ht hvm hr58 hP hz1 hk1 hS => ?_)
    have hP := cd_Pf ht hP
    obtain ⟨rfl, rfl⟩ := hr58
    refine lv_istore (lv' := [(4, .int (f_Mo_badField u mp ((52 : Int32) + ((32 : Int32) * k0)) (0 : Int32) k1)), (3, .int ((52 : Int32) + ((32 : Int32) * k0))), (0, .ref (ad q)), (1, .int k0), (2, .int k1)]) hx hb d_Mo_entryFits_23 hl (by decide) rfl (fun ls hl => ?_)
    refine lv_iload hx hb d_Mo_entryFits_25 (lv_at hl 0 rfl) ?_
    refine lv_bipush (v := (8 : Int32)) hx hb d_Mo_entryFits_27 (by decide) ?_
    refine lv_icmp_ge (tgt := 44) hx hb d_Mo_entryFits_29 (by decide) (fun hc60 => ?_) (fun hc60 => ?_)
    · refine lv_aload_n hx hb d_Mo_entryFits_44 rfl (lv_at hl 2 rfl) ?_
      refine lv_iload_n hx hb d_Mo_entryFits_45 rfl (lv_at hl 1 rfl) ?_
      refine lv_iconst (v := (4 : Int32)) hx hb d_Mo_entryFits_46 (by decide) ?_
      refine lv_iadd hx hb d_Mo_entryFits_47 ?_
      refine va_calli (va_runV (As := [.int (((52 : Int32) + ((32 : Int32) * k0)) + (4 : Int32))]) (rest := []) ⟨hx, hb, hml, hown, hA⟩ (c_Mo_fourAt l D tt ad N A zs w0 q u mp (((52 : Int32) + ((32 : Int32) * k0)) + (4 : Int32)) (⟨hn54, fa55⟩) hR1 (ho.2.1 hc56 hc60)) (cwV 1 hA (cd_gV aw_699 aw_700 aw_800 aw_8 aw_701) rfl rfl rfl ⟨rfl, by decide, by decide, by decide +kernel⟩ ⟨Nat.le_of_ble_eq_true rfl, Nat.le_of_ble_eq_true rfl⟩) ⟨cd_blind, cd_recv hK hP (k := q) (by omega) fa55 rfl, fun U hU hW => ⟨rfl, cd_pre hK hP hZ hS U hU hW⟩⟩ rfl rfl hl.1 rfl (lv_room (Nat.le_of_ble_eq_true rfl)) d_Mo_entryFits_48 ⟨Nat.zero_le _, Nat.zero_le _⟩) hS (fun _ _ h => h) (fun _ h => h) (fun r61 w12 tE H locs ht hvm hr62 hP hz1 hk1 hS => ?_)
      have hP := cd_Pf ht hP
      obtain ⟨rfl, rfl⟩ := hr62
      refine lv_i2l hx hb d_Mo_entryFits_51 rfl ?_
      refine lv_lstore (lv' := [(5, .long ((f_Mo_fourAt u mp (((52 : Int32) + ((32 : Int32) * k0)) + (4 : Int32))).toInt64)), (4, .int (f_Mo_badField u mp ((52 : Int32) + ((32 : Int32) * k0)) (0 : Int32) k1)), (3, .int ((52 : Int32) + ((32 : Int32) * k0))), (0, .ref (ad q)), (1, .int k0), (2, .int k1)]) hx hb d_Mo_entryFits_52 hl (by decide) rfl (fun ls hl => ?_)
      refine lv_aload_n hx hb d_Mo_entryFits_54 rfl (lv_at hl 3 rfl) ?_
      refine lv_iload_n hx hb d_Mo_entryFits_55 rfl (lv_at hl 2 rfl) ?_
      refine lv_bipush (v := (16 : Int32)) hx hb d_Mo_entryFits_56 (by decide) ?_
      refine lv_iadd hx hb d_Mo_entryFits_58 ?_
      refine va_calli (va_runV (As := [.int (((52 : Int32) + ((32 : Int32) * k0)) + (16 : Int32))]) (rest := []) ⟨hx, hb, hml, hown, hA⟩ (c_Mo_fourAt l D tt ad N A zs w0 q u mp (((52 : Int32) + ((32 : Int32) * k0)) + (16 : Int32)) (⟨hn54, fa55⟩) hR1 (ho.2.2.1 hc56 hc60)) (cwV 1 hA (cd_gV aw_699 aw_700 aw_800 aw_8 aw_701) rfl rfl rfl ⟨rfl, by decide, by decide, by decide +kernel⟩ ⟨Nat.le_of_ble_eq_true rfl, Nat.le_of_ble_eq_true rfl⟩) ⟨cd_blind, cd_recv hK hP (k := q) (by omega) fa55 rfl, fun U hU hW => ⟨rfl, cd_pre hK hP hZ hS U hU hW⟩⟩ rfl rfl hl.1 rfl (lv_room (Nat.le_of_ble_eq_true rfl)) d_Mo_entryFits_59 ⟨Nat.zero_le _, Nat.zero_le _⟩) hS (fun _ _ h => h) (fun _ h => h) (fun r64 w13 tE H locs ht hvm hr65 hP hz1 hk1 hS => ?_)
      have hP := cd_Pf ht hP
      obtain ⟨rfl, rfl⟩ := hr65
      refine lv_i2l hx hb d_Mo_entryFits_62 rfl ?_
      refine lv_lstore (lv' := [(7, .long ((f_Mo_fourAt u mp (((52 : Int32) + ((32 : Int32) * k0)) + (16 : Int32))).toInt64)), (5, .long ((f_Mo_fourAt u mp (((52 : Int32) + ((32 : Int32) * k0)) + (4 : Int32))).toInt64)), (4, .int (f_Mo_badField u mp ((52 : Int32) + ((32 : Int32) * k0)) (0 : Int32) k1)), (3, .int ((52 : Int32) + ((32 : Int32) * k0))), (0, .ref (ad q)), (1, .int k0), (2, .int k1)]) hx hb d_Mo_entryFits_63 hl (by decide) rfl (fun ls hl => ?_)
      refine lv_lload hx hb d_Mo_entryFits_65 (lv_at hl 1 rfl) ?_
      refine lv_lload hx hb d_Mo_entryFits_67 (lv_at hl 0 rfl) ?_
      refine lv_ladd hx hb d_Mo_entryFits_69 ?_
      refine lv_aload_n hx hb d_Mo_entryFits_70 rfl (lv_at hl 4 rfl) ?_
      refine g_get (ci := 7) (C := R_Mo) (T := F_Mo) (Nf := 16) (v := .int u.2.2.1) hx hb hA in_Mo hown hK hP (k := q) (by omega) fa55 rfl 12 (by decide) (hA _ aw_572) (fun _ h9 => h9) rfl d_Mo_entryFits_71 ?_
      refine lv_i2l hx hb d_Mo_entryFits_74 rfl ?_
      refine g_lif_le (tgt := 88) hx hb d_Mo_entryFits_75 d_Mo_entryFits_76 (by decide) (fun hc67 => ?_) (fun hc67 => ?_)
      · refine lv_iconst (v := (0 : Int32)) hx hb d_Mo_entryFits_88 (by decide) ?_
        refine lv_istore (lv' := [(9, .int (0 : Int32)), (7, .long ((f_Mo_fourAt u mp (((52 : Int32) + ((32 : Int32) * k0)) + (16 : Int32))).toInt64)), (5, .long ((f_Mo_fourAt u mp (((52 : Int32) + ((32 : Int32) * k0)) + (4 : Int32))).toInt64)), (4, .int (f_Mo_badField u mp ((52 : Int32) + ((32 : Int32) * k0)) (0 : Int32) k1)), (3, .int ((52 : Int32) + ((32 : Int32) * k0))), (0, .ref (ad q)), (1, .int k0), (2, .int k1)]) hx hb d_Mo_entryFits_89 hl (by decide) rfl (fun ls hl => ?_)
        exact L91 8 ((52 : Int32) + ((32 : Int32) * k0)) ((f_Mo_fourAt u mp (((52 : Int32) + ((32 : Int32) * k0)) + (4 : Int32))).toInt64) ((f_Mo_fourAt u mp (((52 : Int32) + ((32 : Int32) * k0)) + (16 : Int32))).toInt64) (0 : Int32) u w0 (fun _ _ => rfl) H locs ls (lv_sub hl [5, 6, 4, 2, 1, 0] rfl) (show (f_Mo_entryFits u mp k0 k1) = f_Mo_entryFits_L91 u mp k0 k1 8 ((52 : Int32) + ((32 : Int32) * k0)) ((f_Mo_fourAt u mp (((52 : Int32) + ((32 : Int32) * k0)) + (4 : Int32))).toInt64) ((f_Mo_fourAt u mp (((52 : Int32) + ((32 : Int32) * k0)) + (16 : Int32))).toInt64) (0 : Int32) u by rw [f_Mo_entryFits, if_neg hc56, if_pos hc60, if_pos hc67]) (⟨hn54, fa55⟩) hR1 hP hS (ho.2.2.2.1 hc56 hc60 hc67)
      · refine lv_aload_n hx hb d_Mo_entryFits_79 rfl (lv_at hl 4 rfl) ?_
        refine lv_iconst (v := (1 : Int32)) hx hb d_Mo_entryFits_80 (by decide) ?_
        refine lv_iload_n hx hb d_Mo_entryFits_81 rfl (lv_at hl 3 rfl) ?_
        refine lv_iconst (v := (4 : Int32)) hx hb d_Mo_entryFits_82 (by decide) ?_
        refine lv_iadd hx hb d_Mo_entryFits_83 ?_
        refine va_calli (va_runV (As := [.int (1 : Int32), .int (((52 : Int32) + ((32 : Int32) * k0)) + (4 : Int32))]) (rest := []) ⟨hx, hb, hml, hown, hA⟩ (c_Mo_isWrong l D tt ad N A zs w0 q u (1 : Int32) (((52 : Int32) + ((32 : Int32) * k0)) + (4 : Int32)) (⟨hn54, fa55⟩)) (cwV 2 hA (cd_gV aw_681 aw_682 aw_796 aw_8 aw_683) rfl rfl rfl ⟨rfl, by decide, by decide, by decide +kernel⟩ ⟨Nat.le_of_ble_eq_true rfl, Nat.le_of_ble_eq_true rfl⟩) ⟨cd_blind, cd_recv hK hP (k := q) (by omega) fa55 rfl, fun U hU hW => ⟨rfl, cd_pre hK hP hZ hS U hU hW⟩⟩ rfl rfl hl.1 rfl (lv_room (Nat.le_of_ble_eq_true rfl)) d_Mo_entryFits_84 ⟨Nat.zero_le _, Nat.zero_le _⟩) hS (fun _ _ h => h) (fun _ h => h) (fun r68 w14 tE H locs ht hvm hr69 hP hz1 hk1 hS => ?_)
        have hP := cd_Pf ht hP
        obtain ⟨rfl, hbo71, at72, e14⟩ := hr69
        have at73 := cd_ByAt_keep hR1 (fun k h1 h2 => e14 k (by omega))
        obtain ⟨hn74, fa75⟩ := at72
        have hf76 : (f_Mo_entryFits u mp k0 k1) = ((f_Mo_isWrong u (1 : Int32) (((52 : Int32) + ((32 : Int32) * k0)) + (4 : Int32))).1, (f_Mo_isWrong u (1 : Int32) (((52 : Int32) + ((32 : Int32) * k0)) + (4 : Int32))).2) := by rw [f_Mo_entryFits, if_neg hc56, if_pos hc60, if_neg hc67]
        exact W.zret (ty := .boolean) (v := (f_Mo_isWrong u (1 : Int32) (((52 : Int32) + ((32 : Int32) * k0)) + (4 : Int32))).1) hx hb hr (cd_nb hbo71) (fun tE ht _ => ⟨⟨_, w14, rfl, ⟨(by rw [hf76]), hbo71, (by rw [hf76]; exact ⟨hn74, fa75⟩), (fun k hk => (e14 k (by omega)))⟩, cd_Pt ht hP⟩, hS.F ht⟩) hS.2.2 d_Mo_entryFits_87
    · refine lv_aload_n hx hb d_Mo_entryFits_32 rfl (lv_at hl 2 rfl) ?_
      refine lv_iconst (v := (3 : Int32)) hx hb d_Mo_entryFits_33 (by decide) ?_
      refine lv_iload_n hx hb d_Mo_entryFits_34 rfl (lv_at hl 1 rfl) ?_
      refine lv_iconst (v := (4 : Int32)) hx hb d_Mo_entryFits_35 (by decide) ?_
      refine lv_iload hx hb d_Mo_entryFits_36 (lv_at hl 0 rfl) ?_
      refine lv_imul hx hb d_Mo_entryFits_38 ?_
      refine lv_iadd hx hb d_Mo_entryFits_39 ?_
      refine va_calli (va_runV (As := [.int (3 : Int32), .int (((52 : Int32) + ((32 : Int32) * k0)) + ((4 : Int32) * (f_Mo_badField u mp ((52 : Int32) + ((32 : Int32) * k0)) (0 : Int32) k1)))]) (rest := []) ⟨hx, hb, hml, hown, hA⟩ (c_Mo_isWrong l D tt ad N A zs w0 q u (3 : Int32) (((52 : Int32) + ((32 : Int32) * k0)) + ((4 : Int32) * (f_Mo_badField u mp ((52 : Int32) + ((32 : Int32) * k0)) (0 : Int32) k1))) (⟨hn54, fa55⟩)) (cwV 2 hA (cd_gV aw_681 aw_682 aw_796 aw_8 aw_683) rfl rfl rfl ⟨rfl, by decide, by decide, by decide +kernel⟩ ⟨Nat.le_of_ble_eq_true rfl, Nat.le_of_ble_eq_true rfl⟩) ⟨cd_blind, cd_recv hK hP (k := q) (by omega) fa55 rfl, fun U hU hW => ⟨rfl, cd_pre hK hP hZ hS U hU hW⟩⟩ rfl rfl hl.1 rfl (lv_room (Nat.le_of_ble_eq_true rfl)) d_Mo_entryFits_40 ⟨Nat.zero_le _, Nat.zero_le _⟩) hS (fun _ _ h => h) (fun _ h => h) (fun r77 w15 tE H locs ht hvm hr78 hP hz1 hk1 hS => ?_)
      have hP := cd_Pf ht hP
      obtain ⟨rfl, hbo80, at81, e15⟩ := hr78
      have at82 := cd_ByAt_keep hR1 (fun k h1 h2 => e15 k (by omega))
      obtain ⟨hn83, fa84⟩ := at81
      have hf85 : (f_Mo_entryFits u mp k0 k1) = ((f_Mo_isWrong u (3 : Int32) (((52 : Int32) + ((32 : Int32) * k0)) + ((4 : Int32) * (f_Mo_badField u mp ((52 : Int32) + ((32 : Int32) * k0)) (0 : Int32) k1)))).1, (f_Mo_isWrong u (3 : Int32) (((52 : Int32) + ((32 : Int32) * k0)) + ((4 : Int32) * (f_Mo_badField u mp ((52 : Int32) + ((32 : Int32) * k0)) (0 : Int32) k1)))).2) := by rw [f_Mo_entryFits, if_neg hc56, if_neg hc60]
      exact W.zret (ty := .boolean) (v := (f_Mo_isWrong u (3 : Int32) (((52 : Int32) + ((32 : Int32) * k0)) + ((4 : Int32) * (f_Mo_badField u mp ((52 : Int32) + ((32 : Int32) * k0)) (0 : Int32) k1)))).1) hx hb hr (cd_nb hbo80) (fun tE ht _ => ⟨⟨_, w15, rfl, ⟨(by rw [hf85]), hbo80, (by rw [hf85]; exact ⟨hn83, fa84⟩), (fun k hk => (e15 k (by omega)))⟩, cd_Pt ht hP⟩, hS.F ht⟩) hS.2.2 d_Mo_entryFits_43
  · refine lv_iconst (v := (1 : Int32)) hx hb d_Mo_entryFits_14 (by decide) ?_
    refine lv_goto (tgt := 19) hx hb d_Mo_entryFits_15 (by decide) ?_
    refine lv_iload_n hx hb d_Mo_entryFits_19 rfl (lv_at hl 3 rfl) ?_
    refine va_calli (va_runV (As := [.int ((52 : Int32) + ((32 : Int32) * k0)), .int (1 : Int32), .int k1]) (rest := []) ⟨hx, hb, hml, hown, hA⟩ (c_Mo_badField l D tt ad N A zs w0 q u mp ((52 : Int32) + ((32 : Int32) * k0)) (1 : Int32) k1 (⟨hn54, fa55⟩) hR1 (ho.2.2.2.2.1 hc56)) (cwV 3 hA (cd_gV aw_696 aw_697 aw_799 aw_8 aw_698) rfl rfl rfl ⟨rfl, by decide, by decide, by decide +kernel⟩ ⟨Nat.le_of_ble_eq_true rfl, Nat.le_of_ble_eq_true rfl⟩) ⟨cd_blind, cd_recv hK hP (k := q) (by omega) fa55 rfl, fun U hU hW => ⟨rfl, cd_pre hK hP hZ hS U hU hW⟩⟩ rfl rfl hl.1 rfl (lv_room (Nat.le_of_ble_eq_true rfl)) d_Mo_entryFits_20 ⟨Nat.zero_le _, Nat.zero_le _⟩) hS (fun _ _ h => h) (fun _ h => h) (fun r86 w16 tE H locs ht hvm hr87 hP hz1 hk1 hS => ?_)
    have hP := cd_Pf ht hP
    obtain ⟨rfl, rfl⟩ := hr87
    refine lv_istore (lv' := [(4, .int (f_Mo_badField u mp ((52 : Int32) + ((32 : Int32) * k0)) (1 : Int32) k1)), (3, .int ((52 : Int32) + ((32 : Int32) * k0))), (0, .ref (ad q)), (1, .int k0), (2, .int k1)]) hx hb d_Mo_entryFits_23 hl (by decide) rfl (fun ls hl => ?_)
    refine lv_iload hx hb d_Mo_entryFits_25 (lv_at hl 0 rfl) ?_
    refine lv_bipush (v := (8 : Int32)) hx hb d_Mo_entryFits_27 (by decide) ?_
    refine lv_icmp_ge (tgt := 44) hx hb d_Mo_entryFits_29 (by decide) (fun hc89 => ?_) (fun hc89 => ?_)
    · refine lv_aload_n hx hb d_Mo_entryFits_44 rfl (lv_at hl 2 rfl) ?_
      refine lv_iload_n hx hb d_Mo_entryFits_45 rfl (lv_at hl 1 rfl) ?_
      refine lv_iconst (v := (4 : Int32)) hx hb d_Mo_entryFits_46 (by decide) ?_
      refine lv_iadd hx hb d_Mo_entryFits_47 ?_
      refine va_calli (va_runV (As := [.int (((52 : Int32) + ((32 : Int32) * k0)) + (4 : Int32))]) (rest := []) ⟨hx, hb, hml, hown, hA⟩ (c_Mo_fourAt l D tt ad N A zs w0 q u mp (((52 : Int32) + ((32 : Int32) * k0)) + (4 : Int32)) (⟨hn54, fa55⟩) hR1 (ho.2.2.2.2.2.1 hc56 hc89)) (cwV 1 hA (cd_gV aw_699 aw_700 aw_800 aw_8 aw_701) rfl rfl rfl ⟨rfl, by decide, by decide, by decide +kernel⟩ ⟨Nat.le_of_ble_eq_true rfl, Nat.le_of_ble_eq_true rfl⟩) ⟨cd_blind, cd_recv hK hP (k := q) (by omega) fa55 rfl, fun U hU hW => ⟨rfl, cd_pre hK hP hZ hS U hU hW⟩⟩ rfl rfl hl.1 rfl (lv_room (Nat.le_of_ble_eq_true rfl)) d_Mo_entryFits_48 ⟨Nat.zero_le _, Nat.zero_le _⟩) hS (fun _ _ h => h) (fun _ h => h) (fun r90 w17 tE H locs ht hvm hr91 hP hz1 hk1 hS => ?_)
      have hP := cd_Pf ht hP
      obtain ⟨rfl, rfl⟩ := hr91
      refine lv_i2l hx hb d_Mo_entryFits_51 rfl ?_
      refine lv_lstore (lv' := [(5, .long ((f_Mo_fourAt u mp (((52 : Int32) + ((32 : Int32) * k0)) + (4 : Int32))).toInt64)), (4, .int (f_Mo_badField u mp ((52 : Int32) + ((32 : Int32) * k0)) (1 : Int32) k1)), (3, .int ((52 : Int32) + ((32 : Int32) * k0))), (0, .ref (ad q)), (1, .int k0), (2, .int k1)]) hx hb d_Mo_entryFits_52 hl (by decide) rfl (fun ls hl => ?_)
      refine lv_aload_n hx hb d_Mo_entryFits_54 rfl (lv_at hl 3 rfl) ?_
      refine lv_iload_n hx hb d_Mo_entryFits_55 rfl (lv_at hl 2 rfl) ?_
      refine lv_bipush (v := (16 : Int32)) hx hb d_Mo_entryFits_56 (by decide) ?_
      refine lv_iadd hx hb d_Mo_entryFits_58 ?_
      refine va_calli (va_runV (As := [.int (((52 : Int32) + ((32 : Int32) * k0)) + (16 : Int32))]) (rest := []) ⟨hx, hb, hml, hown, hA⟩ (c_Mo_fourAt l D tt ad N A zs w0 q u mp (((52 : Int32) + ((32 : Int32) * k0)) + (16 : Int32)) (⟨hn54, fa55⟩) hR1 (ho.2.2.2.2.2.2.1 hc56 hc89)) (cwV 1 hA (cd_gV aw_699 aw_700 aw_800 aw_8 aw_701) rfl rfl rfl ⟨rfl, by decide, by decide, by decide +kernel⟩ ⟨Nat.le_of_ble_eq_true rfl, Nat.le_of_ble_eq_true rfl⟩) ⟨cd_blind, cd_recv hK hP (k := q) (by omega) fa55 rfl, fun U hU hW => ⟨rfl, cd_pre hK hP hZ hS U hU hW⟩⟩ rfl rfl hl.1 rfl (lv_room (Nat.le_of_ble_eq_true rfl)) d_Mo_entryFits_59 ⟨Nat.zero_le _, Nat.zero_le _⟩) hS (fun _ _ h => h) (fun _ h => h) (fun r93 w18 tE H locs ht hvm hr94 hP hz1 hk1 hS => ?_)
      have hP := cd_Pf ht hP
      obtain ⟨rfl, rfl⟩ := hr94
      refine lv_i2l hx hb d_Mo_entryFits_62 rfl ?_
      refine lv_lstore (lv' := [(7, .long ((f_Mo_fourAt u mp (((52 : Int32) + ((32 : Int32) * k0)) + (16 : Int32))).toInt64)), (5, .long ((f_Mo_fourAt u mp (((52 : Int32) + ((32 : Int32) * k0)) + (4 : Int32))).toInt64)), (4, .int (f_Mo_badField u mp ((52 : Int32) + ((32 : Int32) * k0)) (1 : Int32) k1)), (3, .int ((52 : Int32) + ((32 : Int32) * k0))), (0, .ref (ad q)), (1, .int k0), (2, .int k1)]) hx hb d_Mo_entryFits_63 hl (by decide) rfl (fun ls hl => ?_)
      refine lv_lload hx hb d_Mo_entryFits_65 (lv_at hl 1 rfl) ?_
      refine lv_lload hx hb d_Mo_entryFits_67 (lv_at hl 0 rfl) ?_
      refine lv_ladd hx hb d_Mo_entryFits_69 ?_
      refine lv_aload_n hx hb d_Mo_entryFits_70 rfl (lv_at hl 4 rfl) ?_
      refine g_get (ci := 7) (C := R_Mo) (T := F_Mo) (Nf := 16) (v := .int u.2.2.1) hx hb hA in_Mo hown hK hP (k := q) (by omega) fa55 rfl 12 (by decide) (hA _ aw_572) (fun _ h9 => h9) rfl d_Mo_entryFits_71 ?_
      refine lv_i2l hx hb d_Mo_entryFits_74 rfl ?_
      refine g_lif_le (tgt := 88) hx hb d_Mo_entryFits_75 d_Mo_entryFits_76 (by decide) (fun hc96 => ?_) (fun hc96 => ?_)
      · refine lv_iconst (v := (0 : Int32)) hx hb d_Mo_entryFits_88 (by decide) ?_
        refine lv_istore (lv' := [(9, .int (0 : Int32)), (7, .long ((f_Mo_fourAt u mp (((52 : Int32) + ((32 : Int32) * k0)) + (16 : Int32))).toInt64)), (5, .long ((f_Mo_fourAt u mp (((52 : Int32) + ((32 : Int32) * k0)) + (4 : Int32))).toInt64)), (4, .int (f_Mo_badField u mp ((52 : Int32) + ((32 : Int32) * k0)) (1 : Int32) k1)), (3, .int ((52 : Int32) + ((32 : Int32) * k0))), (0, .ref (ad q)), (1, .int k0), (2, .int k1)]) hx hb d_Mo_entryFits_89 hl (by decide) rfl (fun ls hl => ?_)
        exact L91 8 ((52 : Int32) + ((32 : Int32) * k0)) ((f_Mo_fourAt u mp (((52 : Int32) + ((32 : Int32) * k0)) + (4 : Int32))).toInt64) ((f_Mo_fourAt u mp (((52 : Int32) + ((32 : Int32) * k0)) + (16 : Int32))).toInt64) (0 : Int32) u w0 (fun _ _ => rfl) H locs ls (lv_sub hl [5, 6, 4, 2, 1, 0] rfl) (show (f_Mo_entryFits u mp k0 k1) = f_Mo_entryFits_L91 u mp k0 k1 8 ((52 : Int32) + ((32 : Int32) * k0)) ((f_Mo_fourAt u mp (((52 : Int32) + ((32 : Int32) * k0)) + (4 : Int32))).toInt64) ((f_Mo_fourAt u mp (((52 : Int32) + ((32 : Int32) * k0)) + (16 : Int32))).toInt64) (0 : Int32) u by rw [f_Mo_entryFits, if_pos hc56, if_pos hc89, if_pos hc96]) (⟨hn54, fa55⟩) hR1 hP hS (ho.2.2.2.2.2.2.2 hc56 hc89 hc96)
      · refine lv_aload_n hx hb d_Mo_entryFits_79 rfl (lv_at hl 4 rfl) ?_
        refine lv_iconst (v := (1 : Int32)) hx hb d_Mo_entryFits_80 (by decide) ?_
        refine lv_iload_n hx hb d_Mo_entryFits_81 rfl (lv_at hl 3 rfl) ?_
        refine lv_iconst (v := (4 : Int32)) hx hb d_Mo_entryFits_82 (by decide) ?_
        refine lv_iadd hx hb d_Mo_entryFits_83 ?_
        refine va_calli (va_runV (As := [.int (1 : Int32), .int (((52 : Int32) + ((32 : Int32) * k0)) + (4 : Int32))]) (rest := []) ⟨hx, hb, hml, hown, hA⟩ (c_Mo_isWrong l D tt ad N A zs w0 q u (1 : Int32) (((52 : Int32) + ((32 : Int32) * k0)) + (4 : Int32)) (⟨hn54, fa55⟩)) (cwV 2 hA (cd_gV aw_681 aw_682 aw_796 aw_8 aw_683) rfl rfl rfl ⟨rfl, by decide, by decide, by decide +kernel⟩ ⟨Nat.le_of_ble_eq_true rfl, Nat.le_of_ble_eq_true rfl⟩) ⟨cd_blind, cd_recv hK hP (k := q) (by omega) fa55 rfl, fun U hU hW => ⟨rfl, cd_pre hK hP hZ hS U hU hW⟩⟩ rfl rfl hl.1 rfl (lv_room (Nat.le_of_ble_eq_true rfl)) d_Mo_entryFits_84 ⟨Nat.zero_le _, Nat.zero_le _⟩) hS (fun _ _ h => h) (fun _ h => h) (fun r97 w19 tE H locs ht hvm hr98 hP hz1 hk1 hS => ?_)
        have hP := cd_Pf ht hP
        obtain ⟨rfl, hbo100, at101, e19⟩ := hr98
        have at102 := cd_ByAt_keep hR1 (fun k h1 h2 => e19 k (by omega))
        obtain ⟨hn103, fa104⟩ := at101
        have hf105 : (f_Mo_entryFits u mp k0 k1) = ((f_Mo_isWrong u (1 : Int32) (((52 : Int32) + ((32 : Int32) * k0)) + (4 : Int32))).1, (f_Mo_isWrong u (1 : Int32) (((52 : Int32) + ((32 : Int32) * k0)) + (4 : Int32))).2) := by rw [f_Mo_entryFits, if_pos hc56, if_pos hc89, if_neg hc96]
        exact W.zret (ty := .boolean) (v := (f_Mo_isWrong u (1 : Int32) (((52 : Int32) + ((32 : Int32) * k0)) + (4 : Int32))).1) hx hb hr (cd_nb hbo100) (fun tE ht _ => ⟨⟨_, w19, rfl, ⟨(by rw [hf105]), hbo100, (by rw [hf105]; exact ⟨hn103, fa104⟩), (fun k hk => (e19 k (by omega)))⟩, cd_Pt ht hP⟩, hS.F ht⟩) hS.2.2 d_Mo_entryFits_87
    · refine lv_aload_n hx hb d_Mo_entryFits_32 rfl (lv_at hl 2 rfl) ?_
      refine lv_iconst (v := (3 : Int32)) hx hb d_Mo_entryFits_33 (by decide) ?_
      refine lv_iload_n hx hb d_Mo_entryFits_34 rfl (lv_at hl 1 rfl) ?_
      refine lv_iconst (v := (4 : Int32)) hx hb d_Mo_entryFits_35 (by decide) ?_
      refine lv_iload hx hb d_Mo_entryFits_36 (lv_at hl 0 rfl) ?_
      refine lv_imul hx hb d_Mo_entryFits_38 ?_
      refine lv_iadd hx hb d_Mo_entryFits_39 ?_
      refine va_calli (va_runV (As := [.int (3 : Int32), .int (((52 : Int32) + ((32 : Int32) * k0)) + ((4 : Int32) * (f_Mo_badField u mp ((52 : Int32) + ((32 : Int32) * k0)) (1 : Int32) k1)))]) (rest := []) ⟨hx, hb, hml, hown, hA⟩ (c_Mo_isWrong l D tt ad N A zs w0 q u (3 : Int32) (((52 : Int32) + ((32 : Int32) * k0)) + ((4 : Int32) * (f_Mo_badField u mp ((52 : Int32) + ((32 : Int32) * k0)) (1 : Int32) k1))) (⟨hn54, fa55⟩)) (cwV 2 hA (cd_gV aw_681 aw_682 aw_796 aw_8 aw_683) rfl rfl rfl ⟨rfl, by decide, by decide, by decide +kernel⟩ ⟨Nat.le_of_ble_eq_true rfl, Nat.le_of_ble_eq_true rfl⟩) ⟨cd_blind, cd_recv hK hP (k := q) (by omega) fa55 rfl, fun U hU hW => ⟨rfl, cd_pre hK hP hZ hS U hU hW⟩⟩ rfl rfl hl.1 rfl (lv_room (Nat.le_of_ble_eq_true rfl)) d_Mo_entryFits_40 ⟨Nat.zero_le _, Nat.zero_le _⟩) hS (fun _ _ h => h) (fun _ h => h) (fun r106 w20 tE H locs ht hvm hr107 hP hz1 hk1 hS => ?_)
      have hP := cd_Pf ht hP
      obtain ⟨rfl, hbo109, at110, e20⟩ := hr107
      have at111 := cd_ByAt_keep hR1 (fun k h1 h2 => e20 k (by omega))
      obtain ⟨hn112, fa113⟩ := at110
      have hf114 : (f_Mo_entryFits u mp k0 k1) = ((f_Mo_isWrong u (3 : Int32) (((52 : Int32) + ((32 : Int32) * k0)) + ((4 : Int32) * (f_Mo_badField u mp ((52 : Int32) + ((32 : Int32) * k0)) (1 : Int32) k1)))).1, (f_Mo_isWrong u (3 : Int32) (((52 : Int32) + ((32 : Int32) * k0)) + ((4 : Int32) * (f_Mo_badField u mp ((52 : Int32) + ((32 : Int32) * k0)) (1 : Int32) k1)))).2) := by rw [f_Mo_entryFits, if_pos hc56, if_neg hc89]
      exact W.zret (ty := .boolean) (v := (f_Mo_isWrong u (3 : Int32) (((52 : Int32) + ((32 : Int32) * k0)) + ((4 : Int32) * (f_Mo_badField u mp ((52 : Int32) + ((32 : Int32) * k0)) (1 : Int32) k1)))).1) hx hb hr (cd_nb hbo109) (fun tE ht _ => ⟨⟨_, w20, rfl, ⟨(by rw [hf114]), hbo109, (by rw [hf114]; exact ⟨hn112, fa113⟩), (fun k hk => (e20 k (by omega)))⟩, cd_Pt ht hP⟩, hS.F ht⟩) hS.2.2 d_Mo_entryFits_43
