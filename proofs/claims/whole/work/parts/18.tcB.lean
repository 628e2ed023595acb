def f_Tc_bytesPass_L53 (u : cd_Tc) (np : Nat) (up : cd_Row) (k : Int32) : Nat → Int32 → Int32 → Int32 → Int32 × cd_Tc
  | 0, _, _, _ => default
  | gn + 1, x, y, i => (if k ≤ i then ((1 : Int32), u) else (if (f_Mem_overlap x y (f_Tc_entryField u np up i (1 : Int32)) (f_Tc_entryField u np up i (4 : Int32))) = 0 then (f_Tc_bytesPass_L53 u np up k gn x y (i + (1 : Int32))) else ((f_Tc_refuse u (4 : Int32) (f_Tc_fieldPlace u k (1 : Int32))).1, (f_Tc_refuse u (4 : Int32) (f_Tc_fieldPlace u k (1 : Int32))).2)))
def f_Tc_bytesPass (u : cd_Tc) (np : Nat) (up : cd_Row) (k : Int32) : Int32 × cd_Tc := (if (f_Row_length np up) < (f_Tc_entryField u np up k (1 : Int32)) then ((f_Tc_refuse u (1 : Int32) (f_Tc_fieldPlace u k (1 : Int32))).1, (f_Tc_refuse u (1 : Int32) (f_Tc_fieldPlace u k (1 : Int32))).2) else (if (f_Tc_entryField u np up k (4 : Int32)) ≤ ((f_Row_length np up) - (f_Tc_entryField u np up k (1 : Int32))) then (f_Tc_bytesPass_L53 u np up k 8 (f_Tc_entryField u np up k (1 : Int32)) (f_Tc_entryField u np up k (4 : Int32)) (0 : Int32)) else ((f_Tc_refuse u (1 : Int32) (f_Tc_fieldPlace u k (1 : Int32))).1, (f_Tc_refuse u (1 : Int32) (f_Tc_fieldPlace u k (1 : Int32))).2)))
def o_Tc_bytesPass_L53 (u : cd_Tc) (np : Nat) (up : cd_Row) (k : Int32) : Nat → Int32 → Int32 → Int32 → Prop
  | 0, _, _, _ => False
  | gn + 1, x, y, i => (¬ k ≤ i → o_Tc_entryField u np up i (1 : Int32)) ∧ (¬ k ≤ i → o_Tc_entryField u np up i (4 : Int32)) ∧ (¬ k ≤ i → (f_Mem_overlap x y (f_Tc_entryField u np up i (1 : Int32)) (f_Tc_entryField u np up i (4 : Int32))) = 0 → o_Tc_bytesPass_L53 u np up k gn x y (i + (1 : Int32)))
def o_Tc_bytesPass (u : cd_Tc) (np : Nat) (up : cd_Row) (k : Int32) : Prop := (o_Tc_entryField u np up k (1 : Int32)) ∧ (o_Tc_entryField u np up k (4 : Int32)) ∧ (¬ (f_Row_length np up) < (f_Tc_entryField u np up k (1 : Int32)) → (f_Tc_entryField u np up k (4 : Int32)) ≤ ((f_Row_length np up) - (f_Tc_entryField u np up k (1 : Int32))) → o_Tc_bytesPass_L53 u np up k 8 (f_Tc_entryField u np up k (1 : Int32)) (f_Tc_entryField u np up k (4 : Int32)) (0 : Int32))
set_option maxHeartbeats 4000000 in
set_option maxRecDepth 100000 in
theorem c_Tc_bytesPass (l : Launch) (D : va_G) (tt : Nat → ClassId) (ad : Nat → Nat) (N : Nat) (A : Nat → Prop) (zs : Nat → Nat) (w0 : Nat → va_E) (q qp : Nat) (u : cd_Tc) (np : Nat) (up : cd_Row) (k : Int32) (hR0 : cd_TcAt N tt ad w0 q qp u) (hR1 : cd_RowAt N tt ad w0 qp np up) (hap0 : qp + 2 ≤ q ∨ q + 4 ≤ qp) (ho : o_Tc_bytesPass u np up k) : Met l y_Tc_bytesPass w_Tc_bytesPass ({ frames := 2, cells := 0, slots := 0, locals := 46 }) (va_Pc [.ref (ad q), .int k] (cd_U D tt ad N A zs w0)) (va_Qi (fun r w' => (f_Tc_bytesPass u np up k).1 = r ∧ (r = 0 ∨ r = 1) ∧ cd_TcAt N tt ad w' q qp ((f_Tc_bytesPass u np up k).2) ∧ (∀ k : Nat, (k < q ∨ q + 1 ≤ k) → w' k = w0 k)) (fun w' t => cd_P D ad N A w' t.heap) A) 0 0 A := by
  refine Met.ofW (cc := b_Tc_bytesPass) (maxL := 5) (ret := (some .boolean)) (by decide) rfl ?_
  intro p e s m args below meth c s₁ B hml hv
  obtain ⟨rfl, hP, hK, hZ⟩ := hv
  have hx := B.exec
  have hb := B.bytes
  have hr := B.returns
  have hA : ∀ w ∈ cd_AW, w.before _ s = true := fun w h => atoms_spec (ws := w_Tc_bytesPass) B.pre w (List.mem_cons_of_mem _ h)
  have hown : s.vm.findClass R_Tc = some m.cls := findClass_of_methodNamed B.named
  have hlocks := B.notSynchronized
  have L53 : ∀ (gn : Nat) (x : Int32) (y : Int32) (i : Int32) (w : Nat → va_E) (efr : ∀ k : Nat, (k < q ∨ q + 1 ≤ k) → w k = w0 k) (H : Heap) (locs : List Loc) (ls : Array Slot), lv_has ls 5 [(0, .ref (ad q)), (1, .int k), (2, .int x), (3, .int y), (4, .int i)] → (f_Tc_bytesPass u np up k) = f_Tc_bytesPass_L53 u np up k gn x y i → cd_TcAt N tt ad w q qp u → cd_RowAt N tt ad w qp np up → cd_P D ad N A w H → va_S A s.heap H locs → o_Tc_bytesPass_L53 u np up k gn x y i → W p l e (headSpec w_Tc_bytesPass ({ frames := 2, cells := 0, slots := 0, locals := 46 })).room s m [.ref (ad q), .int k].toArray below meth c H locs 0 0 (MQ below (va_Qi (fun r w' => (f_Tc_bytesPass u np up k).1 = r ∧ (r = 0 ∨ r = 1) ∧ cd_TcAt N tt ad w' q qp ((f_Tc_bytesPass u np up k).2) ∧ (∀ k : Nat, (k < q ∨ q + 1 ≤ k) → w' k = w0 k)) (fun w' t => cd_P D ad N A w' t.heap) A) [.ref (ad q), .int k].toArray s 0 0 A) (F0 m 53 ls []) := by
    intro gn
    induction gn with
    | zero => intro x y i w efr H locs ls hl he hL0 hL1 hP hS ho; exact ho.elim
    | succ gn ih =>
      intro x y i w efr H locs ls hl he hL0 hL1 hP hS ho
      have ho : (¬ k ≤ i → o_Tc_entryField u np up i (1 : Int32)) ∧ (¬ k ≤ i → o_Tc_entryField u np up i (4 : Int32)) ∧ (¬ k ≤ i → (f_Mem_overlap x y (f_Tc_entryField u np up i (1 : Int32)) (f_Tc_entryField u np up i (4 : Int32))) = 0 → o_Tc_bytesPass_L53 u np up k gn x y (i + (1 : Int32))) := ho
      obtain ⟨hn1, fa2⟩ := hL0
      refine lv_iload hx hb d_Tc_bytesPass_53 (lv_at hl 4 rfl) ?_
      refine lv_iload_n hx hb d_Tc_bytesPass_55 rfl (lv_at hl 1 rfl) ?_
      refine lv_icmp_ge (tgt := 99) hx hb d_Tc_bytesPass_56 (by decide) (fun hc3 => ?_) (fun hc3 => ?_)
      · refine lv_iconst (v := (1 : Int32)) hx hb d_Tc_bytesPass_99 (by decide) ?_
        have hf4 : (f_Tc_bytesPass u np up k) = ((1 : Int32), u) := by rw [he, f_Tc_bytesPass_L53, if_pos hc3]
        exact W.zret (ty := .boolean) (v := (1 : Int32)) hx hb hr rfl (fun tE ht _ => ⟨⟨_, w, rfl, ⟨(by rw [hf4]), (Or.inr rfl), (by rw [hf4]; exact ⟨hn1, fa2⟩), (fun k hk => (efr k (by omega)))⟩, cd_Pt ht hP⟩, hS.F ht⟩) hS.2.2 d_Tc_bytesPass_100
      · refine lv_iload_n hx hb d_Tc_bytesPass_59 rfl (lv_at hl 2 rfl) ?_
        refine lv_iload_n hx hb d_Tc_bytesPass_60 rfl (lv_at hl 3 rfl) ?_
        refine lv_aload_n hx hb d_Tc_bytesPass_61 rfl (lv_at hl 0 rfl) ?_
        refine lv_iload hx hb d_Tc_bytesPass_62 (lv_at hl 4 rfl) ?_
        refine lv_iconst (v := (1 : Int32)) hx hb d_Tc_bytesPass_64 (by decide) ?_
        refine va_calli (va_runV (As := [.int i, .int (1 : Int32)]) (rest := [.int y, .int x]) ⟨hx, hb, hml, hown, hA⟩ (c_Tc_entryField l D tt ad N A zs w q qp u np up i (1 : Int32) (⟨hn1, fa2⟩) hL1 (ho.1 hc3)) (cwV 2 hA (cd_gV aw_429 aw_430 aw_431 aw_7 aw_432) rfl rfl rfl ⟨rfl, by decide, by decide, by decide +kernel⟩ ⟨Nat.le_of_ble_eq_true rfl, Nat.le_of_ble_eq_true rfl⟩) ⟨cd_blind, cd_recv hK hP (k := q) (by omega) fa2 rfl, fun U hU hW => ⟨rfl, cd_pre hK hP hZ hS U hU hW⟩⟩ rfl rfl hl.1 rfl (lv_room (Nat.le_of_ble_eq_true rfl)) d_Tc_bytesPass_65 ⟨Nat.zero_le _, Nat.zero_le _⟩) hS (fun _ _ h => h) (fun _ h => h) (fun r5 w1 tE H locs ht hvm hr6 hP hz1 hk1 hS => ?_)
        have hP := cd_Pf ht hP
        obtain ⟨rfl, rfl⟩ := hr6
        refine lv_aload_n hx hb d_Tc_bytesPass_68 rfl (lv_at hl 0 rfl) ?_
        refine lv_iload hx hb d_Tc_bytesPass_69 (lv_at hl 4 rfl) ?_
        refine lv_iconst (v := (4 : Int32)) hx hb d_Tc_bytesPass_71 (by decide) ?_
        refine va_calli (va_runV (As := [.int i, .int (4 : Int32)]) (rest := [.int (f_Tc_entryField u np up i (1 : Int32)), .int y, .int x]) ⟨hx, hb, hml, hown, hA⟩ (c_Tc_entryField l D tt ad N A zs w q qp u np up i (4 : Int32) (⟨hn1, fa2⟩) hL1 (ho.2.1 hc3)) (cwV 2 hA (cd_gV aw_429 aw_430 aw_431 aw_7 aw_432) rfl rfl rfl ⟨rfl, by decide, by decide, by decide +kernel⟩ ⟨Nat.le_of_ble_eq_true rfl, Nat.le_of_ble_eq_true rfl⟩) ⟨cd_blind, cd_recv hK hP (k := q) (by omega) fa2 rfl, fun U hU hW => ⟨rfl, cd_pre hK hP hZ hS U hU hW⟩⟩ rfl rfl hl.1 rfl (lv_room (Nat.le_of_ble_eq_true rfl)) d_Tc_bytesPass_72 ⟨Nat.zero_le _, Nat.zero_le _⟩) hS (fun _ _ h => h) (fun _ h => h) (fun r8 w2 tE H locs ht hvm hr9 hP hz1 hk1 hS => ?_)
        have hP := cd_Pf ht hP
        obtain ⟨rfl, rfl⟩ := hr9
        refine va_calli (va_runS (As := [.int x, .int y, .int (f_Tc_entryField u np up i (1 : Int32)), .int (f_Tc_entryField u np up i (4 : Int32))]) (rest := []) ⟨hx, hb, hml, hown, hA⟩ (c_Mem_overlap l D tt ad N A zs w x y (f_Tc_entryField u np up i (1 : Int32)) (f_Tc_entryField u np up i (4 : Int32))) (va_cwS 4 hA (cd_gSx aw_443 aw_131 aw_2 aw_132) rfl rfl rfl ⟨by decide, by decide, by decide +kernel⟩ ⟨Nat.le_of_ble_eq_true rfl, Nat.le_of_ble_eq_true rfl⟩) ⟨cd_blind, fun U hU hW => ⟨rfl, cd_pre hK hP hZ hS U hU hW⟩⟩ rfl rfl hl.1 rfl (lv_room (Nat.le_of_ble_eq_true rfl)) d_Tc_bytesPass_75 ⟨Nat.zero_le _, Nat.zero_le _⟩) hS (fun _ _ h => h) (fun _ h => h) (fun r11 w3 tE H locs ht hvm hr12 hP hz1 hk1 hS => ?_)
        have hP := cd_Pf ht hP
        obtain ⟨rfl, hbo14, rfl⟩ := hr12
        refine lv_if_eq (tgt := 93) hx hb d_Tc_bytesPass_78 (by decide) (fun hc15 => ?_) (fun hc15 => ?_)
        · refine lv_iinc (k := 4) (v := (i + (1 : Int32))) (lv' := [(4, .int (i + (1 : Int32))), (0, .ref (ad q)), (1, .int k), (2, .int x), (3, .int y)]) hx hb d_Tc_bytesPass_93 hl rfl (cd_inc _ _ _ (by decide)) (by decide) rfl (fun ls hl => ?_)
          refine lv_goto (tgt := 53) hx hb d_Tc_bytesPass_96 (by decide) ?_
          exact ih x y (i + (1 : Int32)) w (fun k hk => (efr k (by omega))) H locs ls (lv_sub hl [1, 2, 3, 4, 0] rfl) (show (f_Tc_bytesPass u np up k) = f_Tc_bytesPass_L53 u np up k gn x y (i + (1 : Int32)) by rw [he, f_Tc_bytesPass_L53, if_neg hc3, if_pos hc15]) (⟨hn1, fa2⟩) hL1 hP hS (ho.2.2 hc3 hc15)
        · refine lv_aload_n hx hb d_Tc_bytesPass_81 rfl (lv_at hl 0 rfl) ?_
          refine lv_iconst (v := (4 : Int32)) hx hb d_Tc_bytesPass_82 (by decide) ?_
          refine lv_aload_n hx hb d_Tc_bytesPass_83 rfl (lv_at hl 0 rfl) ?_
          refine lv_iload_n hx hb d_Tc_bytesPass_84 rfl (lv_at hl 1 rfl) ?_
          refine lv_iconst (v := (1 : Int32)) hx hb d_Tc_bytesPass_85 (by decide) ?_
          refine va_calli (va_runV (As := [.int k, .int (1 : Int32)]) (rest := [.int (4 : Int32), .ref (ad q)]) ⟨hx, hb, hml, hown, hA⟩ (c_Tc_fieldPlace l D tt ad N A zs w q qp u k (1 : Int32) (⟨hn1, fa2⟩)) (cwV 2 hA (cd_gV aw_420 aw_421 aw_770 aw_7 aw_422) rfl rfl rfl ⟨rfl, by decide, by decide, by decide +kernel⟩ ⟨Nat.le_of_ble_eq_true rfl, Nat.le_of_ble_eq_true rfl⟩) ⟨cd_blind, cd_recv hK hP (k := q) (by omega) fa2 rfl, fun U hU hW => ⟨rfl, cd_pre hK hP hZ hS U hU hW⟩⟩ rfl rfl hl.1 rfl (lv_room (Nat.le_of_ble_eq_true rfl)) d_Tc_bytesPass_86 ⟨Nat.zero_le _, Nat.zero_le _⟩) hS (fun _ _ h => h) (fun _ h => h) (fun r16 w4 tE H locs ht hvm hr17 hP hz1 hk1 hS => ?_)
          have hP := cd_Pf ht hP
          obtain ⟨rfl, rfl⟩ := hr17
          refine va_calli (va_runV (As := [.int (4 : Int32), .int (f_Tc_fieldPlace u k (1 : Int32))]) (rest := []) ⟨hx, hb, hml, hown, hA⟩ (c_Tc_refuse l D tt ad N A zs w q qp u (4 : Int32) (f_Tc_fieldPlace u k (1 : Int32)) (⟨hn1, fa2⟩)) (cwV 2 hA (cd_gV aw_406 aw_407 aw_768 aw_7 aw_408) rfl rfl rfl ⟨rfl, by decide, by decide, by decide +kernel⟩ ⟨Nat.le_of_ble_eq_true rfl, Nat.le_of_ble_eq_true rfl⟩) ⟨cd_blind, cd_recv hK hP (k := q) (by omega) fa2 rfl, fun U hU hW => ⟨rfl, cd_pre hK hP hZ hS U hU hW⟩⟩ rfl rfl hl.1 rfl (lv_room (Nat.le_of_ble_eq_true rfl)) d_Tc_bytesPass_89 ⟨Nat.zero_le _, Nat.zero_le _⟩) hS (fun _ _ h => h) (fun _ h => h) (fun r19 w5 tE H locs ht hvm hr20 hP hz1 hk1 hS => ?_)
          have hP := cd_Pf ht hP
          obtain ⟨rfl, hbo22, at23, e5⟩ := hr20
          have at24 := cd_RowAt_keep hL1 (fun k h1 h2 => e5 k (by omega))
          obtain ⟨hn25, fa26⟩ := at23
          have hf27 : (f_Tc_bytesPass u np up k) = ((f_Tc_refuse u (4 : Int32) (f_Tc_fieldPlace u k (1 : Int32))).1, (f_Tc_refuse u (4 : Int32) (f_Tc_fieldPlace u k (1 : Int32))).2) := by rw [he, f_Tc_bytesPass_L53, if_neg hc3, if_neg hc15]
          exact W.zret (ty := .boolean) (v := (f_Tc_refuse u (4 : Int32) (f_Tc_fieldPlace u k (1 : Int32))).1) hx hb hr (cd_nb hbo22) (fun tE ht _ => ⟨⟨_, w5, rfl, ⟨(by rw [hf27]), hbo22, (by rw [hf27]; exact ⟨hn25, fa26⟩), (fun k hk => ((e5 k (by omega)).trans (efr k (by omega))))⟩, cd_Pt ht hP⟩, hS.F ht⟩) hS.2.2 d_Tc_bytesPass_92
  have hS : va_S A s.heap s.heap [] := va_S.rf
  have hl := lv_entry ([.ref (ad q), .int k]) (n := 5) (Nat.le_of_ble_eq_true rfl)
  rw [lg_entry_eq]
  generalize (lg_sl ([.ref (ad q), .int k]) ++ List.replicate (5 - (lg_sl ([.ref (ad q), .int k])).length) Slot.unset).toArray = ls at hl ⊢
  have hl : lv_has ls 5 [(0, .ref (ad q)), (1, .int k)] := hl
  have ho : (o_Tc_entryField u np up k (1 : Int32)) ∧ (o_Tc_entryField u np up k (4 : Int32)) ∧ (¬ (f_Row_length np up) < (f_Tc_entryField u np up k (1 : Int32)) → (f_Tc_entryField u np up k (4 : Int32)) ≤ ((f_Row_length np up) - (f_Tc_entryField u np up k (1 : Int32))) → o_Tc_bytesPass_L53 u np up k 8 (f_Tc_entryField u np up k (1 : Int32)) (f_Tc_entryField u np up k (4 : Int32)) (0 : Int32)) := ho
  obtain ⟨hn28, fa29⟩ := hR0
  refine lv_aload_n hx hb d_Tc_bytesPass_0 rfl (lv_at hl 0 rfl) ?_
  refine lv_iload_n hx hb d_Tc_bytesPass_1 rfl (lv_at hl 1 rfl) ?_
  refine lv_iconst (v := (1 : Int32)) hx hb d_Tc_bytesPass_2 (by decide) ?_
  refine va_calli (va_runV (As := [.int k, .int (1 : Int32)]) (rest := []) ⟨hx, hb, hml, hown, hA⟩ (c_Tc_entryField l D tt ad N A zs w0 q qp u np up k (1 : Int32) (⟨hn28, fa29⟩) hR1 (ho.1)) (cwV 2 hA (cd_gV aw_429 aw_430 aw_431 aw_7 aw_432) rfl rfl rfl ⟨rfl, by decide, by decide, by decide +kernel⟩ ⟨Nat.le_of_ble_eq_true rfl, Nat.le_of_ble_eq_true rfl⟩) ⟨cd_blind, cd_recv hK hP (k := q) (by omega) fa29 rfl, fun U hU hW => ⟨rfl, cd_pre hK hP hZ hS U hU hW⟩⟩ rfl rfl hl.1 rfl (lv_room (Nat.le_of_ble_eq_true rfl)) d_Tc_bytesPass_3 ⟨Nat.zero_le _, Nat.zero_le _⟩) hS (fun _ _ h => h) (fun _ h => h) (fun r30 w6 tE H locs ht hvm hr31 hP hz1 hk1 hS => ?_)
  have hP := cd_Pf ht hP
  obtain ⟨rfl, rfl⟩ := hr31
  refine lv_istore_n (lv' := [(2, .int (f_Tc_entryField u np up k (1 : Int32))), (0, .ref (ad q)), (1, .int k)]) hx hb d_Tc_bytesPass_6 rfl hl (by decide) rfl (fun ls hl => ?_)
  refine lv_aload_n hx hb d_Tc_bytesPass_7 rfl (lv_at hl 1 rfl) ?_
  refine lv_iload_n hx hb d_Tc_bytesPass_8 rfl (lv_at hl 2 rfl) ?_
  refine lv_iconst (v := (4 : Int32)) hx hb d_Tc_bytesPass_9 (by decide) ?_
  refine va_calli (va_runV (As := [.int k, .int (4 : Int32)]) (rest := []) ⟨hx, hb, hml, hown, hA⟩ (c_Tc_entryField l D tt ad N A zs w0 q qp u np up k (4 : Int32) (⟨hn28, fa29⟩) hR1 (ho.2.1)) (cwV 2 hA (cd_gV aw_429 aw_430 aw_431 aw_7 aw_432) rfl rfl rfl ⟨rfl, by decide, by decide, by decide +kernel⟩ ⟨Nat.le_of_ble_eq_true rfl, Nat.le_of_ble_eq_true rfl⟩) ⟨cd_blind, cd_recv hK hP (k := q) (by omega) fa29 rfl, fun U hU hW => ⟨rfl, cd_pre hK hP hZ hS U hU hW⟩⟩ rfl rfl hl.1 rfl (lv_room (Nat.le_of_ble_eq_true rfl)) d_Tc_bytesPass_10 ⟨Nat.zero_le _, Nat.zero_le _⟩) hS (fun _ _ h => h) (fun _ h => h) (fun r33 w7 tE H locs ht hvm hr34 hP hz1 hk1 hS => ?_)
  have hP := cd_Pf ht hP
  obtain ⟨rfl, rfl⟩ := hr34
  refine lv_istore_n (lv' := [(3, .int (f_Tc_entryField u np up k (4 : Int32))), (2, .int (f_Tc_entryField u np up k (1 : Int32))), (0, .ref (ad q)), (1, .int k)]) hx hb d_Tc_bytesPass_13 rfl hl (by decide) rfl (fun ls hl => ?_)
  refine lv_iload_n hx hb d_Tc_bytesPass_14 rfl (lv_at hl 1 rfl) ?_
  refine lv_aload_n hx hb d_Tc_bytesPass_15 rfl (lv_at hl 2 rfl) ?_
  refine g_get (ci := 5) (C := R_Tc) (T := F_Tc) (Nf := 4) (v := .ref (ad qp)) hx hb hA in_Tc hown hK hP (k := q) (by omega) fa29 rfl 0 (by decide) (hA _ aw_92) (fun _ h9 => h9) rfl d_Tc_bytesPass_16 ?_
  obtain ⟨hn36, fa37, fa38⟩ := hR1
  refine va_calli (va_runV (As := []) (rest := [.int (f_Tc_entryField u np up k (1 : Int32))]) ⟨hx, hb, hml, hown, hA⟩ (c_Row_length l D tt ad N A zs w0 qp np up (⟨hn36, fa37, fa38⟩)) (cwV 0 hA (cd_gV aw_405 aw_285 aw_286 aw_5 aw_287) rfl rfl rfl ⟨rfl, by decide, by decide, by decide +kernel⟩ ⟨Nat.le_of_ble_eq_true rfl, Nat.le_of_ble_eq_true rfl⟩) ⟨cd_blind, cd_recv hK hP (k := qp) (by omega) fa37 rfl, fun U hU hW => ⟨rfl, cd_pre hK hP hZ hS U hU hW⟩⟩ rfl rfl hl.1 rfl (lv_room (Nat.le_of_ble_eq_true rfl)) d_Tc_bytesPass_19 ⟨Nat.zero_le _, Nat.zero_le _⟩) hS (fun _ _ h => h) (fun _ h => h) (fun r39 w8 tE H locs ht hvm hr40 hP hz1 hk1 hS => ?_)
  have hP := cd_Pf ht hP
  obtain ⟨rfl, rfl⟩ := hr40
  refine lv_icmp_gt (tgt := 38) hx hb d_Tc_bytesPass_22 (by decide) (fun hc42 => ?_) (fun hc42 => ?_)
  · refine lv_aload_n hx hb d_Tc_bytesPass_38 rfl (lv_at hl 2 rfl) ?_
    refine lv_iconst (v := (1 : Int32)) hx hb d_Tc_bytesPass_39 (by decide) ?_
    refine lv_aload_n hx hb d_Tc_bytesPass_40 rfl (lv_at hl 2 rfl) ?_
    refine lv_iload_n hx hb d_Tc_bytesPass_41 rfl (lv_at hl 3 rfl) ?_
    refine lv_iconst (v := (1 : Int32)) hx hb d_Tc_bytesPass_42 (by decide) ?_
    refine va_calli (va_runV (As := [.int k, .int (1 : Int32)]) (rest := [.int (1 : Int32), .ref (ad q)]) ⟨hx, hb, hml, hown, hA⟩ (c_Tc_fieldPlace l D tt ad N A zs w0 q qp u k (1 : Int32) (⟨hn28, fa29⟩)) (cwV 2 hA (cd_gV aw_420 aw_421 aw_770 aw_7 aw_422) rfl rfl rfl ⟨rfl, by decide, by decide, by decide +kernel⟩ ⟨Nat.le_of_ble_eq_true rfl, Nat.le_of_ble_eq_true rfl⟩) ⟨cd_blind, cd_recv hK hP (k := q) (by omega) fa29 rfl, fun U hU hW => ⟨rfl, cd_pre hK hP hZ hS U hU hW⟩⟩ rfl rfl hl.1 rfl (lv_room (Nat.le_of_ble_eq_true rfl)) d_Tc_bytesPass_43 ⟨Nat.zero_le _, Nat.zero_le _⟩) hS (fun _ _ h => h) (fun _ h => h) (fun r43 w9 tE H locs ht hvm hr44 hP hz1 hk1 hS => ?_)
    have hP := cd_Pf ht hP
    obtain ⟨rfl, rfl⟩ := hr44
    refine va_calli (va_runV (As := [.int (1 : Int32), .int (f_Tc_fieldPlace u k (1 : Int32))]) (rest := []) ⟨hx, hb, hml, hown, hA⟩ (c_Tc_refuse l D tt ad N A zs w0 q qp u (1 : Int32) (f_Tc_fieldPlace u k (1 : Int32)) (⟨hn28, fa29⟩)) (cwV 2 hA (cd_gV aw_406 aw_407 aw_768 aw_7 aw_408) rfl rfl rfl ⟨rfl, by decide, by decide, by decide +kernel⟩ ⟨Nat.le_of_ble_eq_true rfl, Nat.le_of_ble_eq_true rfl⟩) ⟨cd_blind, cd_recv hK hP (k := q) (by omega) fa29 rfl, fun U hU hW => ⟨rfl, cd_pre hK hP hZ hS U hU hW⟩⟩ rfl rfl hl.1 rfl (lv_room (Nat.le_of_ble_eq_true rfl)) d_Tc_bytesPass_46 ⟨Nat.zero_le _, Nat.zero_le _⟩) hS (fun _ _ h => h) (fun _ h => h) (fun r46 w10 tE H locs ht hvm hr47 hP hz1 hk1 hS => ?_)
    have hP := cd_Pf ht hP
    obtain ⟨rfl, hbo49, at50, e10⟩ := hr47
    have fa51 := (e10 qp (by omega)).trans fa37
    have fa52 := (e10 (qp + 1) (by omega)).trans fa38
    obtain ⟨hn53, fa54⟩ := at50
    have hf55 : (f_Tc_bytesPass u np up k) = ((f_Tc_refuse u (1 : Int32) (f_Tc_fieldPlace u k (1 : Int32))).1, (f_Tc_refuse u (1 : Int32) (f_Tc_fieldPlace u k (1 : Int32))).2) := by rw [f_Tc_bytesPass, if_pos hc42]
    exact W.zret (ty := .boolean) (v := (f_Tc_refuse u (1 : Int32) (f_Tc_fieldPlace u k (1 : Int32))).1) hx hb hr (cd_nb hbo49) (fun tE ht _ => ⟨⟨_, w10, rfl, ⟨(by rw [hf55]), hbo49, (by rw [hf55]; exact ⟨hn53, fa54⟩), (fun k hk => (e10 k (by omega)))⟩, cd_Pt ht hP⟩, hS.F ht⟩) hS.2.2 d_Tc_bytesPass_49
  · refine lv_iload_n hx hb d_Tc_bytesPass_25 rfl (lv_at hl 0 rfl) ?_
    refine lv_aload_n hx hb d_Tc_bytesPass_26 rfl (lv_at hl 2 rfl) ?_
    refine g_get (ci := 5) (C := R_Tc) (T := F_Tc) (Nf := 4) (v := .ref (ad qp)) hx hb hA in_Tc hown hK hP (k := q) (by omega) fa29 rfl 0 (by decide) (hA _ aw_92) (fun _ h9 => h9) rfl d_Tc_bytesPass_27 ?_
    refine va_calli (va_runV (As := []) (rest := [.int (f_Tc_entryField u np up k (4 : Int32))]) ⟨hx, hb, hml, hown, hA⟩ (c_Row_length l D tt ad N A zs w0 qp np up (⟨hn36, fa37, fa38⟩)) (cwV 0 hA (cd_gV aw_405 aw_285 aw_286 aw_5 aw_287) rfl rfl rfl ⟨rfl, by decide, by decide, by decide +kernel⟩ ⟨Nat.le_of_ble_eq_true rfl, Nat.le_of_ble_eq_true rfl⟩) ⟨cd_blind, cd_recv hK hP (k := qp) (by omega) fa37 rfl, fun U hU hW => ⟨rfl, cd_pre hK hP hZ hS U hU hW⟩⟩ rfl rfl hl.1 rfl (lv_room (Nat.le_of_ble_eq_true rfl)) d_Tc_bytesPass_30 ⟨Nat.zero_le _, Nat.zero_le _⟩) hS (fun _ _ h => h) (fun _ h => h) (fun r56 w11 tE H locs ht hvm hr57 hP hz1 hk1 hS => ?_)
    have hP := cd_Pf ht hP
    obtain ⟨rfl, rfl⟩ := hr57
    refine lv_iload_n hx hb d_Tc_bytesPass_33 rfl (lv_at hl 1 rfl) ?_
    refine lv_isub hx hb d_Tc_bytesPass_34 ?_
    refine lv_icmp_le (tgt := 50) hx hb d_Tc_bytesPass_35 (by decide) (fun hc59 => ?_) (fun hc59 => ?_)
    · refine lv_iconst (v := (0 : Int32)) hx hb d_Tc_bytesPass_50 (by decide) ?_
      refine lv_istore (lv' := [(4, .int (0 : Int32)), (3, .int (f_Tc_entryField u np up k (4 : Int32))), (2, .int (f_Tc_entryField u np up k (1 : Int32))), (0, .ref (ad q)), (1, .int k)]) hx hb d_Tc_bytesPass_51 hl (by decide) rfl (fun ls hl => ?_)
      exact L53 8 (f_Tc_entryField u np up k (1 : Int32)) (f_Tc_entryField u np up k (4 : Int32)) (0 : Int32) w0 (fun _ _ => rfl) H locs ls (lv_sub hl [3, 4, 2, 1, 0] rfl) (show (f_Tc_bytesPass u np up k) = f_Tc_bytesPass_L53 u np up k 8 (f_Tc_entryField u np up k (1 : Int32)) (f_Tc_entryField u np up k (4 : Int32)) (0 : Int32) by rw [f_Tc_bytesPass, if_neg hc42, if_pos hc59]) (⟨hn28, fa29⟩) (⟨hn36, fa37, fa38⟩) hP hS (ho.2.2 hc42 hc59)
    · refine lv_aload_n hx hb d_Tc_bytesPass_38 rfl (lv_at hl 2 rfl) ?_
      refine lv_iconst (v := (1 : Int32)) hx hb d_Tc_bytesPass_39 (by decide) ?_
      refine lv_aload_n hx hb d_Tc_bytesPass_40 rfl (lv_at hl 2 rfl) ?_
      refine lv_iload_n hx hb d_Tc_bytesPass_41 rfl (lv_at hl 3 rfl) ?_
      refine lv_iconst (v := (1 : Int32)) hx hb d_Tc_bytesPass_42 (by decide) ?_
      refine va_calli (va_runV (As := [.int k, .int (1 : Int32)]) (rest := [.int (1 : Int32), .ref (ad q)]) ⟨hx, hb, hml, hown, hA⟩ (c_Tc_fieldPlace l D tt ad N A zs w0 q qp u k (1 : Int32) (⟨hn28, fa29⟩)) (cwV 2 hA (cd_gV aw_420 aw_421 aw_770 aw_7 aw_422) rfl rfl rfl ⟨rfl, by decide, by decide, by decide +kernel⟩ ⟨Nat.le_of_ble_eq_true rfl, Nat.le_of_ble_eq_true rfl⟩) ⟨cd_blind, cd_recv hK hP (k := q) (by omega) fa29 rfl, fun U hU hW => ⟨rfl, cd_pre hK hP hZ hS U hU hW⟩⟩ rfl rfl hl.1 rfl (lv_room (Nat.le_of_ble_eq_true rfl)) d_Tc_bytesPass_43 ⟨Nat.zero_le _, Nat.zero_le _⟩) hS (fun _ _ h => h) (fun _ h => h) (fun r60 w12 tE H locs ht hvm hr61 hP hz1 hk1 hS => ?_)
      have hP := cd_Pf ht hP
      obtain ⟨rfl, rfl⟩ := hr61
      refine va_calli (va_runV (As := [.int (1 : Int32), .int (f_Tc_fieldPlace u k (1 : Int32))]) (rest := []) ⟨hx, hb, hml, hown, hA⟩ (c_Tc_refuse l D tt ad N A zs w0 q qp u (1 : Int32) (f_Tc_fieldPlace u k (1 : Int32)) (⟨hn28, fa29⟩)) (cwV 2 hA (cd_gV aw_406 aw_407 aw_768 aw_7 aw_408) rfl rfl rfl ⟨rfl, by decide, by decide, by decide +kernel⟩ ⟨Nat.le_of_ble_eq_true rfl, Nat.le_of_ble_eq_true rfl⟩) ⟨cd_blind, cd_recv hK hP (k := q) (by omega) fa29 rfl, fun U hU hW => ⟨rfl, cd_pre hK hP hZ hS U hU hW⟩⟩ rfl rfl hl.1 rfl (lv_room (Nat.le_of_ble_eq_true rfl)) d_Tc_bytesPass_46 ⟨Nat.zero_le _, Nat.zero_le _⟩) hS (fun _ _ h => h) (fun _ h => h) (fun r63 w13 tE H locs ht hvm hr64 hP hz1 hk1 hS => ?_)
      have hP := cd_Pf ht hP
      obtain ⟨rfl, hbo66, at67, e13⟩ := hr64
      have fa68 := (e13 qp (by omega)).trans fa37
      have fa69 := (e13 (qp + 1) (by omega)).trans fa38
      obtain ⟨hn70, fa71⟩ := at67
      have hf72 : (f_Tc_bytesPass u np up k) = ((f_Tc_refuse u (1 : Int32) (f_Tc_fieldPlace u k (1 : Int32))).1, (f_Tc_refuse u (1 : Int32) (f_Tc_fieldPlace u k (1 : Int32))).2) := by rw [f_Tc_bytesPass, if_neg hc42, if_neg hc59]
      exact W.zret (ty := .boolean) (v := (f_Tc_refuse u (1 : Int32) (f_Tc_fieldPlace u k (1 : Int32))).1) hx hb hr (cd_nb hbo66) (fun tE ht _ => ⟨⟨_, w13, rfl, ⟨(by rw [hf72]), hbo66, (by rw [hf72]; exact ⟨hn70, fa71⟩), (fun k hk => (e13 k (by omega)))⟩, cd_Pt ht hP⟩, hS.F ht⟩) hS.2.2 d_Tc_bytesPass_49
def f_Tc_addressesPass_L17 (u : cd_Tc) (np : Nat) (up : cd_Row) (k : Int32) : Nat → Int32 → Int32 → Int32 → Int32 × cd_Tc
  | 0, _, _, _ => default
  | gn + 1, x, y, i => (if k ≤ i then ((1 : Int32), u) else (if (f_Mem_overlap x y (f_Tc_entryField u np up i (2 : Int32)) (f_Tc_entryField u np up i (5 : Int32))) = 0 then (f_Tc_addressesPass_L17 u np up k gn x y (i + (1 : Int32))) else ((f_Tc_refuse u (5 : Int32) (f_Tc_fieldPlace u k (2 : Int32))).1, (f_Tc_refuse u (5 : Int32) (f_Tc_fieldPlace u k (2 : Int32))).2)))
def f_Tc_addressesPass (u : cd_Tc) (np : Nat) (up : cd_Row) (k : Int32) : Int32 × cd_Tc := (f_Tc_addressesPass_L17 u np up k 8 (f_Tc_entryField u np up k (2 : Int32)) (f_Tc_entryField u np up k (5 : Int32)) (1 : Int32))
def o_Tc_addressesPass_L17 (u : cd_Tc) (np : Nat) (up : cd_Row) (k : Int32) : Nat → Int32 → Int32 → Int32 → Prop
  | 0, _, _, _ => False
  | gn + 1, x, y, i => (¬ k ≤ i → o_Tc_entryField u np up i (2 : Int32)) ∧ (¬ k ≤ i → o_Tc_entryField u np up i (5 : Int32)) ∧ (¬ k ≤ i → (f_Mem_overlap x y (f_Tc_entryField u np up i (2 : Int32)) (f_Tc_entryField u np up i (5 : Int32))) = 0 → o_Tc_addressesPass_L17 u np up k gn x y (i + (1 : Int32)))
def o_Tc_addressesPass (u : cd_Tc) (np : Nat) (up : cd_Row) (k : Int32) : Prop := (o_Tc_entryField u np up k (2 : Int32)) ∧ (o_Tc_entryField u np up k (5 : Int32)) ∧ (o_Tc_addressesPass_L17 u np up k 8 (f_Tc_entryField u np up k (2 : Int32)) (f_Tc_entryField u np up k (5 : Int32)) (1 : Int32))
set_option maxHeartbeats 4000000 in
set_option maxRecDepth 100000 in
theorem c_Tc_addressesPass (l : Launch) (D : va_G) (tt : Nat → ClassId) (ad : Nat → Nat) (N : Nat) (A : Nat → Prop) (zs : Nat → Nat) (w0 : Nat → va_E) (q qp : Nat) (u : cd_Tc) (np : Nat) (up : cd_Row) (k : Int32) (hR0 : cd_TcAt N tt ad w0 q qp u) (hR1 : cd_RowAt N tt ad w0 qp np up) (hap0 : qp + 2 ≤ q ∨ q + 4 ≤ qp) (ho : o_Tc_addressesPass u np up k) : Met l y_Tc_addressesPass w_Tc_addressesPass ({ frames := 2, cells := 0, slots := 0, locals := 46 }) (va_Pc [.ref (ad q), .int k] (cd_U D tt ad N A zs w0)) (va_Qi (fun r w' => (f_Tc_addressesPass u np up k).1 = r ∧ (r = 0 ∨ r = 1) ∧ cd_TcAt N tt ad w' q qp ((f_Tc_addressesPass u np up k).2) ∧ (∀ k : Nat, (k < q ∨ q + 1 ≤ k) → w' k = w0 k)) (fun w' t => cd_P D ad N A w' t.heap) A) 0 0 A := by
  refine Met.ofW (cc := b_Tc_addressesPass) (maxL := 5) (ret := (some .boolean)) (by decide) rfl ?_
  intro p e s m args below meth c s₁ B hml hv
  obtain ⟨rfl, hP, hK, hZ⟩ := hv
  have hx := B.exec
  have hb := B.bytes
  have hr := B.returns
  have hA : ∀ w ∈ cd_AW, w.before _ s = true := fun w h => atoms_spec (ws := w_Tc_addressesPass) B.pre w (List.mem_cons_of_mem _ h)
  have hown : s.vm.findClass R_Tc = some m.cls := findClass_of_methodNamed B.named
  have hlocks := B.notSynchronized
  have L17 : ∀ (gn : Nat) (x : Int32) (y : Int32) (i : Int32) (w : Nat → va_E) (efr : ∀ k : Nat, (k < q ∨ q + 1 ≤ k) → w k = w0 k) (H : Heap) (locs : List Loc) (ls : Array Slot), lv_has ls 5 [(0, .ref (ad q)), (1, .int k), (2, .int x), (3, .int y), (4, .int i)] → (f_Tc_addressesPass u np up k) = f_Tc_addressesPass_L17 u np up k gn x y i → cd_TcAt N tt ad w q qp u → cd_RowAt N tt ad w qp np up → cd_P D ad N A w H → va_S A s.heap H locs → o_Tc_addressesPass_L17 u np up k gn x y i → W p l e (headSpec w_Tc_addressesPass ({ frames := 2, cells := 0, slots := 0, locals := 46 })).room s m [.ref (ad q), .int k].toArray below meth c H locs 0 0 (MQ below (va_Qi (fun r w' => (f_Tc_addressesPass u np up k).1 = r ∧ (r = 0 ∨ r = 1) ∧ cd_TcAt N tt ad w' q qp ((f_Tc_addressesPass u np up k).2) ∧ (∀ k : Nat, (k < q ∨ q + 1 ≤ k) → w' k = w0 k)) (fun w' t => cd_P D ad N A w' t.heap) A) [.ref (ad q), .int k].toArray s 0 0 A) (F0 m 17 ls []) := by
    intro gn
    induction gn with
    | zero => intro x y i w efr H locs ls hl he hL0 hL1 hP hS ho; exact ho.elim
    | succ gn ih =>
      intro x y i w efr H locs ls hl he hL0 hL1 hP hS ho
      have ho : (¬ k ≤ i → o_Tc_entryField u np up i (2 : Int32)) ∧ (¬ k ≤ i → o_Tc_entryField u np up i (5 : Int32)) ∧ (¬ k ≤ i → (f_Mem_overlap x y (f_Tc_entryField u np up i (2 : Int32)) (f_Tc_entryField u np up i (5 : Int32))) = 0 → o_Tc_addressesPass_L17 u np up k gn x y (i + (1 : Int32))) := ho
      obtain ⟨hn1, fa2⟩ := hL0
      refine lv_iload hx hb d_Tc_addressesPass_17 (lv_at hl 4 rfl) ?_
      refine lv_iload_n hx hb d_Tc_addressesPass_19 rfl (lv_at hl 1 rfl) ?_
      refine lv_icmp_ge (tgt := 63) hx hb d_Tc_addressesPass_20 (by decide) (fun hc3 => ?_) (fun hc3 => ?_)
      · refine lv_iconst (v := (1 : Int32)) hx hb d_Tc_addressesPass_63 (by decide) ?_
        have hf4 : (f_Tc_addressesPass u np up k) = ((1 : Int32), u) := by rw [he, f_Tc_addressesPass_L17, if_pos hc3]
        exact W.zret (ty := .boolean) (v := (1 : Int32)) hx hb hr rfl (fun tE ht _ => ⟨⟨_, w, rfl, ⟨(by rw [hf4]), (Or.inr rfl), (by rw [hf4]; exact ⟨hn1, fa2⟩), (fun k hk => (efr k (by omega)))⟩, cd_Pt ht hP⟩, hS.F ht⟩) hS.2.2 d_Tc_addressesPass_64
      · refine lv_iload_n hx hb d_Tc_addressesPass_23 rfl (lv_at hl 2 rfl) ?_
        refine lv_iload_n hx hb d_Tc_addressesPass_24 rfl (lv_at hl 3 rfl) ?_
        refine lv_aload_n hx hb d_Tc_addressesPass_25 rfl (lv_at hl 0 rfl) ?_
        refine lv_iload hx hb d_Tc_addressesPass_26 (lv_at hl 4 rfl) ?_
        refine lv_iconst (v := (2 : Int32)) hx hb d_Tc_addressesPass_28 (by decide) ?_
        refine va_calli (va_runV (As := [.int i, .int (2 : Int32)]) (rest := [.int y, .int x]) ⟨hx, hb, hml, hown, hA⟩ (c_Tc_entryField l D tt ad N A zs w q qp u np up i (2 : Int32) (⟨hn1, fa2⟩) hL1 (ho.1 hc3)) (cwV 2 hA (cd_gV aw_429 aw_430 aw_431 aw_7 aw_432) rfl rfl rfl ⟨rfl, by decide, by decide, by decide +kernel⟩ ⟨Nat.le_of_ble_eq_true rfl, Nat.le_of_ble_eq_true rfl⟩) ⟨cd_blind, cd_recv hK hP (k := q) (by omega) fa2 rfl, fun U hU hW => ⟨rfl, cd_pre hK hP hZ hS U hU hW⟩⟩ rfl rfl hl.1 rfl (lv_room (Nat.le_of_ble_eq_true rfl)) d_Tc_addressesPass_29 ⟨Nat.zero_le _, Nat.zero_le _⟩) hS (fun _ _ h => h) (fun _ h => h) (fun r5 w1 tE H locs ht hvm hr6 hP hz1 hk1 hS => ?_)
        have hP := cd_Pf ht hP
        obtain ⟨rfl, rfl⟩ := hr6
        refine lv_aload_n hx hb d_Tc_addressesPass_32 rfl (lv_at hl 0 rfl) ?_
        refine lv_iload hx hb d_Tc_addressesPass_33 (lv_at hl 4 rfl) ?_
        refine lv_iconst (v := (5 : Int32)) hx hb d_Tc_addressesPass_35 (by decide) ?_
        refine va_calli (va_runV (As := [.int i, .int (5 : Int32)]) (rest := [.int (f_Tc_entryField u np up i (2 : Int32)), .int y, .int x]) ⟨hx, hb, hml, hown, hA⟩ (c_Tc_entryField l D tt ad N A zs w q qp u np up i (5 : Int32) (⟨hn1, fa2⟩) hL1 (ho.2.1 hc3)) (cwV 2 hA (cd_gV aw_429 aw_430 aw_431 aw_7 aw_432) rfl rfl rfl ⟨rfl, by decide, by decide, by decide +kernel⟩ ⟨Nat.le_of_ble_eq_true rfl, Nat.le_of_ble_eq_true rfl⟩) ⟨cd_blind, cd_recv hK hP (k := q) (by omega) fa2 rfl, fun U hU hW => ⟨rfl, cd_pre hK hP hZ hS U hU hW⟩⟩ rfl rfl hl.1 rfl (lv_room (Nat.le_of_ble_eq_true rfl)) d_Tc_addressesPass_36 ⟨Nat.zero_le _, Nat.zero_le _⟩) hS (fun _ _ h => h) (fun _ h => h) (fun r8 w2 tE H locs ht hvm hr9 hP hz1 hk1 hS => ?_)
        have hP := cd_Pf ht hP
        obtain ⟨rfl, rfl⟩ := hr9
        refine va_calli (va_runS (As := [.int x, .int y, .int (f_Tc_entryField u np up i (2 : Int32)), .int (f_Tc_entryField u np up i (5 : Int32))]) (rest := []) ⟨hx, hb, hml, hown, hA⟩ (c_Mem_overlap l D tt ad N A zs w x y (f_Tc_entryField u np up i (2 : Int32)) (f_Tc_entryField u np up i (5 : Int32))) (va_cwS 4 hA (cd_gSx aw_443 aw_131 aw_2 aw_132) rfl rfl rfl ⟨by decide, by decide, by decide +kernel⟩ ⟨Nat.le_of_ble_eq_true rfl, Nat.le_of_ble_eq_true rfl⟩) ⟨cd_blind, fun U hU hW => ⟨rfl, cd_pre hK hP hZ hS U hU hW⟩⟩ rfl rfl hl.1 rfl (lv_room (Nat.le_of_ble_eq_true rfl)) d_Tc_addressesPass_39 ⟨Nat.zero_le _, Nat.zero_le _⟩) hS (fun _ _ h => h) (fun _ h => h) (fun r11 w3 tE H locs ht hvm hr12 hP hz1 hk1 hS => ?_)
        have hP := cd_Pf ht hP
        obtain ⟨rfl, hbo14, rfl⟩ := hr12
        refine lv_if_eq (tgt := 57) hx hb d_Tc_addressesPass_42 (by decide) (fun hc15 => ?_) (fun hc15 => ?_)
        · refine lv_iinc (k := 4) (v := (i + (1 : Int32))) (lv' := [(4, .int (i + (1 : Int32))), (0, .ref (ad q)), (1, .int k), (2, .int x), (3, .int y)]) hx hb d_Tc_addressesPass_57 hl rfl (cd_inc _ _ _ (by decide)) (by decide) rfl (fun ls hl => ?_)
          refine lv_goto (tgt := 17) hx hb d_Tc_addressesPass_60 (by decide) ?_
          exact ih x y (i + (1 : Int32)) w (fun k hk => (efr k (by omega))) H locs ls (lv_sub hl [1, 2, 3, 4, 0] rfl) (show (f_Tc_addressesPass u np up k) = f_Tc_addressesPass_L17 u np up k gn x y (i + (1 : Int32)) by rw [he, f_Tc_addressesPass_L17, if_neg hc3, if_pos hc15]) (⟨hn1, fa2⟩) hL1 hP hS (ho.2.2 hc3 hc15)
        · refine lv_aload_n hx hb d_Tc_addressesPass_45 rfl (lv_at hl 0 rfl) ?_
          refine lv_iconst (v := (5 : Int32)) hx hb d_Tc_addressesPass_46 (by decide) ?_
          refine lv_aload_n hx hb d_Tc_addressesPass_47 rfl (lv_at hl 0 rfl) ?_
          refine lv_iload_n hx hb d_Tc_addressesPass_48 rfl (lv_at hl 1 rfl) ?_
          refine lv_iconst (v := (2 : Int32)) hx hb d_Tc_addressesPass_49 (by decide) ?_
          refine va_calli (va_runV (As := [.int k, .int (2 : Int32)]) (rest := [.int (5 : Int32), .ref (ad q)]) ⟨hx, hb, hml, hown, hA⟩ (c_Tc_fieldPlace l D tt ad N A zs w q qp u k (2 : Int32) (⟨hn1, fa2⟩)) (cwV 2 hA (cd_gV aw_420 aw_421 aw_770 aw_7 aw_422) rfl rfl rfl ⟨rfl, by decide, by decide, by decide +kernel⟩ ⟨Nat.le_of_ble_eq_true rfl, Nat.le_of_ble_eq_true rfl⟩) ⟨cd_blind, cd_recv hK hP (k := q) (by omega) fa2 rfl, fun U hU hW => ⟨rfl, cd_pre hK hP hZ hS U hU hW⟩⟩ rfl rfl hl.1 rfl (lv_room (Nat.le_of_ble_eq_true rfl)) d_Tc_addressesPass_50 ⟨Nat.zero_le _, Nat.zero_le _⟩) hS (fun _ _ h => h) (fun _ h => h) (fun r16 w4 tE H locs ht hvm hr17 hP hz1 hk1 hS => ?_)
          have hP := cd_Pf ht hP
          obtain ⟨rfl, rfl⟩ := hr17
          refine va_calli (va_runV (As := [.int (5 : Int32), .int (f_Tc_fieldPlace u k (2 : Int32))]) (rest := []) ⟨hx, hb, hml, hown, hA⟩ (c_Tc_refuse l D tt ad N A zs w q qp u (5 : Int32) (f_Tc_fieldPlace u k (2 : Int32)) (⟨hn1, fa2⟩)) (cwV 2 hA (cd_gV aw_406 aw_407 aw_768 aw_7 aw_408) rfl rfl rfl ⟨rfl, by decide, by decide, by decide +kernel⟩ ⟨Nat.le_of_ble_eq_true rfl, Nat.le_of_ble_eq_true rfl⟩) ⟨cd_blind, cd_recv hK hP (k := q) (by omega) fa2 rfl, fun U hU hW => ⟨rfl, cd_pre hK hP hZ hS U hU hW⟩⟩ rfl rfl hl.1 rfl (lv_room (Nat.le_of_ble_eq_true rfl)) d_Tc_addressesPass_53 ⟨Nat.zero_le _, Nat.zero_le _⟩) hS (fun _ _ h => h) (fun _ h => h) (fun r19 w5 tE H locs ht hvm hr20 hP hz1 hk1 hS => ?_)
          have hP := cd_Pf ht hP
          obtain ⟨rfl, hbo22, at23, e5⟩ := hr20
          have at24 := cd_RowAt_keep hL1 (fun k h1 h2 => e5 k (by omega))
          obtain ⟨hn25, fa26⟩ := at23
          have hf27 : (f_Tc_addressesPass u np up k) = ((f_Tc_refuse u (5 : Int32) (f_Tc_fieldPlace u k (2 : Int32))).1, (f_Tc_refuse u (5 : Int32) (f_Tc_fieldPlace u k (2 : Int32))).2) := by rw [he, f_Tc_addressesPass_L17, if_neg hc3, if_neg hc15]
          exact W.zret (ty := .boolean) (v := (f_Tc_refuse u (5 : Int32) (f_Tc_fieldPlace u k (2 : Int32))).1) hx hb hr (cd_nb hbo22) (fun tE ht _ => ⟨⟨_, w5, rfl, ⟨(by rw [hf27]), hbo22, (by rw [hf27]; exact ⟨hn25, fa26⟩), (fun k hk => ((e5 k (by omega)).trans (efr k (by omega))))⟩, cd_Pt ht hP⟩, hS.F ht⟩) hS.2.2 d_Tc_addressesPass_56
  have hS : va_S A s.heap s.heap [] := va_S.rf
  have hl := lv_entry ([.ref (ad q), .int k]) (n := 5) (Nat.le_of_ble_eq_true rfl)
  rw [lg_entry_eq]
  generalize (lg_sl ([.ref (ad q), .int k]) ++ List.replicate (5 - (lg_sl ([.ref (ad q), .int k])).length) Slot.unset).toArray = ls at hl ⊢
  have hl : lv_has ls 5 [(0, .ref (ad q)), (1, .int k)] := hl
  have ho : (o_Tc_entryField u np up k (2 : Int32)) ∧ (o_Tc_entryField u np up k (5 : Int32)) ∧ (o_Tc_addressesPass_L17 u np up k 8 (f_Tc_entryField u np up k (2 : Int32)) (f_Tc_entryField u np up k (5 : Int32)) (1 : Int32)) := ho
  obtain ⟨hn28, fa29⟩ := hR0
  refine lv_aload_n hx hb d_Tc_addressesPass_0 rfl (lv_at hl 0 rfl) ?_
  refine lv_iload_n hx hb d_Tc_addressesPass_1 rfl (lv_at hl 1 rfl) ?_
  refine lv_iconst (v := (2 : Int32)) hx hb d_Tc_addressesPass_2 (by decide) ?_
  refine va_calli (va_runV (As := [.int k, .int (2 : Int32)]) (rest := []) ⟨hx, hb, hml, hown, hA⟩ (c_Tc_entryField l D tt ad N A zs w0 q qp u np up k (2 : Int32) (⟨hn28, fa29⟩) hR1 (ho.1)) (cwV 2 hA (cd_gV aw_429 aw_430 aw_431 aw_7 aw_432) rfl rfl rfl ⟨rfl, by decide, by decide, by decide +kernel⟩ ⟨Nat.le_of_ble_eq_true rfl, Nat.le_of_ble_eq_true rfl⟩) ⟨cd_blind, cd_recv hK hP (k := q) (by omega) fa29 rfl, fun U hU hW => ⟨rfl, cd_pre hK hP hZ hS U hU hW⟩⟩ rfl rfl hl.1 rfl (lv_room (Nat.le_of_ble_eq_true rfl)) d_Tc_addressesPass_3 ⟨Nat.zero_le _, Nat.zero_le _⟩) hS (fun _ _ h => h) (fun _ h => h) (fun r30 w6 tE H locs ht hvm hr31 hP hz1 hk1 hS => ?_)
  have hP := cd_Pf ht hP
  obtain ⟨rfl, rfl⟩ := hr31
  refine lv_istore_n (lv' := [(2, .int (f_Tc_entryField u np up k (2 : Int32))), (0, .ref (ad q)), (1, .int k)]) hx hb d_Tc_addressesPass_6 rfl hl (by decide) rfl (fun ls hl => ?_)
  refine lv_aload_n hx hb d_Tc_addressesPass_7 rfl (lv_at hl 1 rfl) ?_
  refine lv_iload_n hx hb d_Tc_addressesPass_8 rfl (lv_at hl 2 rfl) ?_
  refine lv_iconst (v := (5 : Int32)) hx hb d_Tc_addressesPass_9 (by decide) ?_
  refine va_calli (va_runV (As := [.int k, .int (5 : Int32)]) (rest := []) ⟨hx, hb, hml, hown, hA⟩ (c_Tc_entryField l D tt ad N A zs w0 q qp u np up k (5 : Int32) (⟨hn28, fa29⟩) hR1 (ho.2.1)) (cwV 2 hA (cd_gV aw_429 aw_430 aw_431 aw_7 aw_432) rfl rfl rfl ⟨rfl, by decide, by decide, by decide +kernel⟩ ⟨Nat.le_of_ble_eq_true rfl, Nat.le_of_ble_eq_true rfl⟩) ⟨cd_blind, cd_recv hK hP (k := q) (by omega) fa29 rfl, fun U hU hW => ⟨rfl, cd_pre hK hP hZ hS U hU hW⟩⟩ rfl rfl hl.1 rfl (lv_room (Nat.le_of_ble_eq_true rfl)) d_Tc_addressesPass_10 ⟨Nat.zero_le _, Nat.zero_le _⟩) hS (fun _ _ h => h) (fun _ h => h) (fun r33 w7 tE H locs ht hvm hr34 hP hz1 hk1 hS => ?_)
  have hP := cd_Pf ht hP
  obtain ⟨rfl, rfl⟩ := hr34
  refine lv_istore_n (lv' := [(3, .int (f_Tc_entryField u np up k (5 : Int32))), (2, .int (f_Tc_entryField u np up k (2 : Int32))), (0, .ref (ad q)), (1, .int k)]) hx hb d_Tc_addressesPass_13 rfl hl (by decide) rfl (fun ls hl => ?_)
  refine lv_iconst (v := (1 : Int32)) hx hb d_Tc_addressesPass_14 (by decide) ?_
  refine lv_istore (lv' := [(4, .int (1 : Int32)), (3, .int (f_Tc_entryField u np up k (5 : Int32))), (2, .int (f_Tc_entryField u np up k (2 : Int32))), (0, .ref (ad q)), (1, .int k)]) hx hb d_Tc_addressesPass_15 hl (by decide) rfl (fun ls hl => ?_)
  exact L17 8 (f_Tc_entryField u np up k (2 : Int32)) (f_Tc_entryField u np up k (5 : Int32)) (1 : Int32) w0 (fun _ _ => rfl) H locs ls (lv_sub hl [3, 4, 2, 1, 0] rfl) (show (f_Tc_addressesPass u np up k) = f_Tc_addressesPass_L17 u np up k 8 (f_Tc_entryField u np up k (2 : Int32)) (f_Tc_entryField u np up k (5 : Int32)) (1 : Int32) by rw [f_Tc_addressesPass]) (⟨hn28, fa29⟩) hR1 hP hS (ho.2.2)
def f_Tc_entriesPass_L7 (u : cd_Tc) (np : Nat) (up : cd_Row) : Nat → Int32 → Int32 → cd_Tc → Int32 × cd_Tc
  | 0, _, _, _ => default
  | gn + 1, z, i, u' => (if z ≤ i then ((1 : Int32), u') else (if (f_Tc_fieldsPass u' np up i).1 = 0 then ((0 : Int32), (f_Tc_fieldsPass u' np up i).2) else (if (f_Tc_bytesPass ((f_Tc_fieldsPass u' np up i).2) np up i).1 = 0 then ((0 : Int32), (f_Tc_bytesPass ((f_Tc_fieldsPass u' np up i).2) np up i).2) else (if (f_Tc_addressesPass ((f_Tc_bytesPass ((f_Tc_fieldsPass u' np up i).2) np up i).2) np up i).1 = 0 then ((0 : Int32), (f_Tc_addressesPass ((f_Tc_bytesPass ((f_Tc_fieldsPass u' np up i).2) np up i).2) np up i).2) else (f_Tc_entriesPass_L7 u np up gn z (i + (1 : Int32)) ((f_Tc_addressesPass ((f_Tc_bytesPass ((f_Tc_fieldsPass u' np up i).2) np up i).2) np up i).2))))))
def f_Tc_entriesPass (u : cd_Tc) (np : Nat) (up : cd_Row) : Int32 × cd_Tc := (f_Tc_entriesPass_L7 u np up 8 (f_Tc_entries u np up) (0 : Int32) u)
def o_Tc_entriesPass_L7 (u : cd_Tc) (np : Nat) (up : cd_Row) : Nat → Int32 → Int32 → cd_Tc → Prop
  | 0, _, _, _ => False
  | gn + 1, z, i, u' => (¬ z ≤ i → o_Tc_fieldsPass u' np up i) ∧ (¬ z ≤ i → ¬ (f_Tc_fieldsPass u' np up i).1 = 0 → o_Tc_bytesPass ((f_Tc_fieldsPass u' np up i).2) np up i) ∧ (¬ z ≤ i → ¬ (f_Tc_fieldsPass u' np up i).1 = 0 → ¬ (f_Tc_bytesPass ((f_Tc_fieldsPass u' np up i).2) np up i).1 = 0 → o_Tc_addressesPass ((f_Tc_bytesPass ((f_Tc_fieldsPass u' np up i).2) np up i).2) np up i) ∧ (¬ z ≤ i → ¬ (f_Tc_fieldsPass u' np up i).1 = 0 → ¬ (f_Tc_bytesPass ((f_Tc_fieldsPass u' np up i).2) np up i).1 = 0 → ¬ (f_Tc_addressesPass ((f_Tc_bytesPass ((f_Tc_fieldsPass u' np up i).2) np up i).2) np up i).1 = 0 → o_Tc_entriesPass_L7 u np up gn z (i + (1 : Int32)) ((f_Tc_addressesPass ((f_Tc_bytesPass ((f_Tc_fieldsPass u' np up i).2) np up i).2) np up i).2))
def o_Tc_entriesPass (u : cd_Tc) (np : Nat) (up : cd_Row) : Prop := (o_Tc_entries u np up) ∧ (o_Tc_entriesPass_L7 u np up 8 (f_Tc_entries u np up) (0 : Int32) u)
set_option maxHeartbeats 4000000 in
set_option maxRecDepth 100000 in
theorem c_Tc_entriesPass (l : Launch) (D : va_G) (tt : Nat → ClassId) (ad : Nat → Nat) (N : Nat) (A : Nat → Prop) (zs : Nat → Nat) (w0 : Nat → va_E) (q qp : Nat) (u : cd_Tc) (np : Nat) (up : cd_Row) (hR0 : cd_TcAt N tt ad w0 q qp u) (hR1 : cd_RowAt N tt ad w0 qp np up) (hap0 : qp + 2 ≤ q ∨ q + 4 ≤ qp) (ho : o_Tc_entriesPass u np up) : Met l y_Tc_entriesPass w_Tc_entriesPass ({ frames := 4, cells := 0, slots := 0, locals := 93 }) (va_Pc [.ref (ad q)] (cd_U D tt ad N A zs w0)) (va_Qi (fun r w' => (f_Tc_entriesPass u np up).1 = r ∧ (r = 0 ∨ r = 1) ∧ cd_TcAt N tt ad w' q qp ((f_Tc_entriesPass u np up).2) ∧ (∀ k : Nat, (k < q ∨ q + 1 ≤ k) → w' k = w0 k)) (fun w' t => cd_P D ad N A w' t.heap) A) 0 0 A := by
  refine Met.ofW (cc := b_Tc_entriesPass) (maxL := 3) (ret := (some .boolean)) (by decide) rfl ?_
  intro p e s m args below meth c s₁ B hml hv
  obtain ⟨rfl, hP, hK, hZ⟩ := hv
  have hx := B.exec
  have hb := B.bytes
  have hr := B.returns
  have hA : ∀ w ∈ cd_AW, w.before _ s = true := fun w h => atoms_spec (ws := w_Tc_entriesPass) B.pre w (List.mem_cons_of_mem _ h)
  have hown : s.vm.findClass R_Tc = some m.cls := findClass_of_methodNamed B.named
  have hlocks := B.notSynchronized
  have L7 : ∀ (gn : Nat) (z : Int32) (i : Int32) (u' : cd_Tc) (w : Nat → va_E) (efr : ∀ k : Nat, (k < q ∨ q + 1 ≤ k) → w k = w0 k) (H : Heap) (locs : List Loc) (ls : Array Slot), lv_has ls 3 [(0, .ref (ad q)), (1, .int z), (2, .int i)] → (f_Tc_entriesPass u np up) = f_Tc_entriesPass_L7 u np up gn z i u' → cd_TcAt N tt ad w q qp u' → cd_RowAt N tt ad w qp np up → cd_P D ad N A w H → va_S A s.heap H locs → o_Tc_entriesPass_L7 u np up gn z i u' → W p l e (headSpec w_Tc_entriesPass ({ frames := 4, cells := 0, slots := 0, locals := 93 })).room s m [.ref (ad q)].toArray below meth c H locs 0 0 (MQ below (va_Qi (fun r w' => (f_Tc_entriesPass u np up).1 = r ∧ (r = 0 ∨ r = 1) ∧ cd_TcAt N tt ad w' q qp ((f_Tc_entriesPass u np up).2) ∧ (∀ k : Nat, (k < q ∨ q + 1 ≤ k) → w' k = w0 k)) (fun w' t => cd_P D ad N A w' t.heap) A) [.ref (ad q)].toArray s 0 0 A) (F0 m 7 ls []) := by
    intro gn
    induction gn with
    | zero => intro z i u' w efr H locs ls hl he hL0 hL1 hP hS ho; exact ho.elim
    | succ gn ih =>
      intro z i u' w efr H locs ls hl he hL0 hL1 hP hS ho
      have ho : (¬ z ≤ i → o_Tc_fieldsPass u' np up i) ∧ (¬ z ≤ i → ¬ (f_Tc_fieldsPass u' np up i).1 = 0 → o_Tc_bytesPass ((f_Tc_fieldsPass u' np up i).2) np up i) ∧ (¬ z ≤ i → ¬ (f_Tc_fieldsPass u' np up i).1 = 0 → ¬ (f_Tc_bytesPass ((f_Tc_fieldsPass u' np up i).2) np up i).1 = 0 → o_Tc_addressesPass ((f_Tc_bytesPass ((f_Tc_fieldsPass u' np up i).2) np up i).2) np up i) ∧ (¬ z ≤ i → ¬ (f_Tc_fieldsPass u' np up i).1 = 0 → ¬ (f_Tc_bytesPass ((f_Tc_fieldsPass u' np up i).2) np up i).1 = 0 → ¬ (f_Tc_addressesPass ((f_Tc_bytesPass ((f_Tc_fieldsPass u' np up i).2) np up i).2) np up i).1 = 0 → o_Tc_entriesPass_L7 u np up gn z (i + (1 : Int32)) ((f_Tc_addressesPass ((f_Tc_bytesPass ((f_Tc_fieldsPass u' np up i).2) np up i).2) np up i).2)) := ho
      obtain ⟨hn1, fa2⟩ := hL0
      refine lv_iload_n hx hb d_Tc_entriesPass_7 rfl (lv_at hl 2 rfl) ?_
      refine lv_iload_n hx hb d_Tc_entriesPass_8 rfl (lv_at hl 1 rfl) ?_
      refine lv_icmp_ge (tgt := 44) hx hb d_Tc_entriesPass_9 (by decide) (fun hc3 => ?_) (fun hc3 => ?_)
      · refine lv_iconst (v := (1 : Int32)) hx hb d_Tc_entriesPass_44 (by decide) ?_
        have hf4 : (f_Tc_entriesPass u np up) = ((1 : Int32), u') := by rw [he, f_Tc_entriesPass_L7, if_pos hc3]
        exact W.zret (ty := .boolean) (v := (1 : Int32)) hx hb hr rfl (fun tE ht _ => ⟨⟨_, w, rfl, ⟨(by rw [hf4]), (Or.inr rfl), (by rw [hf4]; exact ⟨hn1, fa2⟩), (fun k hk => (efr k (by omega)))⟩, cd_Pt ht hP⟩, hS.F ht⟩) hS.2.2 d_Tc_entriesPass_45
      · refine lv_aload_n hx hb d_Tc_entriesPass_12 rfl (lv_at hl 0 rfl) ?_
        refine lv_iload_n hx hb d_Tc_entriesPass_13 rfl (lv_at hl 2 rfl) ?_
        refine va_calli (va_runV (As := [.int i]) (rest := []) ⟨hx, hb, hml, hown, hA⟩ (c_Tc_fieldsPass l D tt ad N A zs w q qp u' np up i (⟨hn1, fa2⟩) hL1 (by omega) (ho.1 hc3)) (cwV 1 hA (cd_gV aw_426 aw_427 aw_772 aw_7 aw_428) rfl rfl rfl ⟨rfl, by decide, by decide, by decide +kernel⟩ ⟨Nat.le_of_ble_eq_true rfl, Nat.le_of_ble_eq_true rfl⟩) ⟨cd_blind, cd_recv hK hP (k := q) (by omega) fa2 rfl, fun U hU hW => ⟨rfl, cd_pre hK hP hZ hS U hU hW⟩⟩ rfl rfl hl.1 rfl (lv_room (Nat.le_of_ble_eq_true rfl)) d_Tc_entriesPass_14 ⟨Nat.zero_le _, Nat.zero_le _⟩) hS (fun _ _ h => h) (fun _ h => h) (fun r5 w1 tE H locs ht hvm hr6 hP hz1 hk1 hS => ?_)
        have hP := cd_Pf ht hP
        obtain ⟨rfl, hbo8, at9, e1⟩ := hr6
        have at10 := cd_RowAt_keep hL1 (fun k h1 h2 => e1 k (by omega))
        obtain ⟨hn11, fa12⟩ := at9
        refine lv_if_eq (tgt := 36) hx hb d_Tc_entriesPass_17 (by decide) (fun hc13 => ?_) (fun hc13 => ?_)
        · refine lv_iconst (v := (0 : Int32)) hx hb d_Tc_entriesPass_36 (by decide) ?_
          have hf14 : (f_Tc_entriesPass u np up) = ((0 : Int32), (f_Tc_fieldsPass u' np up i).2) := by rw [he, f_Tc_entriesPass_L7, if_neg hc3, if_pos hc13]
          exact W.zret (ty := .boolean) (v := (0 : Int32)) hx hb hr rfl (fun tE ht _ => ⟨⟨_, w1, rfl, ⟨(by rw [hf14]), (Or.inl rfl), (by rw [hf14]; exact ⟨hn11, fa12⟩), (fun k hk => ((e1 k (by omega)).trans (efr k (by omega))))⟩, cd_Pt ht hP⟩, hS.F ht⟩) hS.2.2 d_Tc_entriesPass_37
        · refine lv_aload_n hx hb d_Tc_entriesPass_20 rfl (lv_at hl 0 rfl) ?_
          refine lv_iload_n hx hb d_Tc_entriesPass_21 rfl (lv_at hl 2 rfl) ?_
          refine va_calli (va_runV (As := [.int i]) (rest := []) ⟨hx, hb, hml, hown, hA⟩ (c_Tc_bytesPass l D tt ad N A zs w1 q qp ((f_Tc_fieldsPass u' np up i).2) np up i (⟨hn11, fa12⟩) at10 (by omega) (ho.2.1 hc3 hc13)) (cwV 1 hA (cd_gV aw_440 aw_441 aw_775 aw_7 aw_442) rfl rfl rfl ⟨rfl, by decide, by decide, by decide +kernel⟩ ⟨Nat.le_of_ble_eq_true rfl, Nat.le_of_ble_eq_true rfl⟩) ⟨cd_blind, cd_recv hK hP (k := q) (by omega) fa12 rfl, fun U hU hW => ⟨rfl, cd_pre hK hP hZ hS U hU hW⟩⟩ rfl rfl hl.1 rfl (lv_room (Nat.le_of_ble_eq_true rfl)) d_Tc_entriesPass_22 ⟨Nat.zero_le _, Nat.zero_le _⟩) hS (fun _ _ h => h) (fun _ h => h) (fun r15 w2 tE H locs ht hvm hr16 hP hz1 hk1 hS => ?_)
          have hP := cd_Pf ht hP
          obtain ⟨rfl, hbo18, at19, e2⟩ := hr16
          have at20 := cd_RowAt_keep at10 (fun k h1 h2 => e2 k (by omega))
          obtain ⟨hn21, fa22⟩ := at19
          refine lv_if_eq (tgt := 36) hx hb d_Tc_entriesPass_25 (by decide) (fun hc23 => ?_) (fun hc23 => ?_)
          · refine lv_iconst (v := (0 : Int32)) hx hb d_Tc_entriesPass_36 (by decide) ?_
            have hf24 : (f_Tc_entriesPass u np up) = ((0 : Int32), (f_Tc_bytesPass ((f_Tc_fieldsPass u' np up i).2) np up i).2) := by rw [he, f_Tc_entriesPass_L7, if_neg hc3, if_neg hc13, if_pos hc23]
            exact W.zret (ty := .boolean) (v := (0 : Int32)) hx hb hr rfl (fun tE ht _ => ⟨⟨_, w2, rfl, ⟨(by rw [hf24]), (Or.inl rfl), (by rw [hf24]; exact ⟨hn21, fa22⟩), (fun k hk => ((e2 k (by omega)).trans ((e1 k (by omega)).trans (efr k (by omega)))))⟩, cd_Pt ht hP⟩, hS.F ht⟩) hS.2.2 d_Tc_entriesPass_37
          · refine lv_aload_n hx hb d_Tc_entriesPass_28 rfl (lv_at hl 0 rfl) ?_
            refine lv_iload_n hx hb d_Tc_entriesPass_29 rfl (lv_at hl 2 rfl) ?_
            refine va_calli (va_runV (As := [.int i]) (rest := []) ⟨hx, hb, hml, hown, hA⟩ (c_Tc_addressesPass l D tt ad N A zs w2 q qp ((f_Tc_bytesPass ((f_Tc_fieldsPass u' np up i).2) np up i).2) np up i (⟨hn21, fa22⟩) at20 (by omega) (ho.2.2.1 hc3 hc13 hc23)) (cwV 1 hA (cd_gV aw_444 aw_445 aw_776 aw_7 aw_446) rfl rfl rfl ⟨rfl, by decide, by decide, by decide +kernel⟩ ⟨Nat.le_of_ble_eq_true rfl, Nat.le_of_ble_eq_true rfl⟩) ⟨cd_blind, cd_recv hK hP (k := q) (by omega) fa22 rfl, fun U hU hW => ⟨rfl, cd_pre hK hP hZ hS U hU hW⟩⟩ rfl rfl hl.1 rfl (lv_room (Nat.le_of_ble_eq_true rfl)) d_Tc_entriesPass_30 ⟨Nat.zero_le _, Nat.zero_le _⟩) hS (fun _ _ h => h) (fun _ h => h) (fun r25 w3 tE H locs ht hvm hr26 hP hz1 hk1 hS => ?_)
            have hP := cd_Pf ht hP
            obtain ⟨rfl, hbo28, at29, e3⟩ := hr26
            have at30 := cd_RowAt_keep at20 (fun k h1 h2 => e3 k (by omega))
            obtain ⟨hn31, fa32⟩ := at29
            refine lv_if_ne (tgt := 38) hx hb d_Tc_entriesPass_33 (by decide) (fun hc33 => ?_) (fun hc33 => ?_)
            · refine lv_iinc (k := 2) (v := (i + (1 : Int32))) (lv' := [(2, .int (i + (1 : Int32))), (0, .ref (ad q)), (1, .int z)]) hx hb d_Tc_entriesPass_38 hl rfl (cd_inc _ _ _ (by decide)) (by decide) rfl (fun ls hl => ?_)
              refine lv_goto (tgt := 7) hx hb d_Tc_entriesPass_41 (by decide) ?_
              exact ih z (i + (1 : Int32)) ((f_Tc_addressesPass ((f_Tc_bytesPass ((f_Tc_fieldsPass u' np up i).2) np up i).2) np up i).2) w3 (fun k hk => ((e3 k (by omega)).trans ((e2 k (by omega)).trans ((e1 k (by omega)).trans (efr k (by omega)))))) H locs ls (lv_sub hl [1, 2, 0] rfl) (show (f_Tc_entriesPass u np up) = f_Tc_entriesPass_L7 u np up gn z (i + (1 : Int32)) ((f_Tc_addressesPass ((f_Tc_bytesPass ((f_Tc_fieldsPass u' np up i).2) np up i).2) np up i).2) by rw [he, f_Tc_entriesPass_L7, if_neg hc3, if_neg hc13, if_neg hc23, if_neg hc33]) (⟨hn31, fa32⟩) at30 hP hS (ho.2.2.2 hc3 hc13 hc23 hc33)
            · refine lv_iconst (v := (0 : Int32)) hx hb d_Tc_entriesPass_36 (by decide) ?_
              have hf34 : (f_Tc_entriesPass u np up) = ((0 : Int32), (f_Tc_addressesPass ((f_Tc_bytesPass ((f_Tc_fieldsPass u' np up i).2) np up i).2) np up i).2) := by rw [he, f_Tc_entriesPass_L7, if_neg hc3, if_neg hc13, if_neg hc23, if_pos hc33]
              exact W.zret (ty := .boolean) (v := (0 : Int32)) hx hb hr rfl (fun tE ht _ => ⟨⟨_, w3, rfl, ⟨(by rw [hf34]), (Or.inl rfl), (by rw [hf34]; exact ⟨hn31, fa32⟩), (fun k hk => ((e3 k (by omega)).trans ((e2 k (by omega)).trans ((e1 k (by omega)).trans (efr k (by omega))))))⟩, cd_Pt ht hP⟩, hS.F ht⟩) hS.2.2 d_Tc_entriesPass_37
  have hS : va_S A s.heap s.heap [] := va_S.rf
  have hl := lv_entry ([.ref (ad q)]) (n := 3) (Nat.le_of_ble_eq_true rfl)
  rw [lg_entry_eq]
  generalize (lg_sl ([.ref (ad q)]) ++ List.replicate (3 - (lg_sl ([.ref (ad q)])).length) Slot.unset).toArray = ls at hl ⊢
  have hl : lv_has ls 3 [(0, .ref (ad q))] := hl
  have ho : (o_Tc_entries u np up) ∧ (o_Tc_entriesPass_L7 u np up 8 (f_Tc_entries u np up) (0 : Int32) u) := ho
  obtain ⟨hn35, fa36⟩ := hR0
  refine lv_aload_n hx hb d_Tc_entriesPass_0 rfl (lv_at hl 0 rfl) ?_
  refine va_calli (va_runV (As := []) (rest := []) ⟨hx, hb, hml, hown, hA⟩ (c_Tc_entries l D tt ad N A zs w0 q qp u np up (⟨hn35, fa36⟩) hR1 (ho.1)) (cwV 0 hA (cd_gV aw_416 aw_417 aw_418 aw_7 aw_419) rfl rfl rfl ⟨rfl, by decide, by decide, by decide +kernel⟩ ⟨Nat.le_of_ble_eq_true rfl, Nat.le_of_ble_eq_true rfl⟩) ⟨cd_blind, cd_recv hK hP (k := q) (by omega) fa36 rfl, fun U hU hW => ⟨rfl, cd_pre hK hP hZ hS U hU hW⟩⟩ rfl rfl hl.1 rfl (lv_room (Nat.le_of_ble_eq_true rfl)) d_Tc_entriesPass_1 ⟨Nat.zero_le _, Nat.zero_le _⟩) hS (fun _ _ h => h) (fun _ h => h) (fun r37 w4 tE H locs ht hvm hr38 hP hz1 hk1 hS => ?_)
  have hP := cd_Pf ht hP
  obtain ⟨rfl, rfl⟩ := hr38
  refine lv_istore_n (lv' := [(1, .int (f_Tc_entries u np up)), (0, .ref (ad q))]) hx hb d_Tc_entriesPass_4 rfl hl (by decide) rfl (fun ls hl => ?_)
  refine lv_iconst (v := (0 : Int32)) hx hb d_Tc_entriesPass_5 (by decide) ?_
  refine lv_istore_n (lv' := [(2, .int (0 : Int32)), (1, .int (f_Tc_entries u np up)), (0, .ref (ad q))]) hx hb d_Tc_entriesPass_6 rfl hl (by decide) rfl (fun ls hl => ?_)
  exact L7 8 (f_Tc_entries u np up) (0 : Int32) u w0 (fun _ _ => rfl) H locs ls (lv_sub hl [2, 1, 0] rfl) (show (f_Tc_entriesPass u np up) = f_Tc_entriesPass_L7 u np up 8 (f_Tc_entries u np up) (0 : Int32) u by rw [f_Tc_entriesPass]) (⟨hn35, fa36⟩) hR1 hP hS (ho.2)
def f_Tc_noteHeadPasses_L35 (u : cd_Tc) (np : Nat) (up : cd_Row) (k : Int32) (x : Int32) : Nat → Int32 → Int32 → Int32 × cd_Tc
  | 0, _, _ => default
  | gn + 1, y, i => (if (8 : Int32) ≤ i then (if (f_Tc_noteSize u np up k) < 0 then ((f_Tc_refuse u (6 : Int32) (k + (4 : Int32))).1, (f_Tc_refuse u (6 : Int32) (k + (4 : Int32))).2) else (if y < (f_Tc_noteSize u np up k) then ((f_Tc_refuse u (6 : Int32) (k + (4 : Int32))).1, (f_Tc_refuse u (6 : Int32) (k + (4 : Int32))).2) else (if (f_Tc_padded u (f_Tc_noteSize u np up k)) ≤ y then ((1 : Int32), u) else ((f_Tc_refuse u (6 : Int32) (k + (4 : Int32))).1, (f_Tc_refuse u (6 : Int32) (k + (4 : Int32))).2)))) else (if (f_Row_at np up ((k + (12 : Int32)) + i)) = (cd_nn i.toNatClampNeg) then (f_Tc_noteHeadPasses_L35 u np up k x gn y (i + (1 : Int32))) else ((f_Tc_refuse u (6 : Int32) ((k + (12 : Int32)) + i)).1, (f_Tc_refuse u (6 : Int32) ((k + (12 : Int32)) + i)).2)))
def f_Tc_noteHeadPasses (u : cd_Tc) (np : Nat) (up : cd_Row) (k : Int32) (x : Int32) : Int32 × cd_Tc := (if ((x - k) - (20 : Int32)) < 0 then ((f_Tc_refuse u (6 : Int32) k).1, (f_Tc_refuse u (6 : Int32) k).2) else (if (f_Row_number np up k (4 : Int32)) = (5 : Int32) then (f_Tc_noteHeadPasses_L35 u np up k x 9 ((x - k) - (20 : Int32)) (0 : Int32)) else ((f_Tc_refuse u (6 : Int32) k).1, (f_Tc_refuse u (6 : Int32) k).2)))
def o_Tc_noteHeadPasses_L35 (u : cd_Tc) (np : Nat) (up : cd_Row) (k : Int32) (x : Int32) : Nat → Int32 → Int32 → Prop
  | 0, _, _ => False
  | gn + 1, y, i => ((8 : Int32) ≤ i → o_Tc_noteSize u np up k) ∧ (¬ (8 : Int32) ≤ i → o_Row_at np up ((k + (12 : Int32)) + i)) ∧ (¬ (8 : Int32) ≤ i → vp_in i 8) ∧ (¬ (8 : Int32) ≤ i → (f_Row_at np up ((k + (12 : Int32)) + i)) = (cd_nn i.toNatClampNeg) → o_Tc_noteHeadPasses_L35 u np up k x gn y (i + (1 : Int32)))
def o_Tc_noteHeadPasses (u : cd_Tc) (np : Nat) (up : cd_Row) (k : Int32) (x : Int32) : Prop := (¬ ((x - k) - (20 : Int32)) < 0 → o_Row_number np up k (4 : Int32)) ∧ (¬ ((x - k) - (20 : Int32)) < 0 → (f_Row_number np up k (4 : Int32)) = (5 : Int32) → o_Tc_noteHeadPasses_L35 u np up k x 9 ((x - k) - (20 : Int32)) (0 : Int32))
set_option maxHeartbeats 4000000 in
set_option maxRecDepth 100000 in
theorem c_Tc_noteHeadPasses (l : Launch) (D : va_G) (tt : Nat → ClassId) (ad : Nat → Nat) (N : Nat) (A : Nat → Prop) (zs : Nat → Nat) (w0 : Nat → va_E) (q qp : Nat) (u : cd_Tc) (np : Nat) (up : cd_Row) (k : Int32) (x : Int32) (hR0 : cd_TcAt N tt ad w0 q qp u) (hR1 : cd_RowAt N tt ad w0 qp np up) (hap0 : qp + 2 ≤ q ∨ q + 4 ≤ qp) (ho : o_Tc_noteHeadPasses u np up k x) : Met l y_Tc_noteHeadPasses w_Tc_noteHeadPasses ({ frames := 2, cells := 0, slots := 0, locals := 45 }) (va_Pc [.ref (ad q), .int k, .int x] (cd_U D tt ad N A zs w0)) (va_Qi (fun r w' => (f_Tc_noteHeadPasses u np up k x).1 = r ∧ (r = 0 ∨ r = 1) ∧ cd_TcAt N tt ad w' q qp ((f_Tc_noteHeadPasses u np up k x).2) ∧ (∀ k : Nat, (k < q ∨ q + 1 ≤ k) → w' k = w0 k)) (fun w' t => cd_P D ad N A w' t.heap) A) 0 0 A := by
  refine Met.ofW (cc := b_Tc_noteHeadPasses) (maxL := 5) (ret := (some .boolean)) (by decide) rfl ?_
  intro p e s m args below meth c s₁ B hml hv
  obtain ⟨rfl, hP, hK, hZ⟩ := hv
  have hx := B.exec
  have hb := B.bytes
  have hr := B.returns
  have hA : ∀ w ∈ cd_AW, w.before _ s = true := fun w h => atoms_spec (ws := w_Tc_noteHeadPasses) B.pre w (List.mem_cons_of_mem _ h)
  have hown : s.vm.findClass R_Tc = some m.cls := findClass_of_methodNamed B.named
  have hlocks := B.notSynchronized
  have L35 : ∀ (gn : Nat) (y : Int32) (i : Int32) (w : Nat → va_E) (efr : ∀ k : Nat, (k < q ∨ q + 1 ≤ k) → w k = w0 k) (H : Heap) (locs : List Loc) (ls : Array Slot), lv_has ls 5 [(0, .ref (ad q)), (1, .int k), (2, .int x), (3, .int y), (4, .int i)] → (f_Tc_noteHeadPasses u np up k x) = f_Tc_noteHeadPasses_L35 u np up k x gn y i → cd_TcAt N tt ad w q qp u → cd_RowAt N tt ad w qp np up → cd_P D ad N A w H → va_S A s.heap H locs → o_Tc_noteHeadPasses_L35 u np up k x gn y i → W p l e (headSpec w_Tc_noteHeadPasses ({ frames := 2, cells := 0, slots := 0, locals := 45 })).room s m [.ref (ad q), .int k, .int x].toArray below meth c H locs 0 0 (MQ below (va_Qi (fun r w' => (f_Tc_noteHeadPasses u np up k x).1 = r ∧ (r = 0 ∨ r = 1) ∧ cd_TcAt N tt ad w' q qp ((f_Tc_noteHeadPasses u np up k x).2) ∧ (∀ k : Nat, (k < q ∨ q + 1 ≤ k) → w' k = w0 k)) (fun w' t => cd_P D ad N A w' t.heap) A) [.ref (ad q), .int k, .int x].toArray s 0 0 A) (F0 m 35 ls []) := by
    intro gn
    induction gn with
    | zero => intro y i w efr H locs ls hl he hL0 hL1 hP hS ho; exact ho.elim
    | succ gn ih =>
      intro y i w efr H locs ls hl he hL0 hL1 hP hS ho
      have ho : ((8 : Int32) ≤ i → o_Tc_noteSize u np up k) ∧ (¬ (8 : Int32) ≤ i → o_Row_at np up ((k + (12 : Int32)) + i)) ∧ (¬ (8 : Int32) ≤ i → vp_in i 8) ∧ (¬ (8 : Int32) ≤ i → (f_Row_at np up ((k + (12 : Int32)) + i)) = (cd_nn i.toNatClampNeg) → o_Tc_noteHeadPasses_L35 u np up k x gn y (i + (1 : Int32))) := ho
      obtain ⟨hn1, fa2⟩ := hL0
      refine lv_iload hx hb d_Tc_noteHeadPasses_35 (lv_at hl 4 rfl) ?_
      refine va_getsN hx hb hZ.2.2.2.2.1 hS hown (va_Nw.use rfl (nw_13 hZ.2.2.2.2.2.2)) (fun _ h9 => h9) d_Tc_noteHeadPasses_37 ?_
      refine va_tlen (v := (8 : Int32)) hx hb hZ.2.2.2.2.2.1 hS (by decide) d_Tc_noteHeadPasses_40 ?_
      refine lv_icmp_ge (tgt := 87) hx hb d_Tc_noteHeadPasses_41 (by decide) (fun hc3 => ?_) (fun hc3 => ?_)
      · refine lv_aload_n hx hb d_Tc_noteHeadPasses_87 rfl (lv_at hl 0 rfl) ?_
        refine lv_iload_n hx hb d_Tc_noteHeadPasses_88 rfl (lv_at hl 1 rfl) ?_
        refine va_calli (va_runV (As := [.int k]) (rest := []) ⟨hx, hb, hml, hown, hA⟩ (c_Tc_noteSize l D tt ad N A zs w q qp u np up k (⟨hn1, fa2⟩) hL1 (ho.1 hc3)) (cwV 1 hA (cd_gV aw_454 aw_455 aw_779 aw_7 aw_456) rfl rfl rfl ⟨rfl, by decide, by decide, by decide +kernel⟩ ⟨Nat.le_of_ble_eq_true rfl, Nat.le_of_ble_eq_true rfl⟩) ⟨cd_blind, cd_recv hK hP (k := q) (by omega) fa2 rfl, fun U hU hW => ⟨rfl, cd_pre hK hP hZ hS U hU hW⟩⟩ rfl rfl hl.1 rfl (lv_room (Nat.le_of_ble_eq_true rfl)) d_Tc_noteHeadPasses_89 ⟨Nat.zero_le _, Nat.zero_le _⟩) hS (fun _ _ h => h) (fun _ h => h) (fun r4 w1 tE H locs ht hvm hr5 hP hz1 hk1 hS => ?_)
        have hP := cd_Pf ht hP
        obtain ⟨rfl, rfl⟩ := hr5
        refine lv_istore (lv' := [(4, .int (f_Tc_noteSize u np up k)), (0, .ref (ad q)), (1, .int k), (2, .int x), (3, .int y)]) hx hb d_Tc_noteHeadPasses_92 hl (by decide) rfl (fun ls hl => ?_)
        refine lv_iload hx hb d_Tc_noteHeadPasses_94 (lv_at hl 0 rfl) ?_
        refine lv_if_lt (tgt := 115) hx hb d_Tc_noteHeadPasses_96 (by decide) (fun hc7 => ?_) (fun hc7 => ?_)
        · refine lv_aload_n hx hb d_Tc_noteHeadPasses_115 rfl (lv_at hl 1 rfl) ?_
          refine lv_bipush (v := (6 : Int32)) hx hb d_Tc_noteHeadPasses_116 (by decide) ?_
          refine lv_iload_n hx hb d_Tc_noteHeadPasses_118 rfl (lv_at hl 2 rfl) ?_
          refine lv_iconst (v := (4 : Int32)) hx hb d_Tc_noteHeadPasses_119 (by decide) ?_
          refine lv_iadd hx hb d_Tc_noteHeadPasses_120 ?_
          refine va_calli (va_runV (As := [.int (6 : Int32), .int (k + (4 : Int32))]) (rest := []) ⟨hx, hb, hml, hown, hA⟩ (c_Tc_refuse l D tt ad N A zs w q qp u (6 : Int32) (k + (4 : Int32)) (⟨hn1, fa2⟩)) (cwV 2 hA (cd_gV aw_406 aw_407 aw_768 aw_7 aw_408) rfl rfl rfl ⟨rfl, by decide, by decide, by decide +kernel⟩ ⟨Nat.le_of_ble_eq_true rfl, Nat.le_of_ble_eq_true rfl⟩) ⟨cd_blind, cd_recv hK hP (k := q) (by omega) fa2 rfl, fun U hU hW => ⟨rfl, cd_pre hK hP hZ hS U hU hW⟩⟩ rfl rfl hl.1 rfl (lv_room (Nat.le_of_ble_eq_true rfl)) d_Tc_noteHeadPasses_121 ⟨Nat.zero_le _, Nat.zero_le _⟩) hS (fun _ _ h => h) (fun _ h => h) (fun r8 w2 tE H locs ht hvm hr9 hP hz1 hk1 hS => ?_)
          have hP := cd_Pf ht hP
          obtain ⟨rfl, hbo11, at12, e2⟩ := hr9
          have at13 := cd_RowAt_keep hL1 (fun k h1 h2 => e2 k (by omega))
          obtain ⟨hn14, fa15⟩ := at12
          have hf16 : (f_Tc_noteHeadPasses u np up k x) = ((f_Tc_refuse u (6 : Int32) (k + (4 : Int32))).1, (f_Tc_refuse u (6 : Int32) (k + (4 : Int32))).2) := by rw [he, f_Tc_noteHeadPasses_L35, if_pos hc3, if_pos hc7]
          exact W.zret (ty := .boolean) (v := (f_Tc_refuse u (6 : Int32) (k + (4 : Int32))).1) hx hb hr (cd_nb hbo11) (fun tE ht _ => ⟨⟨_, w2, rfl, ⟨(by rw [hf16]), hbo11, (by rw [hf16]; exact ⟨hn14, fa15⟩), (fun k hk => ((e2 k (by omega)).trans (efr k (by omega))))⟩, cd_Pt ht hP⟩, hS.F ht⟩) hS.2.2 d_Tc_noteHeadPasses_124
        · refine lv_iload hx hb d_Tc_noteHeadPasses_99 (lv_at hl 0 rfl) ?_
          refine lv_iload_n hx hb d_Tc_noteHeadPasses_101 rfl (lv_at hl 4 rfl) ?_
          refine lv_icmp_gt (tgt := 115) hx hb d_Tc_noteHeadPasses_102 (by decide) (fun hc17 => ?_) (fun hc17 => ?_)
          · refine lv_aload_n hx hb d_Tc_noteHeadPasses_115 rfl (lv_at hl 1 rfl) ?_
            refine lv_bipush (v := (6 : Int32)) hx hb d_Tc_noteHeadPasses_116 (by decide) ?_
            refine lv_iload_n hx hb d_Tc_noteHeadPasses_118 rfl (lv_at hl 2 rfl) ?_
            refine lv_iconst (v := (4 : Int32)) hx hb d_Tc_noteHeadPasses_119 (by decide) ?_
            refine lv_iadd hx hb d_Tc_noteHeadPasses_120 ?_
            refine va_calli (va_runV (As := [.int (6 : Int32), .int (k + (4 : Int32))]) (rest := []) ⟨hx, hb, hml, hown, hA⟩ (c_Tc_refuse l D tt ad N A zs w q qp u (6 : Int32) (k + (4 : Int32)) (⟨hn1, fa2⟩)) (cwV 2 hA (cd_gV aw_406 aw_407 aw_768 aw_7 aw_408) rfl rfl rfl ⟨rfl, by decide, by decide, by decide +kernel⟩ ⟨Nat.le_of_ble_eq_true rfl, Nat.le_of_ble_eq_true rfl⟩) ⟨cd_blind, cd_recv hK hP (k := q) (by omega) fa2 rfl, fun U hU hW => ⟨rfl, cd_pre hK hP hZ hS U hU hW⟩⟩ rfl rfl hl.1 rfl (lv_room (Nat.le_of_ble_eq_true rfl)) d_Tc_noteHeadPasses_121 ⟨Nat.zero_le _, Nat.zero_le _⟩) hS (fun _ _ h => h) (fun _ h => h) (fun r18 w3 tE H locs ht hvm hr19 hP hz1 hk1 hS => ?_)
            have hP := cd_Pf ht hP
            obtain ⟨rfl, hbo21, at22, e3⟩ := hr19
            have at23 := cd_RowAt_keep hL1 (fun k h1 h2 => e3 k (by omega))
            obtain ⟨hn24, fa25⟩ := at22
            have hf26 : (f_Tc_noteHeadPasses u np up k x) = ((f_Tc_refuse u (6 : Int32) (k + (4 : Int32))).1, (f_Tc_refuse u (6 : Int32) (k + (4 : Int32))).2) := by rw [he, f_Tc_noteHeadPasses_L35, if_pos hc3, if_neg hc7, if_pos hc17]
            exact W.zret (ty := .boolean) (v := (f_Tc_refuse u (6 : Int32) (k + (4 : Int32))).1) hx hb hr (cd_nb hbo21) (fun tE ht _ => ⟨⟨_, w3, rfl, ⟨(by rw [hf26]), hbo21, (by rw [hf26]; exact ⟨hn24, fa25⟩), (fun k hk => ((e3 k (by omega)).trans (efr k (by omega))))⟩, cd_Pt ht hP⟩, hS.F ht⟩) hS.2.2 d_Tc_noteHeadPasses_124
          · refine lv_aload_n hx hb d_Tc_noteHeadPasses_105 rfl (lv_at hl 1 rfl) ?_
            refine lv_iload hx hb d_Tc_noteHeadPasses_106 (lv_at hl 0 rfl) ?_
            refine va_calli (va_runV (As := [.int (f_Tc_noteSize u np up k)]) (rest := []) ⟨hx, hb, hml, hown, hA⟩ (c_Tc_padded l D tt ad N A zs w q qp u (f_Tc_noteSize u np up k) (⟨hn1, fa2⟩)) (cwV 1 hA (cd_gV aw_457 aw_458 aw_780 aw_7 aw_459) rfl rfl rfl ⟨rfl, by decide, by decide, by decide +kernel⟩ ⟨Nat.le_of_ble_eq_true rfl, Nat.le_of_ble_eq_true rfl⟩) ⟨cd_blind, cd_recv hK hP (k := q) (by omega) fa2 rfl, fun U hU hW => ⟨rfl, cd_pre hK hP hZ hS U hU hW⟩⟩ rfl rfl hl.1 rfl (lv_room (Nat.le_of_ble_eq_true rfl)) d_Tc_noteHeadPasses_108 ⟨Nat.zero_le _, Nat.zero_le _⟩) hS (fun _ _ h => h) (fun _ h => h) (fun r27 w4 tE H locs ht hvm hr28 hP hz1 hk1 hS => ?_)
            have hP := cd_Pf ht hP
            obtain ⟨rfl, rfl⟩ := hr28
            refine lv_iload_n hx hb d_Tc_noteHeadPasses_111 rfl (lv_at hl 4 rfl) ?_
            refine lv_icmp_le (tgt := 125) hx hb d_Tc_noteHeadPasses_112 (by decide) (fun hc30 => ?_) (fun hc30 => ?_)
            · refine lv_iconst (v := (1 : Int32)) hx hb d_Tc_noteHeadPasses_125 (by decide) ?_
              have hf31 : (f_Tc_noteHeadPasses u np up k x) = ((1 : Int32), u) := by rw [he, f_Tc_noteHeadPasses_L35, if_pos hc3, if_neg hc7, if_neg hc17, if_pos hc30]
              exact W.zret (ty := .boolean) (v := (1 : Int32)) hx hb hr rfl (fun tE ht _ => ⟨⟨_, w, rfl, ⟨(by rw [hf31]), (Or.inr rfl), (by rw [hf31]; exact ⟨hn1, fa2⟩), (fun k hk => (efr k (by omega)))⟩, cd_Pt ht hP⟩, hS.F ht⟩) hS.2.2 d_Tc_noteHeadPasses_126
            · refine lv_aload_n hx hb d_Tc_noteHeadPasses_115 rfl (lv_at hl 1 rfl) ?_
              refine lv_bipush (v := (6 : Int32)) hx hb d_Tc_noteHeadPasses_116 (by decide) ?_
              refine lv_iload_n hx hb d_Tc_noteHeadPasses_118 rfl (lv_at hl 2 rfl) ?_
              refine lv_iconst (v := (4 : Int32)) hx hb d_Tc_noteHeadPasses_119 (by decide) ?_
              refine lv_iadd hx hb d_Tc_noteHeadPasses_120 ?_
              refine va_calli (va_runV (As := [.int (6 : Int32), .int (k + (4 : Int32))]) (rest := []) ⟨hx, hb, hml, hown, hA⟩ (c_Tc_refuse l D tt ad N A zs w q qp u (6 : Int32) (k + (4 : Int32)) (⟨hn1, fa2⟩)) (cwV 2 hA (cd_gV aw_406 aw_407 aw_768 aw_7 aw_408) rfl rfl rfl ⟨rfl, by decide, by decide, by decide +kernel⟩ ⟨Nat.le_of_ble_eq_true rfl, Nat.le_of_ble_eq_true rfl⟩) ⟨cd_blind, cd_recv hK hP (k := q) (by omega) fa2 rfl, fun U hU hW => ⟨rfl, cd_pre hK hP hZ hS U hU hW⟩⟩ rfl rfl hl.1 rfl (lv_room (Nat.le_of_ble_eq_true rfl)) d_Tc_noteHeadPasses_121 ⟨Nat.zero_le _, Nat.zero_le _⟩) hS (fun _ _ h => h) (fun _ h => h) (fun r32 w5 tE H locs ht hvm hr33 hP hz1 hk1 hS => ?_)
              have hP := cd_Pf ht hP
              obtain ⟨rfl, hbo35, at36, e5⟩ := hr33
              have at37 := cd_RowAt_keep hL1 (fun k h1 h2 => e5 k (by omega))
              obtain ⟨hn38, fa39⟩ := at36
              have hf40 : (f_Tc_noteHeadPasses u np up k x) = ((f_Tc_refuse u (6 : Int32) (k + (4 : Int32))).1, (f_Tc_refuse u (6 : Int32) (k + (4 : Int32))).2) := by rw [he, f_Tc_noteHeadPasses_L35, if_pos hc3, if_neg hc7, if_neg hc17, if_neg hc30]
              exact W.zret (ty := .boolean) (v := (f_Tc_refuse u (6 : Int32) (k + (4 : Int32))).1) hx hb hr (cd_nb hbo35) (fun tE ht _ => ⟨⟨_, w5, rfl, ⟨(by rw [hf40]), hbo35, (by rw [hf40]; exact ⟨hn38, fa39⟩), (fun k hk => ((e5 k (by omega)).trans (efr k (by omega))))⟩, cd_Pt ht hP⟩, hS.F ht⟩) hS.2.2 d_Tc_noteHeadPasses_124
      · refine lv_aload_n hx hb d_Tc_noteHeadPasses_44 rfl (lv_at hl 0 rfl) ?_
        refine g_get (ci := 5) (C := R_Tc) (T := F_Tc) (Nf := 4) (v := .ref (ad qp)) hx hb hA in_Tc hown hK hP (k := q) (by omega) fa2 rfl 0 (by decide) (hA _ aw_92) (fun _ h9 => h9) rfl d_Tc_noteHeadPasses_45 ?_
        refine lv_iload_n hx hb d_Tc_noteHeadPasses_48 rfl (lv_at hl 1 rfl) ?_
        refine lv_bipush (v := (12 : Int32)) hx hb d_Tc_noteHeadPasses_49 (by decide) ?_
        refine lv_iadd hx hb d_Tc_noteHeadPasses_51 ?_
        refine lv_iload hx hb d_Tc_noteHeadPasses_52 (lv_at hl 4 rfl) ?_
        refine lv_iadd hx hb d_Tc_noteHeadPasses_54 ?_
        obtain ⟨hn41, fa42, fa43⟩ := hL1
        refine va_calli (va_runV (As := [.int ((k + (12 : Int32)) + i)]) (rest := []) ⟨hx, hb, hml, hown, hA⟩ (c_Row_at l D tt ad N A zs w qp np up ((k + (12 : Int32)) + i) (⟨hn41, fa42, fa43⟩) (ho.2.1 hc3)) (cwV 1 hA (cd_gV aw_453 aw_293 aw_294 aw_5 aw_295) rfl rfl rfl ⟨rfl, by decide, by decide, by decide +kernel⟩ ⟨Nat.le_of_ble_eq_true rfl, Nat.le_of_ble_eq_true rfl⟩) ⟨cd_blind, cd_recv hK hP (k := qp) (by omega) fa42 rfl, fun U hU hW => ⟨rfl, cd_pre hK hP hZ hS U hU hW⟩⟩ rfl rfl hl.1 rfl (lv_room (Nat.le_of_ble_eq_true rfl)) d_Tc_noteHeadPasses_55 ⟨Nat.zero_le _, Nat.zero_le _⟩) hS (fun _ _ h => h) (fun _ h => h) (fun r44 w6 tE H locs ht hvm hr45 hP hz1 hk1 hS => ?_)
        have hP := cd_Pf ht hP
        obtain ⟨rfl, rfl⟩ := hr45
        refine va_getsN hx hb hZ.2.2.2.2.1 hS hown (va_Nw.use rfl (nw_13 hZ.2.2.2.2.2.2)) (fun _ h9 => h9) d_Tc_noteHeadPasses_58 ?_
        refine lv_iload hx hb d_Tc_noteHeadPasses_61 (lv_at hl 4 rfl) ?_
        refine va_ti hx hb hZ.2.2.2.2.2.1 hS (ho.2.2.1 hc3) rfl d_Tc_noteHeadPasses_63 ?_
        refine lv_icmp_eq (tgt := 81) hx hb d_Tc_noteHeadPasses_64 (by decide) (fun hc47 => ?_) (fun hc47 => ?_)
        · refine lv_iinc (k := 4) (v := (i + (1 : Int32))) (lv' := [(4, .int (i + (1 : Int32))), (0, .ref (ad q)), (1, .int k), (2, .int x), (3, .int y)]) hx hb d_Tc_noteHeadPasses_81 hl rfl (cd_inc _ _ _ (by decide)) (by decide) rfl (fun ls hl => ?_)
          refine lv_goto (tgt := 35) hx hb d_Tc_noteHeadPasses_84 (by decide) ?_
          exact ih y (i + (1 : Int32)) w (fun k hk => (efr k (by omega))) H locs ls (lv_sub hl [1, 2, 3, 4, 0] rfl) (show (f_Tc_noteHeadPasses u np up k x) = f_Tc_noteHeadPasses_L35 u np up k x gn y (i + (1 : Int32)) by rw [he, f_Tc_noteHeadPasses_L35, if_neg hc3, if_pos hc47]) (⟨hn1, fa2⟩) (⟨hn41, fa42, fa43⟩) hP hS (ho.2.2.2 hc3 hc47)
        · refine lv_aload_n hx hb d_Tc_noteHeadPasses_67 rfl (lv_at hl 0 rfl) ?_
          refine lv_bipush (v := (6 : Int32)) hx hb d_Tc_noteHeadPasses_68 (by decide) ?_
          refine lv_iload_n hx hb d_Tc_noteHeadPasses_70 rfl (lv_at hl 1 rfl) ?_
          refine lv_bipush (v := (12 : Int32)) hx hb d_Tc_noteHeadPasses_71 (by decide) ?_
          refine lv_iadd hx hb d_Tc_noteHeadPasses_73 ?_
          refine lv_iload hx hb d_Tc_noteHeadPasses_74 (lv_at hl 4 rfl) ?_
          refine lv_iadd hx hb d_Tc_noteHeadPasses_76 ?_
          refine va_calli (va_runV (As := [.int (6 : Int32), .int ((k + (12 : Int32)) + i)]) (rest := []) ⟨hx, hb, hml, hown, hA⟩ (c_Tc_refuse l D tt ad N A zs w q qp u (6 : Int32) ((k + (12 : Int32)) + i) (⟨hn1, fa2⟩)) (cwV 2 hA (cd_gV aw_406 aw_407 aw_768 aw_7 aw_408) rfl rfl rfl ⟨rfl, by decide, by decide, by decide +kernel⟩ ⟨Nat.le_of_ble_eq_true rfl, Nat.le_of_ble_eq_true rfl⟩) ⟨cd_blind, cd_recv hK hP (k := q) (by omega) fa2 rfl, fun U hU hW => ⟨rfl, cd_pre hK hP hZ hS U hU hW⟩⟩ rfl rfl hl.1 rfl (lv_room (Nat.le_of_ble_eq_true rfl)) d_Tc_noteHeadPasses_77 ⟨Nat.zero_le _, Nat.zero_le _⟩) hS (fun _ _ h => h) (fun _ h => h) (fun r48 w7 tE H locs ht hvm hr49 hP hz1 hk1 hS => ?_)
          have hP := cd_Pf ht hP
          obtain ⟨rfl, hbo51, at52, e7⟩ := hr49
          have fa53 := (e7 qp (by omega)).trans fa42
          have fa54 := (e7 (qp + 1) (by omega)).trans fa43
          obtain ⟨hn55, fa56⟩ := at52
          have hf57 : (f_Tc_noteHeadPasses u np up k x) = ((f_Tc_refuse u (6 : Int32) ((k + (12 : Int32)) + i)).1, (f_Tc_refuse u (6 : Int32) ((k + (12 : Int32)) + i)).2) := by rw [he, f_Tc_noteHeadPasses_L35, if_neg hc3, if_neg hc47]
          exact W.zret (ty := .boolean) (v := (f_Tc_refuse u (6 : Int32) ((k + (12 : Int32)) + i)).1) hx hb hr (cd_nb hbo51) (fun tE ht _ => ⟨⟨_, w7, rfl, ⟨(by rw [hf57]), hbo51, (by rw [hf57]; exact ⟨hn55, fa56⟩), (fun k hk => ((e7 k (by omega)).trans (efr k (by omega))))⟩, cd_Pt ht hP⟩, hS.F ht⟩) hS.2.2 d_Tc_noteHeadPasses_80
  have hS : va_S A s.heap s.heap [] := va_S.rf
  have hl := lv_entry ([.ref (ad q), .int k, .int x]) (n := 5) (Nat.le_of_ble_eq_true rfl)
  rw [lg_entry_eq]
  generalize (lg_sl ([.ref (ad q), .int k, .int x]) ++ List.replicate (5 - (lg_sl ([.ref (ad q), .int k, .int x])).length) Slot.unset).toArray = ls at hl ⊢
  have hl : lv_has ls 5 [(0, .ref (ad q)), (1, .int k), (2, .int x)] := hl
  have ho : (¬ ((x - k) - (20 : Int32)) < 0 → o_Row_number np up k (4 : Int32)) ∧ (¬ ((x - k) - (20 : Int32)) < 0 → (f_Row_number np up k (4 : Int32)) = (5 : Int32) → o_Tc_noteHeadPasses_L35 u np up k x 9 ((x - k) - (20 : Int32)) (0 : Int32)) := ho
  obtain ⟨hn58, fa59⟩ := hR0
  refine lv_iload_n hx hb d_Tc_noteHeadPasses_0 rfl (lv_at hl 2 rfl) ?_
  refine lv_iload_n hx hb d_Tc_noteHeadPasses_1 rfl (lv_at hl 1 rfl) ?_
  refine lv_isub hx hb d_Tc_noteHeadPasses_2 ?_
  refine lv_bipush (v := (20 : Int32)) hx hb d_Tc_noteHeadPasses_3 (by decide) ?_
  refine lv_isub hx hb d_Tc_noteHeadPasses_5 ?_
  refine lv_istore_n (lv' := [(3, .int ((x - k) - (20 : Int32))), (0, .ref (ad q)), (1, .int k), (2, .int x)]) hx hb d_Tc_noteHeadPasses_6 rfl hl (by decide) rfl (fun ls hl => ?_)
  refine lv_iload_n hx hb d_Tc_noteHeadPasses_7 rfl (lv_at hl 0 rfl) ?_
  refine lv_if_lt (tgt := 24) hx hb d_Tc_noteHeadPasses_8 (by decide) (fun hc60 => ?_) (fun hc60 => ?_)
  · refine lv_aload_n hx hb d_Tc_noteHeadPasses_24 rfl (lv_at hl 1 rfl) ?_
    refine lv_bipush (v := (6 : Int32)) hx hb d_Tc_noteHeadPasses_25 (by decide) ?_
    refine lv_iload_n hx hb d_Tc_noteHeadPasses_27 rfl (lv_at hl 2 rfl) ?_
    refine va_calli (va_runV (As := [.int (6 : Int32), .int k]) (rest := []) ⟨hx, hb, hml, hown, hA⟩ (c_Tc_refuse l D tt ad N A zs w0 q qp u (6 : Int32) k (⟨hn58, fa59⟩)) (cwV 2 hA (cd_gV aw_406 aw_407 aw_768 aw_7 aw_408) rfl rfl rfl ⟨rfl, by decide, by decide, by decide +kernel⟩ ⟨Nat.le_of_ble_eq_true rfl, Nat.le_of_ble_eq_true rfl⟩) ⟨cd_blind, cd_recv hK hP (k := q) (by omega) fa59 rfl, fun U hU hW => ⟨rfl, cd_pre hK hP hZ hS U hU hW⟩⟩ rfl rfl hl.1 rfl (lv_room (Nat.le_of_ble_eq_true rfl)) d_Tc_noteHeadPasses_28 ⟨Nat.zero_le _, Nat.zero_le _⟩) hS (fun _ _ h => h) (fun _ h => h) (fun r61 w8 tE H locs ht hvm hr62 hP hz1 hk1 hS => ?_)
    have hP := cd_Pf ht hP
    obtain ⟨rfl, hbo64, at65, e8⟩ := hr62
    have at66 := cd_RowAt_keep hR1 (fun k h1 h2 => e8 k (by omega))
    obtain ⟨hn67, fa68⟩ := at65
    have hf69 : (f_Tc_noteHeadPasses u np up k x) = ((f_Tc_refuse u (6 : Int32) k).1, (f_Tc_refuse u (6 : Int32) k).2) := by rw [f_Tc_noteHeadPasses, if_pos hc60]
    exact W.zret (ty := .boolean) (v := (f_Tc_refuse u (6 : Int32) k).1) hx hb hr (cd_nb hbo64) (fun tE ht _ => ⟨⟨_, w8, rfl, ⟨(by rw [hf69]), hbo64, (by rw [hf69]; exact ⟨hn67, fa68⟩), (fun k hk => (e8 k (by omega)))⟩, cd_Pt ht hP⟩, hS.F ht⟩) hS.2.2 d_Tc_noteHeadPasses_31
  · refine lv_aload_n hx hb d_Tc_noteHeadPasses_11 rfl (lv_at hl 1 rfl) ?_
    refine g_get (ci := 5) (C := R_Tc) (T := F_Tc) (Nf := 4) (v := .ref (ad qp)) hx hb hA in_Tc hown hK hP (k := q) (by omega) fa59 rfl 0 (by decide) (hA _ aw_92) (fun _ h9 => h9) rfl d_Tc_noteHeadPasses_12 ?_
    refine lv_iload_n hx hb d_Tc_noteHeadPasses_15 rfl (lv_at hl 2 rfl) ?_
    refine lv_iconst (v := (4 : Int32)) hx hb d_Tc_noteHeadPasses_16 (by decide) ?_
    obtain ⟨hn70, fa71, fa72⟩ := hR1
    refine va_calli (va_runV (As := [.int k, .int (4 : Int32)]) (rest := []) ⟨hx, hb, hml, hown, hA⟩ (c_Row_number l D tt ad N A zs w0 qp np up k (4 : Int32) (⟨hn70, fa71, fa72⟩) (ho.1 hc60)) (cwV 2 hA (cd_gV aw_409 aw_410 aw_411 aw_5 aw_412) rfl rfl rfl ⟨rfl, by decide, by decide, by decide +kernel⟩ ⟨Nat.le_of_ble_eq_true rfl, Nat.le_of_ble_eq_true rfl⟩) ⟨cd_blind, cd_recv hK hP (k := qp) (by omega) fa71 rfl, fun U hU hW => ⟨rfl, cd_pre hK hP hZ hS U hU hW⟩⟩ rfl rfl hl.1 rfl (lv_room (Nat.le_of_ble_eq_true rfl)) d_Tc_noteHeadPasses_17 ⟨Nat.zero_le _, Nat.zero_le _⟩) hS (fun _ _ h => h) (fun _ h => h) (fun r73 w9 tE H locs ht hvm hr74 hP hz1 hk1 hS => ?_)
    have hP := cd_Pf ht hP
    obtain ⟨rfl, rfl⟩ := hr74
    refine lv_iconst (v := (5 : Int32)) hx hb d_Tc_noteHeadPasses_20 (by decide) ?_
    refine lv_icmp_eq (tgt := 32) hx hb d_Tc_noteHeadPasses_21 (by decide) (fun hc76 => ?_) (fun hc76 => ?_)
    · refine lv_iconst (v := (0 : Int32)) hx hb d_Tc_noteHeadPasses_32 (by decide) ?_
      refine lv_istore (lv' := [(4, .int (0 : Int32)), (3, .int ((x - k) - (20 : Int32))), (0, .ref (ad q)), (1, .int k), (2, .int x)]) hx hb d_Tc_noteHeadPasses_33 hl (by decide) rfl (fun ls hl => ?_)
      exact L35 9 ((x - k) - (20 : Int32)) (0 : Int32) w0 (fun _ _ => rfl) H locs ls (lv_sub hl [2, 3, 4, 1, 0] rfl) (show (f_Tc_noteHeadPasses u np up k x) = f_Tc_noteHeadPasses_L35 u np up k x 9 ((x - k) - (20 : Int32)) (0 : Int32) by rw [f_Tc_noteHeadPasses, if_neg hc60, if_pos hc76]) (⟨hn58, fa59⟩) (⟨hn70, fa71, fa72⟩) hP hS (ho.2 hc60 hc76)
    · refine lv_aload_n hx hb d_Tc_noteHeadPasses_24 rfl (lv_at hl 1 rfl) ?_
      refine lv_bipush (v := (6 : Int32)) hx hb d_Tc_noteHeadPasses_25 (by decide) ?_
      refine lv_iload_n hx hb d_Tc_noteHeadPasses_27 rfl (lv_at hl 2 rfl) ?_
      refine va_calli (va_runV (As := [.int (6 : Int32), .int k]) (rest := []) ⟨hx, hb, hml, hown, hA⟩ (c_Tc_refuse l D tt ad N A zs w0 q qp u (6 : Int32) k (⟨hn58, fa59⟩)) (cwV 2 hA (cd_gV aw_406 aw_407 aw_768 aw_7 aw_408) rfl rfl rfl ⟨rfl, by decide, by decide, by decide +kernel⟩ ⟨Nat.le_of_ble_eq_true rfl, Nat.le_of_ble_eq_true rfl⟩) ⟨cd_blind, cd_recv hK hP (k := q) (by omega) fa59 rfl, fun U hU hW => ⟨rfl, cd_pre hK hP hZ hS U hU hW⟩⟩ rfl rfl hl.1 rfl (lv_room (Nat.le_of_ble_eq_true rfl)) d_Tc_noteHeadPasses_28 ⟨Nat.zero_le _, Nat.zero_le _⟩) hS (fun _ _ h => h) (fun _ h => h) (fun r77 w10 tE H locs ht hvm hr78 hP hz1 hk1 hS => ?_)
      have hP := cd_Pf ht hP
      obtain ⟨rfl, hbo80, at81, e10⟩ := hr78
      have fa82 := (e10 qp (by omega)).trans fa71
      have fa83 := (e10 (qp + 1) (by omega)).trans fa72
      obtain ⟨hn84, fa85⟩ := at81
      have hf86 : (f_Tc_noteHeadPasses u np up k x) = ((f_Tc_refuse u (6 : Int32) k).1, (f_Tc_refuse u (6 : Int32) k).2) := by rw [f_Tc_noteHeadPasses, if_neg hc60, if_neg hc76]
      exact W.zret (ty := .boolean) (v := (f_Tc_refuse u (6 : Int32) k).1) hx hb hr (cd_nb hbo80) (fun tE ht _ => ⟨⟨_, w10, rfl, ⟨(by rw [hf86]), hbo80, (by rw [hf86]; exact ⟨hn84, fa85⟩), (fun k hk => (e10 k (by omega)))⟩, cd_Pt ht hP⟩, hS.F ht⟩) hS.2.2 d_Tc_noteHeadPasses_31
def f_Tc_threadPasses_L99 (S : cd_Tc × cd_Tt) (np : Nat) (up : cd_Row) (k : Int32) : Nat → Int32 → Int32 → Int32 → cd_Tt → Int32 × cd_Tc × cd_Tt
  | 0, _, _, _, _ => default
  | gn + 1, x, y, i, ut' => (if (8 : Int32) ≤ i then ((1 : Int32), S.1, ut') else (f_Tc_threadPasses_L99 S np up k gn x y (i + (1 : Int32)) ((f_Tt_write ut' y i (f_Row_number np up ((x + (4 : Int32)) + ((4 : Int32) * i)) (4 : Int32))).2)))
def f_Tc_threadPasses (S : cd_Tc × cd_Tt) (np : Nat) (up : cd_Row) (k : Int32) : Int32 × cd_Tc × cd_Tt := (if (f_Row_number np up (k + (8 : Int32)) (4 : Int32)) = (1 : Int32) then (if (f_Tc_noteSize S.1 np up k) = (36 : Int32) then (if (f_Tt_hasId S.2 (f_Row_number np up (k + (20 : Int32)) (4 : Int32))) = 0 then (if (f_Tt_add S.2 (f_Row_number np up (k + (20 : Int32)) (4 : Int32))).1 = (-1 : Int32) then ((f_Tc_refuse S.1 (6 : Int32) k).1, (f_Tc_refuse S.1 (6 : Int32) k).2, (f_Tt_add S.2 (f_Row_number np up (k + (20 : Int32)) (4 : Int32))).2) else (f_Tc_threadPasses_L99 S np up k 9 (k + (20 : Int32)) ((f_Tt_add S.2 (f_Row_number np up (k + (20 : Int32)) (4 : Int32))).1) (0 : Int32) ((f_Tt_add S.2 (f_Row_number np up (k + (20 : Int32)) (4 : Int32))).2))) else ((f_Tc_refuse S.1 (6 : Int32) (k + (20 : Int32))).1, (f_Tc_refuse S.1 (6 : Int32) (k + (20 : Int32))).2, S.2)) else ((f_Tc_refuse S.1 (6 : Int32) (k + (4 : Int32))).1, (f_Tc_refuse S.1 (6 : Int32) (k + (4 : Int32))).2, S.2)) else ((1 : Int32), S.1, S.2))
def o_Tc_threadPasses_L99 (S : cd_Tc × cd_Tt) (np : Nat) (up : cd_Row) (k : Int32) : Nat → Int32 → Int32 → Int32 → cd_Tt → Prop
  | 0, _, _, _, _ => False
  | gn + 1, x, y, i, ut' => (¬ (8 : Int32) ≤ i → o_Row_number np up ((x + (4 : Int32)) + ((4 : Int32) * i)) (4 : Int32)) ∧ (¬ (8 : Int32) ≤ i → o_Tt_write ut' y i (f_Row_number np up ((x + (4 : Int32)) + ((4 : Int32) * i)) (4 : Int32))) ∧ (¬ (8 : Int32) ≤ i → o_Tc_threadPasses_L99 S np up k gn x y (i + (1 : Int32)) ((f_Tt_write ut' y i (f_Row_number np up ((x + (4 : Int32)) + ((4 : Int32) * i)) (4 : Int32))).2))
def o_Tc_threadPasses (S : cd_Tc × cd_Tt) (np : Nat) (up : cd_Row) (k : Int32) : Prop := (o_Row_number np up (k + (8 : Int32)) (4 : Int32)) ∧ ((f_Row_number np up (k + (8 : Int32)) (4 : Int32)) = (1 : Int32) → o_Tc_noteSize S.1 np up k) ∧ ((f_Row_number np up (k + (8 : Int32)) (4 : Int32)) = (1 : Int32) → (f_Tc_noteSize S.1 np up k) = (36 : Int32) → o_Row_number np up (k + (20 : Int32)) (4 : Int32)) ∧ ((f_Row_number np up (k + (8 : Int32)) (4 : Int32)) = (1 : Int32) → (f_Tc_noteSize S.1 np up k) = (36 : Int32) → o_Tt_hasId S.2 (f_Row_number np up (k + (20 : Int32)) (4 : Int32))) ∧ ((f_Row_number np up (k + (8 : Int32)) (4 : Int32)) = (1 : Int32) → (f_Tc_noteSize S.1 np up k) = (36 : Int32) → (f_Tt_hasId S.2 (f_Row_number np up (k + (20 : Int32)) (4 : Int32))) = 0 → o_Tt_add S.2 (f_Row_number np up (k + (20 : Int32)) (4 : Int32))) ∧ ((f_Row_number np up (k + (8 : Int32)) (4 : Int32)) = (1 : Int32) → (f_Tc_noteSize S.1 np up k) = (36 : Int32) → (f_Tt_hasId S.2 (f_Row_number np up (k + (20 : Int32)) (4 : Int32))) = 0 → ¬ (f_Tt_add S.2 (f_Row_number np up (k + (20 : Int32)) (4 : Int32))).1 = (-1 : Int32) → o_Tc_threadPasses_L99 S np up k 9 (k + (20 : Int32)) ((f_Tt_add S.2 (f_Row_number np up (k + (20 : Int32)) (4 : Int32))).1) (0 : Int32) ((f_Tt_add S.2 (f_Row_number np up (k + (20 : Int32)) (4 : Int32))).2))
set_option maxHeartbeats 4000000 in
set_option maxRecDepth 100000 in
theorem c_Tc_threadPasses (l : Launch) (D : va_G) (tt : Nat → ClassId) (ad : Nat → Nat) (N : Nat) (A : Nat → Prop) (zs : Nat → Nat) (w0 : Nat → va_E) (q qp : Nat) (S : cd_Tc × cd_Tt) (np : Nat) (up : cd_Row) (k : Int32) (hR0 : cd_TcAt N tt ad w0 q qp S.1) (hR1 : cd_RowAt N tt ad w0 qp np up) (hR2 : cd_TtAt N tt ad w0 (q + 1) S.2) (hap0 : qp + 2 ≤ q ∨ q + 4 ≤ qp) (ho : o_Tc_threadPasses S np up k) : Met l y_Tc_threadPasses w_Tc_threadPasses ({ frames := 3, cells := 0, slots := 0, locals := 66 }) (va_Pc [.ref (ad q), .int k] (cd_U D tt ad N A zs w0)) (va_Qi (fun r w' => (f_Tc_threadPasses S np up k).1 = r ∧ (r = 0 ∨ r = 1) ∧ cd_TcAt N tt ad w' q qp ((f_Tc_threadPasses S np up k).2.1) ∧ cd_TtAt N tt ad w' (q + 1) ((f_Tc_threadPasses S np up k).2.2) ∧ (∀ k : Nat, (k < q ∨ q + 1 ≤ k) ∧ (k < (q + 1) ∨ (q + 1) + 3 ≤ k) → w' k = w0 k)) (fun w' t => cd_P D ad N A w' t.heap) A) 0 0 A := by
  refine Met.ofW (cc := b_Tc_threadPasses) (maxL := 6) (ret := (some .boolean)) (by decide) rfl ?_
  intro p e s m args below meth c s₁ B hml hv
  obtain ⟨rfl, hP, hK, hZ⟩ := hv
  have hx := B.exec
  have hb := B.bytes
  have hr := B.returns
  have hA : ∀ w ∈ cd_AW, w.before _ s = true := fun w h => atoms_spec (ws := w_Tc_threadPasses) B.pre w (List.mem_cons_of_mem _ h)
  have hown : s.vm.findClass R_Tc = some m.cls := findClass_of_methodNamed B.named
  have hlocks := B.notSynchronized
  have L99 : ∀ (gn : Nat) (x : Int32) (y : Int32) (i : Int32) (ut' : cd_Tt) (w : Nat → va_E) (efr : ∀ k : Nat, (k < q ∨ q + 1 ≤ k) ∧ (k < (q + 1) ∨ (q + 1) + 3 ≤ k) → w k = w0 k) (H : Heap) (locs : List Loc) (ls : Array Slot), lv_has ls 6 [(0, .ref (ad q)), (1, .int k), (2, .int x), (4, .int y), (5, .int i)] → (f_Tc_threadPasses S np up k) = f_Tc_threadPasses_L99 S np up k gn x y i ut' → cd_TcAt N tt ad w q qp S.1 → cd_RowAt N tt ad w qp np up → cd_TtAt N tt ad w (q + 1) ut' → cd_P D ad N A w H → va_S A s.heap H locs → o_Tc_threadPasses_L99 S np up k gn x y i ut' → W p l e (headSpec w_Tc_threadPasses ({ frames := 3, cells := 0, slots := 0, locals := 66 })).room s m [.ref (ad q), .int k].toArray below meth c H locs 0 0 (MQ below (va_Qi (fun r w' => (f_Tc_threadPasses S np up k).1 = r ∧ (r = 0 ∨ r = 1) ∧ cd_TcAt N tt ad w' q qp ((f_Tc_threadPasses S np up k).2.1) ∧ cd_TtAt N tt ad w' (q + 1) ((f_Tc_threadPasses S np up k).2.2) ∧ (∀ k : Nat, (k < q ∨ q + 1 ≤ k) ∧ (k < (q + 1) ∨ (q + 1) + 3 ≤ k) → w' k = w0 k)) (fun w' t => cd_P D ad N A w' t.heap) A) [.ref (ad q), .int k].toArray s 0 0 A) (F0 m 99 ls []) := by
    intro gn
    induction gn with
    | zero => intro x y i ut' w efr H locs ls hl he hL0 hL1 hL2 hP hS ho; exact ho.elim
    | succ gn ih =>
      intro x y i ut' w efr H locs ls hl he hL0 hL1 hL2 hP hS ho
      have ho : (¬ (8 : Int32) ≤ i → o_Row_number np up ((x + (4 : Int32)) + ((4 : Int32) * i)) (4 : Int32)) ∧ (¬ (8 : Int32) ≤ i → o_Tt_write ut' y i (f_Row_number np up ((x + (4 : Int32)) + ((4 : Int32) * i)) (4 : Int32))) ∧ (¬ (8 : Int32) ≤ i → o_Tc_threadPasses_L99 S np up k gn x y (i + (1 : Int32)) ((f_Tt_write ut' y i (f_Row_number np up ((x + (4 : Int32)) + ((4 : Int32) * i)) (4 : Int32))).2)) := ho
      obtain ⟨hn1, fa2⟩ := hL0
      refine lv_iload hx hb d_Tc_threadPasses_99 (lv_at hl 4 rfl) ?_
      refine lv_bipush (v := (8 : Int32)) hx hb d_Tc_threadPasses_101 (by decide) ?_
      refine lv_icmp_ge (tgt := 140) hx hb d_Tc_threadPasses_103 (by decide) (fun hc3 => ?_) (fun hc3 => ?_)
      · refine lv_iconst (v := (1 : Int32)) hx hb d_Tc_threadPasses_140 (by decide) ?_
        have hf4 : (f_Tc_threadPasses S np up k) = ((1 : Int32), S.1, ut') := by rw [he, f_Tc_threadPasses_L99, if_pos hc3]
        exact W.zret (ty := .boolean) (v := (1 : Int32)) hx hb hr rfl (fun tE ht _ => ⟨⟨_, w, rfl, ⟨(by rw [hf4]), (Or.inr rfl), (by rw [hf4]; exact ⟨hn1, fa2⟩), (by rw [hf4]; exact hL2), (fun k hk => (efr k (by omega)))⟩, cd_Pt ht hP⟩, hS.F ht⟩) hS.2.2 d_Tc_threadPasses_141
      · refine lv_aload_n hx hb d_Tc_threadPasses_106 rfl (lv_at hl 0 rfl) ?_
        refine g_get (ci := 5) (C := R_Tc) (T := F_Tc) (Nf := 4) (v := .ref (ad (q + 1))) hx hb hA in_Tc hown hK hP (k := q) (by omega) fa2 rfl 1 (by decide) (hA _ aw_93) (fun _ h9 => h9) rfl d_Tc_threadPasses_107 ?_
        refine lv_iload hx hb d_Tc_threadPasses_110 (lv_at hl 3 rfl) ?_
        refine lv_iload hx hb d_Tc_threadPasses_112 (lv_at hl 4 rfl) ?_
        refine lv_aload_n hx hb d_Tc_threadPasses_114 rfl (lv_at hl 0 rfl) ?_
        refine g_get (ci := 5) (C := R_Tc) (T := F_Tc) (Nf := 4) (v := .ref (ad qp)) hx hb hA in_Tc hown hK hP (k := q) (by omega) fa2 rfl 0 (by decide) (hA _ aw_92) (fun _ h9 => h9) rfl d_Tc_threadPasses_115 ?_
        refine lv_iload_n hx hb d_Tc_threadPasses_118 rfl (lv_at hl 2 rfl) ?_
        refine lv_iconst (v := (4 : Int32)) hx hb d_Tc_threadPasses_119 (by decide) ?_
        refine lv_iadd hx hb d_Tc_threadPasses_120 ?_
        refine lv_iconst (v := (4 : Int32)) hx hb d_Tc_threadPasses_121 (by decide) ?_
        refine lv_iload hx hb d_Tc_threadPasses_122 (lv_at hl 4 rfl) ?_
        refine lv_imul hx hb d_Tc_threadPasses_124 ?_
        refine lv_iadd hx hb d_Tc_threadPasses_125 ?_
        refine lv_iconst (v := (4 : Int32)) hx hb d_Tc_threadPasses_126 (by decide) ?_
        obtain ⟨hn5, fa6, fa7⟩ := hL1
        refine va_calli (va_runV (As := [.int ((x + (4 : Int32)) + ((4 : Int32) * i)), .int (4 : Int32)]) (rest := [.int i, .int y, .ref (ad (q + 1))]) ⟨hx, hb, hml, hown, hA⟩ (c_Row_number l D tt ad N A zs w qp np up ((x + (4 : Int32)) + ((4 : Int32) * i)) (4 : Int32) (⟨hn5, fa6, fa7⟩) (ho.1 hc3)) (cwV 2 hA (cd_gV aw_409 aw_410 aw_411 aw_5 aw_412) rfl rfl rfl ⟨rfl, by decide, by decide, by decide +kernel⟩ ⟨Nat.le_of_ble_eq_true rfl, Nat.le_of_ble_eq_true rfl⟩) ⟨cd_blind, cd_recv hK hP (k := qp) (by omega) fa6 rfl, fun U hU hW => ⟨rfl, cd_pre hK hP hZ hS U hU hW⟩⟩ rfl rfl hl.1 rfl (lv_room (Nat.le_of_ble_eq_true rfl)) d_Tc_threadPasses_127 ⟨Nat.zero_le _, Nat.zero_le _⟩) hS (fun _ _ h => h) (fun _ h => h) (fun r8 w1 tE H locs ht hvm hr9 hP hz1 hk1 hS => ?_)
        have hP := cd_Pf ht hP
        obtain ⟨rfl, rfl⟩ := hr9
        obtain ⟨hn11, fa12, fa13, fa14⟩ := hL2
        refine va_calli (va_runV (As := [.int y, .int i, .int (f_Row_number np up ((x + (4 : Int32)) + ((4 : Int32) * i)) (4 : Int32))]) (rest := []) ⟨hx, hb, hml, hown, hA⟩ (c_Tt_write l D tt ad N A zs w (q + 1) ut' y i (f_Row_number np up ((x + (4 : Int32)) + ((4 : Int32) * i)) (4 : Int32)) (⟨hn11, fa12, fa13, fa14⟩) (ho.2.1 hc3)) (cwV 3 hA (cd_gV aw_465 aw_197 aw_198 aw_4 aw_199) rfl rfl rfl ⟨rfl, by decide, by decide, by decide +kernel⟩ ⟨Nat.le_of_ble_eq_true rfl, Nat.le_of_ble_eq_true rfl⟩) ⟨cd_blind, cd_recv hK hP (k := (q + 1)) (by omega) fa12 rfl, fun U hU hW => ⟨rfl, cd_pre hK hP hZ hS U hU hW⟩⟩ rfl rfl hl.1 rfl (lv_room (Nat.le_of_ble_eq_true rfl)) d_Tc_threadPasses_130 ⟨Nat.zero_le _, Nat.zero_le _⟩) hS (fun _ _ h => h) (fun _ h => h) (fun r15 w2 tE H locs ht hvm hr16 hP hz1 hk1 hS => ?_)
        have hP := cd_Pf ht hP
        obtain ⟨rfl, hbo18, at19, e2⟩ := hr16
        have fa20 := (e2 q (by omega)).trans fa2
        have fa21 := (e2 qp (by omega)).trans fa6
        have fa22 := (e2 (qp + 1) (by omega)).trans fa7
        refine lv_pop hx hb d_Tc_threadPasses_133 rfl ?_
        refine lv_iinc (k := 4) (v := (i + (1 : Int32))) (lv' := [(5, .int (i + (1 : Int32))), (0, .ref (ad q)), (1, .int k), (2, .int x), (4, .int y)]) hx hb d_Tc_threadPasses_134 hl rfl (cd_inc _ _ _ (by decide)) (by decide) rfl (fun ls hl => ?_)
        refine lv_goto (tgt := 99) hx hb d_Tc_threadPasses_137 (by decide) ?_
        exact ih x y (i + (1 : Int32)) ((f_Tt_write ut' y i (f_Row_number np up ((x + (4 : Int32)) + ((4 : Int32) * i)) (4 : Int32))).2) w2 (fun k hk => ((e2 k (by omega)).trans (efr k (by omega)))) H locs ls (lv_sub hl [1, 2, 3, 4, 0] rfl) (show (f_Tc_threadPasses S np up k) = f_Tc_threadPasses_L99 S np up k gn x y (i + (1 : Int32)) ((f_Tt_write ut' y i (f_Row_number np up ((x + (4 : Int32)) + ((4 : Int32) * i)) (4 : Int32))).2) by rw [he, f_Tc_threadPasses_L99, if_neg hc3]) (⟨hn1, fa20⟩) (⟨hn5, fa21, fa22⟩) at19 hP hS (ho.2.2 hc3)
  have hS : va_S A s.heap s.heap [] := va_S.rf
  have hl := lv_entry ([.ref (ad q), .int k]) (n := 6) (Nat.le_of_ble_eq_true rfl)
  rw [lg_entry_eq]
  generalize (lg_sl ([.ref (ad q), .int k]) ++ List.replicate (6 - (lg_sl ([.ref (ad q), .int k])).length) Slot.unset).toArray = ls at hl ⊢
  have hl : lv_has ls 6 [(0, .ref (ad q)), (1, .int k)] := hl
  have ho : (o_Row_number np up (k + (8 : Int32)) (4 : Int32)) ∧ ((f_Row_number np up (k + (8 : Int32)) (4 : Int32)) = (1 : Int32) → o_Tc_noteSize S.1 np up k) ∧ ((f_Row_number np up (k + (8 : Int32)) (4 : Int32)) = (1 : Int32) → (f_Tc_noteSize S.1 np up k) = (36 : Int32) → o_Row_number np up (k + (20 : Int32)) (4 : Int32)) ∧ ((f_Row_number np up (k + (8 : Int32)) (4 : Int32)) = (1 : Int32) → (f_Tc_noteSize S.1 np up k) = (36 : Int32) → o_Tt_hasId S.2 (f_Row_number np up (k + (20 : Int32)) (4 : Int32))) ∧ ((f_Row_number np up (k + (8 : Int32)) (4 : Int32)) = (1 : Int32) → (f_Tc_noteSize S.1 np up k) = (36 : Int32) → (f_Tt_hasId S.2 (f_Row_number np up (k + (20 : Int32)) (4 : Int32))) = 0 → o_Tt_add S.2 (f_Row_number np up (k + (20 : Int32)) (4 : Int32))) ∧ ((f_Row_number np up (k + (8 : Int32)) (4 : Int32)) = (1 : Int32) → (f_Tc_noteSize S.1 np up k) = (36 : Int32) → (f_Tt_hasId S.2 (f_Row_number np up (k + (20 : Int32)) (4 : Int32))) = 0 → ¬ (f_Tt_add S.2 (f_Row_number np up (k + (20 : Int32)) (4 : Int32))).1 = (-1 : Int32) → o_Tc_threadPasses_L99 S np up k 9 (k + (20 : Int32)) ((f_Tt_add S.2 (f_Row_number np up (k + (20 : Int32)) (4 : Int32))).1) (0 : Int32) ((f_Tt_add S.2 (f_Row_number np up (k + (20 : Int32)) (4 : Int32))).2)) := ho
  obtain ⟨hn23, fa24⟩ := hR0
  refine lv_aload_n hx hb d_Tc_threadPasses_0 rfl (lv_at hl 0 rfl) ?_
  refine g_get (ci := 5) (C := R_Tc) (T := F_Tc) (Nf := 4) (v := .ref (ad qp)) hx hb hA in_Tc hown hK hP (k := q) (by omega) fa24 rfl 0 (by decide) (hA _ aw_92) (fun _ h9 => h9) rfl d_Tc_threadPasses_1 ?_
  refine lv_iload_n hx hb d_Tc_threadPasses_4 rfl (lv_at hl 1 rfl) ?_
  refine lv_bipush (v := (8 : Int32)) hx hb d_Tc_threadPasses_5 (by decide) ?_
  refine lv_iadd hx hb d_Tc_threadPasses_7 ?_
  refine lv_iconst (v := (4 : Int32)) hx hb d_Tc_threadPasses_8 (by decide) ?_
  obtain ⟨hn25, fa26, fa27⟩ := hR1
  refine va_calli (va_runV (As := [.int (k + (8 : Int32)), .int (4 : Int32)]) (rest := []) ⟨hx, hb, hml, hown, hA⟩ (c_Row_number l D tt ad N A zs w0 qp np up (k + (8 : Int32)) (4 : Int32) (⟨hn25, fa26, fa27⟩) (ho.1)) (cwV 2 hA (cd_gV aw_409 aw_410 aw_411 aw_5 aw_412) rfl rfl rfl ⟨rfl, by decide, by decide, by decide +kernel⟩ ⟨Nat.le_of_ble_eq_true rfl, Nat.le_of_ble_eq_true rfl⟩) ⟨cd_blind, cd_recv hK hP (k := qp) (by omega) fa26 rfl, fun U hU hW => ⟨rfl, cd_pre hK hP hZ hS U hU hW⟩⟩ rfl rfl hl.1 rfl (lv_room (Nat.le_of_ble_eq_true rfl)) d_Tc_threadPasses_9 ⟨Nat.zero_le _, Nat.zero_le _⟩) hS (fun _ _ h => h) (fun _ h => h) (fun r28 w3 tE H locs ht hvm hr29 hP hz1 hk1 hS => ?_)
  have hP := cd_Pf ht hP
  obtain ⟨rfl, rfl⟩ := hr29
  refine lv_iconst (v := (1 : Int32)) hx hb d_Tc_threadPasses_12 (by decide) ?_
  refine lv_icmp_eq (tgt := 18) hx hb d_Tc_threadPasses_13 (by decide) (fun hc31 => ?_) (fun hc31 => ?_)
  · refine lv_aload_n hx hb d_Tc_threadPasses_18 rfl (lv_at hl 0 rfl) ?_
    refine lv_iload_n hx hb d_Tc_threadPasses_19 rfl (lv_at hl 1 rfl) ?_
    refine va_calli (va_runV (As := [.int k]) (rest := []) ⟨hx, hb, hml, hown, hA⟩ (c_Tc_noteSize l D tt ad N A zs w0 q qp S.1 np up k (⟨hn23, fa24⟩) (⟨hn25, fa26, fa27⟩) (ho.2.1 hc31)) (cwV 1 hA (cd_gV aw_454 aw_455 aw_779 aw_7 aw_456) rfl rfl rfl ⟨rfl, by decide, by decide, by decide +kernel⟩ ⟨Nat.le_of_ble_eq_true rfl, Nat.le_of_ble_eq_true rfl⟩) ⟨cd_blind, cd_recv hK hP (k := q) (by omega) fa24 rfl, fun U hU hW => ⟨rfl, cd_pre hK hP hZ hS U hU hW⟩⟩ rfl rfl hl.1 rfl (lv_room (Nat.le_of_ble_eq_true rfl)) d_Tc_threadPasses_20 ⟨Nat.zero_le _, Nat.zero_le _⟩) hS (fun _ _ h => h) (fun _ h => h) (fun r32 w4 tE H locs ht hvm hr33 hP hz1 hk1 hS => ?_)
    have hP := cd_Pf ht hP
    obtain ⟨rfl, rfl⟩ := hr33
    refine lv_bipush (v := (36 : Int32)) hx hb d_Tc_threadPasses_23 (by decide) ?_
    refine lv_icmp_eq (tgt := 38) hx hb d_Tc_threadPasses_25 (by decide) (fun hc35 => ?_) (fun hc35 => ?_)
    · refine lv_iload_n hx hb d_Tc_threadPasses_38 rfl (lv_at hl 1 rfl) ?_
      refine lv_bipush (v := (20 : Int32)) hx hb d_Tc_threadPasses_39 (by decide) ?_
      refine lv_iadd hx hb d_Tc_threadPasses_41 ?_
      refine lv_istore_n (lv' := [(2, .int (k + (20 : Int32))), (0, .ref (ad q)), (1, .int k)]) hx hb d_Tc_threadPasses_42 rfl hl (by decide) rfl (fun ls hl => ?_)
      refine lv_aload_n hx hb d_Tc_threadPasses_43 rfl (lv_at hl 1 rfl) ?_
      refine g_get (ci := 5) (C := R_Tc) (T := F_Tc) (Nf := 4) (v := .ref (ad qp)) hx hb hA in_Tc hown hK hP (k := q) (by omega) fa24 rfl 0 (by decide) (hA _ aw_92) (fun _ h9 => h9) rfl d_Tc_threadPasses_44 ?_
      refine lv_iload_n hx hb d_Tc_threadPasses_47 rfl (lv_at hl 0 rfl) ?_
      refine lv_iconst (v := (4 : Int32)) hx hb d_Tc_threadPasses_48 (by decide) ?_
      refine va_calli (va_runV (As := [.int (k + (20 : Int32)), .int (4 : Int32)]) (rest := []) ⟨hx, hb, hml, hown, hA⟩ (c_Row_number l D tt ad N A zs w0 qp np up (k + (20 : Int32)) (4 : Int32) (⟨hn25, fa26, fa27⟩) (ho.2.2.1 hc31 hc35)) (cwV 2 hA (cd_gV aw_409 aw_410 aw_411 aw_5 aw_412) rfl rfl rfl ⟨rfl, by decide, by decide, by decide +kernel⟩ ⟨Nat.le_of_ble_eq_true rfl, Nat.le_of_ble_eq_true rfl⟩) ⟨cd_blind, cd_recv hK hP (k := qp) (by omega) fa26 rfl, fun U hU hW => ⟨rfl, cd_pre hK hP hZ hS U hU hW⟩⟩ rfl rfl hl.1 rfl (lv_room (Nat.le_of_ble_eq_true rfl)) d_Tc_threadPasses_49 ⟨Nat.zero_le _, Nat.zero_le _⟩) hS (fun _ _ h => h) (fun _ h => h) (fun r36 w5 tE H locs ht hvm hr37 hP hz1 hk1 hS => ?_)
      have hP := cd_Pf ht hP
      obtain ⟨rfl, rfl⟩ := hr37
      refine lv_istore_n (lv' := [(3, .int (f_Row_number np up (k + (20 : Int32)) (4 : Int32))), (2, .int (k + (20 : Int32))), (0, .ref (ad q)), (1, .int k)]) hx hb d_Tc_threadPasses_52 rfl hl (by decide) rfl (fun ls hl => ?_)
      refine lv_aload_n hx hb d_Tc_threadPasses_53 rfl (lv_at hl 2 rfl) ?_
      refine g_get (ci := 5) (C := R_Tc) (T := F_Tc) (Nf := 4) (v := .ref (ad (q + 1))) hx hb hA in_Tc hown hK hP (k := q) (by omega) fa24 rfl 1 (by decide) (hA _ aw_93) (fun _ h9 => h9) rfl d_Tc_threadPasses_54 ?_
      refine lv_iload_n hx hb d_Tc_threadPasses_57 rfl (lv_at hl 0 rfl) ?_
      obtain ⟨hn39, fa40, fa41, fa42⟩ := hR2
      refine va_calli (va_runV (As := [.int (f_Row_number np up (k + (20 : Int32)) (4 : Int32))]) (rest := []) ⟨hx, hb, hml, hown, hA⟩ (c_Tt_hasId l D tt ad N A zs w0 (q + 1) S.2 (f_Row_number np up (k + (20 : Int32)) (4 : Int32)) (⟨hn39, fa40, fa41, fa42⟩) (ho.2.2.2.1 hc31 hc35)) (cwV 1 hA (cd_gV aw_463 aw_189 aw_190 aw_4 aw_191) rfl rfl rfl ⟨rfl, by decide, by decide, by decide +kernel⟩ ⟨Nat.le_of_ble_eq_true rfl, Nat.le_of_ble_eq_true rfl⟩) ⟨cd_blind, cd_recv hK hP (k := (q + 1)) (by omega) fa40 rfl, fun U hU hW => ⟨rfl, cd_pre hK hP hZ hS U hU hW⟩⟩ rfl rfl hl.1 rfl (lv_room (Nat.le_of_ble_eq_true rfl)) d_Tc_threadPasses_58 ⟨Nat.zero_le _, Nat.zero_le _⟩) hS (fun _ _ h => h) (fun _ h => h) (fun r43 w6 tE H locs ht hvm hr44 hP hz1 hk1 hS => ?_)
      have hP := cd_Pf ht hP
      obtain ⟨rfl, hbo46, rfl⟩ := hr44
      refine lv_if_eq (tgt := 72) hx hb d_Tc_threadPasses_61 (by decide) (fun hc47 => ?_) (fun hc47 => ?_)
      · refine lv_aload_n hx hb d_Tc_threadPasses_72 rfl (lv_at hl 2 rfl) ?_
        refine g_get (ci := 5) (C := R_Tc) (T := F_Tc) (Nf := 4) (v := .ref (ad (q + 1))) hx hb hA in_Tc hown hK hP (k := q) (by omega) fa24 rfl 1 (by decide) (hA _ aw_93) (fun _ h9 => h9) rfl d_Tc_threadPasses_73 ?_
        refine lv_iload_n hx hb d_Tc_threadPasses_76 rfl (lv_at hl 0 rfl) ?_
        refine va_calli (va_runV (As := [.int (f_Row_number np up (k + (20 : Int32)) (4 : Int32))]) (rest := []) ⟨hx, hb, hml, hown, hA⟩ (c_Tt_add l D tt ad N A zs w0 (q + 1) S.2 (f_Row_number np up (k + (20 : Int32)) (4 : Int32)) (⟨hn39, fa40, fa41, fa42⟩) (ho.2.2.2.2.1 hc31 hc35 hc47)) (cwV 1 hA (cd_gV aw_464 aw_185 aw_186 aw_4 aw_187) rfl rfl rfl ⟨rfl, by decide, by decide, by decide +kernel⟩ ⟨Nat.le_of_ble_eq_true rfl, Nat.le_of_ble_eq_true rfl⟩) ⟨cd_blind, cd_recv hK hP (k := (q + 1)) (by omega) fa40 rfl, fun U hU hW => ⟨rfl, cd_pre hK hP hZ hS U hU hW⟩⟩ rfl rfl hl.1 rfl (lv_room (Nat.le_of_ble_eq_true rfl)) d_Tc_threadPasses_77 ⟨Nat.zero_le _, Nat.zero_le _⟩) hS (fun _ _ h => h) (fun _ h => h) (fun r48 w7 tE H locs ht hvm hr49 hP hz1 hk1 hS => ?_)
        have hP := cd_Pf ht hP
        obtain ⟨rfl, at51, e7⟩ := hr49
        have fa52 := (e7 q (by omega)).trans fa24
        have fa53 := (e7 qp (by omega)).trans fa26
        have fa54 := (e7 (qp + 1) (by omega)).trans fa27
        refine lv_istore (lv' := [(4, .int ((f_Tt_add S.2 (f_Row_number np up (k + (20 : Int32)) (4 : Int32))).1)), (3, .int (f_Row_number np up (k + (20 : Int32)) (4 : Int32))), (2, .int (k + (20 : Int32))), (0, .ref (ad q)), (1, .int k)]) hx hb d_Tc_threadPasses_80 hl (by decide) rfl (fun ls hl => ?_)
        refine lv_iload hx hb d_Tc_threadPasses_82 (lv_at hl 0 rfl) ?_
        refine lv_iconst (v := (-1 : Int32)) hx hb d_Tc_threadPasses_84 (by decide) ?_
        refine lv_icmp_ne (tgt := 96) hx hb d_Tc_threadPasses_85 (by decide) (fun hc55 => ?_) (fun hc55 => ?_)
        · refine lv_iconst (v := (0 : Int32)) hx hb d_Tc_threadPasses_96 (by decide) ?_
          refine lv_istore (lv' := [(5, .int (0 : Int32)), (4, .int ((f_Tt_add S.2 (f_Row_number np up (k + (20 : Int32)) (4 : Int32))).1)), (3, .int (f_Row_number np up (k + (20 : Int32)) (4 : Int32))), (2, .int (k + (20 : Int32))), (0, .ref (ad q)), (1, .int k)]) hx hb d_Tc_threadPasses_97 hl (by decide) rfl (fun ls hl => ?_)
          exact L99 9 (k + (20 : Int32)) ((f_Tt_add S.2 (f_Row_number np up (k + (20 : Int32)) (4 : Int32))).1) (0 : Int32) ((f_Tt_add S.2 (f_Row_number np up (k + (20 : Int32)) (4 : Int32))).2) w7 (fun k hk => (e7 k (by omega))) H locs ls (lv_sub hl [4, 5, 3, 1, 0] rfl) (show (f_Tc_threadPasses S np up k) = f_Tc_threadPasses_L99 S np up k 9 (k + (20 : Int32)) ((f_Tt_add S.2 (f_Row_number np up (k + (20 : Int32)) (4 : Int32))).1) (0 : Int32) ((f_Tt_add S.2 (f_Row_number np up (k + (20 : Int32)) (4 : Int32))).2) by rw [f_Tc_threadPasses, if_pos hc31, if_pos hc35, if_pos hc47, if_neg hc55]) (⟨hn23, fa52⟩) (⟨hn25, fa53, fa54⟩) at51 hP hS (ho.2.2.2.2.2 hc31 hc35 hc47 hc55)
        · refine lv_aload_n hx hb d_Tc_threadPasses_88 rfl (lv_at hl 3 rfl) ?_
          refine lv_bipush (v := (6 : Int32)) hx hb d_Tc_threadPasses_89 (by decide) ?_
          refine lv_iload_n hx hb d_Tc_threadPasses_91 rfl (lv_at hl 4 rfl) ?_
          refine va_calli (va_runV (As := [.int (6 : Int32), .int k]) (rest := []) ⟨hx, hb, hml, hown, hA⟩ (c_Tc_refuse l D tt ad N A zs w7 q qp S.1 (6 : Int32) k (⟨hn23, fa52⟩)) (cwV 2 hA (cd_gV aw_406 aw_407 aw_768 aw_7 aw_408) rfl rfl rfl ⟨rfl, by decide, by decide, by decide +kernel⟩ ⟨Nat.le_of_ble_eq_true rfl, Nat.le_of_ble_eq_true rfl⟩) ⟨cd_blind, cd_recv hK hP (k := q) (by omega) fa52 rfl, fun U hU hW => ⟨rfl, cd_pre hK hP hZ hS U hU hW⟩⟩ rfl rfl hl.1 rfl (lv_room (Nat.le_of_ble_eq_true rfl)) d_Tc_threadPasses_92 ⟨Nat.zero_le _, Nat.zero_le _⟩) hS (fun _ _ h => h) (fun _ h => h) (fun r56 w8 tE H locs ht hvm hr57 hP hz1 hk1 hS => ?_)
          have hP := cd_Pf ht hP
          obtain ⟨rfl, hbo59, at60, e8⟩ := hr57
          have fa61 := (e8 qp (by omega)).trans fa53
          have fa62 := (e8 (qp + 1) (by omega)).trans fa54
          have at63 := cd_TtAt_keep at51 (fun k h1 h2 => e8 k (by omega))
          obtain ⟨hn64, fa65⟩ := at60
          have hf66 : (f_Tc_threadPasses S np up k) = ((f_Tc_refuse S.1 (6 : Int32) k).1, (f_Tc_refuse S.1 (6 : Int32) k).2, (f_Tt_add S.2 (f_Row_number np up (k + (20 : Int32)) (4 : Int32))).2) := by rw [f_Tc_threadPasses, if_pos hc31, if_pos hc35, if_pos hc47, if_pos hc55]
          exact W.zret (ty := .boolean) (v := (f_Tc_refuse S.1 (6 : Int32) k).1) hx hb hr (cd_nb hbo59) (fun tE ht _ => ⟨⟨_, w8, rfl, ⟨(by rw [hf66]), hbo59, (by rw [hf66]; exact ⟨hn64, fa65⟩), (by rw [hf66]; exact at63), (fun k hk => ((e8 k (by omega)).trans (e7 k (by omega))))⟩, cd_Pt ht hP⟩, hS.F ht⟩) hS.2.2 d_Tc_threadPasses_95
      · refine lv_aload_n hx hb d_Tc_threadPasses_64 rfl (lv_at hl 2 rfl) ?_
        refine lv_bipush (v := (6 : Int32)) hx hb d_Tc_threadPasses_65 (by decide) ?_
        refine lv_iload_n hx hb d_Tc_threadPasses_67 rfl (lv_at hl 1 rfl) ?_
        refine va_calli (va_runV (As := [.int (6 : Int32), .int (k + (20 : Int32))]) (rest := []) ⟨hx, hb, hml, hown, hA⟩ (c_Tc_refuse l D tt ad N A zs w0 q qp S.1 (6 : Int32) (k + (20 : Int32)) (⟨hn23, fa24⟩)) (cwV 2 hA (cd_gV aw_406 aw_407 aw_768 aw_7 aw_408) rfl rfl rfl ⟨rfl, by decide, by decide, by decide +kernel⟩ ⟨Nat.le_of_ble_eq_true rfl, Nat.le_of_ble_eq_true rfl⟩) ⟨cd_blind, cd_recv hK hP (k := q) (by omega) fa24 rfl, fun U hU hW => ⟨rfl, cd_pre hK hP hZ hS U hU hW⟩⟩ rfl rfl hl.1 rfl (lv_room (Nat.le_of_ble_eq_true rfl)) d_Tc_threadPasses_68 ⟨Nat.zero_le _, Nat.zero_le _⟩) hS (fun _ _ h => h) (fun _ h => h) (fun r67 w9 tE H locs ht hvm hr68 hP hz1 hk1 hS => ?_)
        have hP := cd_Pf ht hP
        obtain ⟨rfl, hbo70, at71, e9⟩ := hr68
        have fa72 := (e9 qp (by omega)).trans fa26
        have fa73 := (e9 (qp + 1) (by omega)).trans fa27
        have fa74 := (e9 (q + 1) (by omega)).trans fa40
        have fa75 := (e9 (q + 2) (by omega)).trans fa41
        have fa76 := (e9 (q + 3) (by omega)).trans fa42
        obtain ⟨hn77, fa78⟩ := at71
        have hf79 : (f_Tc_threadPasses S np up k) = ((f_Tc_refuse S.1 (6 : Int32) (k + (20 : Int32))).1, (f_Tc_refuse S.1 (6 : Int32) (k + (20 : Int32))).2, S.2) := by rw [f_Tc_threadPasses, if_pos hc31, if_pos hc35, if_neg hc47]
        exact W.zret (ty := .boolean) (v := (f_Tc_refuse S.1 (6 : Int32) (k + (20 : Int32))).1) hx hb hr (cd_nb hbo70) (fun tE ht _ => ⟨⟨_, w9, rfl, ⟨(by rw [hf79]), hbo70, (by rw [hf79]; exact ⟨hn77, fa78⟩), (by rw [hf79]; exact ⟨hn39, fa74, fa75, fa76⟩), (fun k hk => (e9 k (by omega)))⟩, cd_Pt ht hP⟩, hS.F ht⟩) hS.2.2 d_Tc_threadPasses_71
    · refine lv_aload_n hx hb d_Tc_threadPasses_28 rfl (lv_at hl 0 rfl) ?_
      refine lv_bipush (v := (6 : Int32)) hx hb d_Tc_threadPasses_29 (by decide) ?_
      refine lv_iload_n hx hb d_Tc_threadPasses_31 rfl (lv_at hl 1 rfl) ?_
      refine lv_iconst (v := (4 : Int32)) hx hb d_Tc_threadPasses_32 (by decide) ?_
      refine lv_iadd hx hb d_Tc_threadPasses_33 ?_
      refine va_calli (va_runV (As := [.int (6 : Int32), .int (k + (4 : Int32))]) (rest := []) ⟨hx, hb, hml, hown, hA⟩ (c_Tc_refuse l D tt ad N A zs w0 q qp S.1 (6 : Int32) (k + (4 : Int32)) (⟨hn23, fa24⟩)) (cwV 2 hA (cd_gV aw_406 aw_407 aw_768 aw_7 aw_408) rfl rfl rfl ⟨rfl, by decide, by decide, by decide +kernel⟩ ⟨Nat.le_of_ble_eq_true rfl, Nat.le_of_ble_eq_true rfl⟩) ⟨cd_blind, cd_recv hK hP (k := q) (by omega) fa24 rfl, fun U hU hW => ⟨rfl, cd_pre hK hP hZ hS U hU hW⟩⟩ rfl rfl hl.1 rfl (lv_room (Nat.le_of_ble_eq_true rfl)) d_Tc_threadPasses_34 ⟨Nat.zero_le _, Nat.zero_le _⟩) hS (fun _ _ h => h) (fun _ h => h) (fun r80 w10 tE H locs ht hvm hr81 hP hz1 hk1 hS => ?_)
      have hP := cd_Pf ht hP
      obtain ⟨rfl, hbo83, at84, e10⟩ := hr81
      have fa85 := (e10 qp (by omega)).trans fa26
      have fa86 := (e10 (qp + 1) (by omega)).trans fa27
      have at87 := cd_TtAt_keep hR2 (fun k h1 h2 => e10 k (by omega))
      obtain ⟨hn88, fa89⟩ := at84
      have hf90 : (f_Tc_threadPasses S np up k) = ((f_Tc_refuse S.1 (6 : Int32) (k + (4 : Int32))).1, (f_Tc_refuse S.1 (6 : Int32) (k + (4 : Int32))).2, S.2) := by rw [f_Tc_threadPasses, if_pos hc31, if_neg hc35]
      exact W.zret (ty := .boolean) (v := (f_Tc_refuse S.1 (6 : Int32) (k + (4 : Int32))).1) hx hb hr (cd_nb hbo83) (fun tE ht _ => ⟨⟨_, w10, rfl, ⟨(by rw [hf90]), hbo83, (by rw [hf90]; exact ⟨hn88, fa89⟩), (by rw [hf90]; exact at87), (fun k hk => (e10 k (by omega)))⟩, cd_Pt ht hP⟩, hS.F ht⟩) hS.2.2 d_Tc_threadPasses_37
  · refine lv_iconst (v := (1 : Int32)) hx hb d_Tc_threadPasses_16 (by decide) ?_
    have hf91 : (f_Tc_threadPasses S np up k) = ((1 : Int32), S.1, S.2) := by rw [f_Tc_threadPasses, if_neg hc31]
    exact W.zret (ty := .boolean) (v := (1 : Int32)) hx hb hr rfl (fun tE ht _ => ⟨⟨_, w0, rfl, ⟨(by rw [hf91]), (Or.inr rfl), (by rw [hf91]; exact ⟨hn23, fa24⟩), (by rw [hf91]; exact hR2), (fun _ _ => rfl)⟩, cd_Pt ht hP⟩, hS.F ht⟩) hS.2.2 d_Tc_threadPasses_17
def f_Tc_notesPass_L18 (S : cd_Tc × cd_Tt) (np : Nat) (up : cd_Row) : Nat → Int32 → Int32 → Int32 → (cd_Tc × cd_Tt) → Int32 × cd_Tc × cd_Tt
  | 0, _, _, _, _ => default
  | gn + 1, x, y, i, S' => (if (8192 : Int32) ≤ i then ((1 : Int32), S'.1, S'.2) else (if y ≤ x then ((1 : Int32), S'.1, S'.2) else (if (f_Tc_noteHeadPasses S'.1 np up x y).1 = 0 then ((0 : Int32), (f_Tc_noteHeadPasses S'.1 np up x y).2, S'.2) else (if (f_Tc_threadPasses ((f_Tc_noteHeadPasses S'.1 np up x y).2, S'.2) np up x).1 = 0 then ((0 : Int32), (f_Tc_threadPasses ((f_Tc_noteHeadPasses S'.1 np up x y).2, S'.2) np up x).2.1, (f_Tc_threadPasses ((f_Tc_noteHeadPasses S'.1 np up x y).2, S'.2) np up x).2.2) else (f_Tc_notesPass_L18 S np up gn (x + ((20 : Int32) + (f_Tc_padded ((f_Tc_threadPasses ((f_Tc_noteHeadPasses S'.1 np up x y).2, S'.2) np up x).2.1) (f_Tc_noteSize ((f_Tc_threadPasses ((f_Tc_noteHeadPasses S'.1 np up x y).2, S'.2) np up x).2.1) np up x)))) y (i + (1 : Int32)) ((f_Tc_threadPasses ((f_Tc_noteHeadPasses S'.1 np up x y).2, S'.2) np up x).2))))))
def f_Tc_notesPass (S : cd_Tc × cd_Tt) (np : Nat) (up : cd_Row) : Int32 × cd_Tc × cd_Tt := (f_Tc_notesPass_L18 S np up 500 (f_Tc_entryField S.1 np up (0 : Int32) (1 : Int32)) ((f_Tc_entryField S.1 np up (0 : Int32) (1 : Int32)) + (f_Tc_entryField S.1 np up (0 : Int32) (4 : Int32))) (0 : Int32) S)
def o_Tc_notesPass_L18 (S : cd_Tc × cd_Tt) (np : Nat) (up : cd_Row) : Nat → Int32 → Int32 → Int32 → (cd_Tc × cd_Tt) → Prop
  | 0, _, _, _, _ => False
  | gn + 1, x, y, i, S' => (¬ (8192 : Int32) ≤ i → ¬ y ≤ x → o_Tc_noteHeadPasses S'.1 np up x y) ∧ (¬ (8192 : Int32) ≤ i → ¬ y ≤ x → ¬ (f_Tc_noteHeadPasses S'.1 np up x y).1 = 0 → o_Tc_threadPasses ((f_Tc_noteHeadPasses S'.1 np up x y).2, S'.2) np up x) ∧ (¬ (8192 : Int32) ≤ i → ¬ y ≤ x → ¬ (f_Tc_noteHeadPasses S'.1 np up x y).1 = 0 → ¬ (f_Tc_threadPasses ((f_Tc_noteHeadPasses S'.1 np up x y).2, S'.2) np up x).1 = 0 → o_Tc_noteSize ((f_Tc_threadPasses ((f_Tc_noteHeadPasses S'.1 np up x y).2, S'.2) np up x).2.1) np up x) ∧ (¬ (8192 : Int32) ≤ i → ¬ y ≤ x → ¬ (f_Tc_noteHeadPasses S'.1 np up x y).1 = 0 → ¬ (f_Tc_threadPasses ((f_Tc_noteHeadPasses S'.1 np up x y).2, S'.2) np up x).1 = 0 → o_Tc_notesPass_L18 S np up gn (x + ((20 : Int32) + (f_Tc_padded ((f_Tc_threadPasses ((f_Tc_noteHeadPasses S'.1 np up x y).2, S'.2) np up x).2.1) (f_Tc_noteSize ((f_Tc_threadPasses ((f_Tc_noteHeadPasses S'.1 np up x y).2, S'.2) np up x).2.1) np up x)))) y (i + (1 : Int32)) ((f_Tc_threadPasses ((f_Tc_noteHeadPasses S'.1 np up x y).2, S'.2) np up x).2))
def o_Tc_notesPass (S : cd_Tc × cd_Tt) (np : Nat) (up : cd_Row) : Prop := (o_Tc_entryField S.1 np up (0 : Int32) (1 : Int32)) ∧ (o_Tc_entryField S.1 np up (0 : Int32) (4 : Int32)) ∧ (o_Tc_notesPass_L18 S np up 500 (f_Tc_entryField S.1 np up (0 : Int32) (1 : Int32)) ((f_Tc_entryField S.1 np up (0 : Int32) (1 : Int32)) + (f_Tc_entryField S.1 np up (0 : Int32) (4 : Int32))) (0 : Int32) S)
set_option maxHeartbeats 4000000 in
set_option maxRecDepth 100000 in
theorem c_Tc_notesPass (l : Launch) (D : va_G) (tt : Nat → ClassId) (ad : Nat → Nat) (N : Nat) (A : Nat → Prop) (zs : Nat → Nat) (w0 : Nat → va_E) (q qp : Nat) (S : cd_Tc × cd_Tt) (np : Nat) (up : cd_Row) (hR0 : cd_TcAt N tt ad w0 q qp S.1) (hR1 : cd_RowAt N tt ad w0 qp np up) (hR2 : cd_TtAt N tt ad w0 (q + 1) S.2) (hap0 : qp + 2 ≤ q ∨ q + 4 ≤ qp) (ho : o_Tc_notesPass S np up) : Met l y_Tc_notesPass w_Tc_notesPass ({ frames := 4, cells := 0, slots := 0, locals := 91 }) (va_Pc [.ref (ad q)] (cd_U D tt ad N A zs w0)) (va_Qi (fun r w' => (f_Tc_notesPass S np up).1 = r ∧ (r = 0 ∨ r = 1) ∧ cd_TcAt N tt ad w' q qp ((f_Tc_notesPass S np up).2.1) ∧ cd_TtAt N tt ad w' (q + 1) ((f_Tc_notesPass S np up).2.2) ∧ (∀ k : Nat, (k < q ∨ q + 1 ≤ k) ∧ (k < (q + 1) ∨ (q + 1) + 3 ≤ k) → w' k = w0 k)) (fun w' t => cd_P D ad N A w' t.heap) A) 0 0 A := by
  refine Met.ofW (cc := b_Tc_notesPass) (maxL := 4) (ret := (some .boolean)) (by decide) rfl ?_
  intro p e s m args below meth c s₁ B hml hv
  obtain ⟨rfl, hP, hK, hZ⟩ := hv
  have hx := B.exec
  have hb := B.bytes
  have hr := B.returns
  have hA : ∀ w ∈ cd_AW, w.before _ s = true := fun w h => atoms_spec (ws := w_Tc_notesPass) B.pre w (List.mem_cons_of_mem _ h)
  have hown : s.vm.findClass R_Tc = some m.cls := findClass_of_methodNamed B.named
  have hlocks := B.notSynchronized
  have L18 : ∀ (gn : Nat) (x : Int32) (y : Int32) (i : Int32) (S' : cd_Tc × cd_Tt) (w : Nat → va_E) (efr : ∀ k : Nat, (k < q ∨ q + 1 ≤ k) ∧ (k < (q + 1) ∨ (q + 1) + 3 ≤ k) → w k = w0 k) (H : Heap) (locs : List Loc) (ls : Array Slot), lv_has ls 4 [(0, .ref (ad q)), (1, .int x), (2, .int y), (3, .int i)] → (f_Tc_notesPass S np up) = f_Tc_notesPass_L18 S np up gn x y i S' → cd_TcAt N tt ad w q qp S'.1 → cd_RowAt N tt ad w qp np up → cd_TtAt N tt ad w (q + 1) S'.2 → cd_P D ad N A w H → va_S A s.heap H locs → o_Tc_notesPass_L18 S np up gn x y i S' → W p l e (headSpec w_Tc_notesPass ({ frames := 4, cells := 0, slots := 0, locals := 91 })).room s m [.ref (ad q)].toArray below meth c H locs 0 0 (MQ below (va_Qi (fun r w' => (f_Tc_notesPass S np up).1 = r ∧ (r = 0 ∨ r = 1) ∧ cd_TcAt N tt ad w' q qp ((f_Tc_notesPass S np up).2.1) ∧ cd_TtAt N tt ad w' (q + 1) ((f_Tc_notesPass S np up).2.2) ∧ (∀ k : Nat, (k < q ∨ q + 1 ≤ k) ∧ (k < (q + 1) ∨ (q + 1) + 3 ≤ k) → w' k = w0 k)) (fun w' t => cd_P D ad N A w' t.heap) A) [.ref (ad q)].toArray s 0 0 A) (F0 m 18 ls []) := by
    intro gn
    induction gn with
    | zero => intro x y i S' w efr H locs ls hl he hL0 hL1 hL2 hP hS ho; exact ho.elim
    | succ gn ih =>
      intro x y i S' w efr H locs ls hl he hL0 hL1 hL2 hP hS ho
      have ho : (¬ (8192 : Int32) ≤ i → ¬ y ≤ x → o_Tc_noteHeadPasses S'.1 np up x y) ∧ (¬ (8192 : Int32) ≤ i → ¬ y ≤ x → ¬ (f_Tc_noteHeadPasses S'.1 np up x y).1 = 0 → o_Tc_threadPasses ((f_Tc_noteHeadPasses S'.1 np up x y).2, S'.2) np up x) ∧ (¬ (8192 : Int32) ≤ i → ¬ y ≤ x → ¬ (f_Tc_noteHeadPasses S'.1 np up x y).1 = 0 → ¬ (f_Tc_threadPasses ((f_Tc_noteHeadPasses S'.1 np up x y).2, S'.2) np up x).1 = 0 → o_Tc_noteSize ((f_Tc_threadPasses ((f_Tc_noteHeadPasses S'.1 np up x y).2, S'.2) np up x).2.1) np up x) ∧ (¬ (8192 : Int32) ≤ i → ¬ y ≤ x → ¬ (f_Tc_noteHeadPasses S'.1 np up x y).1 = 0 → ¬ (f_Tc_threadPasses ((f_Tc_noteHeadPasses S'.1 np up x y).2, S'.2) np up x).1 = 0 → o_Tc_notesPass_L18 S np up gn (x + ((20 : Int32) + (f_Tc_padded ((f_Tc_threadPasses ((f_Tc_noteHeadPasses S'.1 np up x y).2, S'.2) np up x).2.1) (f_Tc_noteSize ((f_Tc_threadPasses ((f_Tc_noteHeadPasses S'.1 np up x y).2, S'.2) np up x).2.1) np up x)))) y (i + (1 : Int32)) ((f_Tc_threadPasses ((f_Tc_noteHeadPasses S'.1 np up x y).2, S'.2) np up x).2)) := ho
      obtain ⟨hn1, fa2⟩ := hL0
      refine lv_iload_n hx hb d_Tc_notesPass_18 rfl (lv_at hl 3 rfl) ?_
      refine lv_sipush (v := (8192 : Int32)) hx hb d_Tc_notesPass_19 (by decide) ?_
      refine lv_icmp_ge (tgt := 70) hx hb d_Tc_notesPass_22 (by decide) (fun hc3 => ?_) (fun hc3 => ?_)
      · refine lv_iconst (v := (1 : Int32)) hx hb d_Tc_notesPass_70 (by decide) ?_
        have hf4 : (f_Tc_notesPass S np up) = ((1 : Int32), S'.1, S'.2) := by rw [he, f_Tc_notesPass_L18, if_pos hc3]
        exact W.zret (ty := .boolean) (v := (1 : Int32)) hx hb hr rfl (fun tE ht _ => ⟨⟨_, w, rfl, ⟨(by rw [hf4]), (Or.inr rfl), (by rw [hf4]; exact ⟨hn1, fa2⟩), (by rw [hf4]; exact hL2), (fun k hk => (efr k (by omega)))⟩, cd_Pt ht hP⟩, hS.F ht⟩) hS.2.2 d_Tc_notesPass_71
      · refine lv_iload_n hx hb d_Tc_notesPass_25 rfl (lv_at hl 1 rfl) ?_
        refine lv_iload_n hx hb d_Tc_notesPass_26 rfl (lv_at hl 2 rfl) ?_
        refine lv_icmp_ge (tgt := 70) hx hb d_Tc_notesPass_27 (by decide) (fun hc5 => ?_) (fun hc5 => ?_)
        · refine lv_iconst (v := (1 : Int32)) hx hb d_Tc_notesPass_70 (by decide) ?_
          have hf6 : (f_Tc_notesPass S np up) = ((1 : Int32), S'.1, S'.2) := by rw [he, f_Tc_notesPass_L18, if_neg hc3, if_pos hc5]
          exact W.zret (ty := .boolean) (v := (1 : Int32)) hx hb hr rfl (fun tE ht _ => ⟨⟨_, w, rfl, ⟨(by rw [hf6]), (Or.inr rfl), (by rw [hf6]; exact ⟨hn1, fa2⟩), (by rw [hf6]; exact hL2), (fun k hk => (efr k (by omega)))⟩, cd_Pt ht hP⟩, hS.F ht⟩) hS.2.2 d_Tc_notesPass_71
        · refine lv_aload_n hx hb d_Tc_notesPass_30 rfl (lv_at hl 0 rfl) ?_
          refine lv_iload_n hx hb d_Tc_notesPass_31 rfl (lv_at hl 1 rfl) ?_
          refine lv_iload_n hx hb d_Tc_notesPass_32 rfl (lv_at hl 2 rfl) ?_
          refine va_calli (va_runV (As := [.int x, .int y]) (rest := []) ⟨hx, hb, hml, hown, hA⟩ (c_Tc_noteHeadPasses l D tt ad N A zs w q qp S'.1 np up x y (⟨hn1, fa2⟩) hL1 (by omega) (ho.1 hc3 hc5)) (cwV 2 hA (cd_gV aw_450 aw_451 aw_778 aw_7 aw_452) rfl rfl rfl ⟨rfl, by decide, by decide, by decide +kernel⟩ ⟨Nat.le_of_ble_eq_true rfl, Nat.le_of_ble_eq_true rfl⟩) ⟨cd_blind, cd_recv hK hP (k := q) (by omega) fa2 rfl, fun U hU hW => ⟨rfl, cd_pre hK hP hZ hS U hU hW⟩⟩ rfl rfl hl.1 rfl (lv_room (Nat.le_of_ble_eq_true rfl)) d_Tc_notesPass_33 ⟨Nat.zero_le _, Nat.zero_le _⟩) hS (fun _ _ h => h) (fun _ h => h) (fun r7 w1 tE H locs ht hvm hr8 hP hz1 hk1 hS => ?_)
          have hP := cd_Pf ht hP
          obtain ⟨rfl, hbo10, at11, e1⟩ := hr8
          have at12 := cd_RowAt_keep hL1 (fun k h1 h2 => e1 k (by omega))
          have at13 := cd_TtAt_keep hL2 (fun k h1 h2 => e1 k (by omega))
          obtain ⟨hn14, fa15⟩ := at11
          refine lv_if_eq (tgt := 47) hx hb d_Tc_notesPass_36 (by decide) (fun hc16 => ?_) (fun hc16 => ?_)
          · refine lv_iconst (v := (0 : Int32)) hx hb d_Tc_notesPass_47 (by decide) ?_
            have hf17 : (f_Tc_notesPass S np up) = ((0 : Int32), (f_Tc_noteHeadPasses S'.1 np up x y).2, S'.2) := by rw [he, f_Tc_notesPass_L18, if_neg hc3, if_neg hc5, if_pos hc16]
            exact W.zret (ty := .boolean) (v := (0 : Int32)) hx hb hr rfl (fun tE ht _ => ⟨⟨_, w1, rfl, ⟨(by rw [hf17]), (Or.inl rfl), (by rw [hf17]; exact ⟨hn14, fa15⟩), (by rw [hf17]; exact at13), (fun k hk => ((e1 k (by omega)).trans (efr k (by omega))))⟩, cd_Pt ht hP⟩, hS.F ht⟩) hS.2.2 d_Tc_notesPass_48
          · refine lv_aload_n hx hb d_Tc_notesPass_39 rfl (lv_at hl 0 rfl) ?_
            refine lv_iload_n hx hb d_Tc_notesPass_40 rfl (lv_at hl 1 rfl) ?_
            refine va_calli (va_runV (As := [.int x]) (rest := []) ⟨hx, hb, hml, hown, hA⟩ (c_Tc_threadPasses l D tt ad N A zs w1 q qp ((f_Tc_noteHeadPasses S'.1 np up x y).2, S'.2) np up x (⟨hn14, fa15⟩) at12 at13 (by omega) (ho.2.1 hc3 hc5 hc16)) (cwV 1 hA (cd_gV aw_460 aw_461 aw_781 aw_7 aw_462) rfl rfl rfl ⟨rfl, by decide, by decide, by decide +kernel⟩ ⟨Nat.le_of_ble_eq_true rfl, Nat.le_of_ble_eq_true rfl⟩) ⟨cd_blind, cd_recv hK hP (k := q) (by omega) fa15 rfl, fun U hU hW => ⟨rfl, cd_pre hK hP hZ hS U hU hW⟩⟩ rfl rfl hl.1 rfl (lv_room (Nat.le_of_ble_eq_true rfl)) d_Tc_notesPass_41 ⟨Nat.zero_le _, Nat.zero_le _⟩) hS (fun _ _ h => h) (fun _ h => h) (fun r18 w2 tE H locs ht hvm hr19 hP hz1 hk1 hS => ?_)
            have hP := cd_Pf ht hP
            obtain ⟨rfl, hbo21, at22, at23, e2⟩ := hr19
            have at24 := cd_RowAt_keep at12 (fun k h1 h2 => e2 k (by omega))
            obtain ⟨hn25, fa26⟩ := at22
            refine lv_if_ne (tgt := 49) hx hb d_Tc_notesPass_44 (by decide) (fun hc27 => ?_) (fun hc27 => ?_)
            · refine lv_iload_n hx hb d_Tc_notesPass_49 rfl (lv_at hl 1 rfl) ?_
              refine lv_bipush (v := (20 : Int32)) hx hb d_Tc_notesPass_50 (by decide) ?_
              refine lv_aload_n hx hb d_Tc_notesPass_52 rfl (lv_at hl 0 rfl) ?_
              refine lv_aload_n hx hb d_Tc_notesPass_53 rfl (lv_at hl 0 rfl) ?_
              refine lv_iload_n hx hb d_Tc_notesPass_54 rfl (lv_at hl 1 rfl) ?_
              refine va_calli (va_runV (As := [.int x]) (rest := [.ref (ad q), .int (20 : Int32), .int x]) ⟨hx, hb, hml, hown, hA⟩ (c_Tc_noteSize l D tt ad N A zs w2 q qp ((f_Tc_threadPasses ((f_Tc_noteHeadPasses S'.1 np up x y).2, S'.2) np up x).2.1) np up x (⟨hn25, fa26⟩) at24 (ho.2.2.1 hc3 hc5 hc16 hc27)) (cwV 1 hA (cd_gV aw_454 aw_455 aw_779 aw_7 aw_456) rfl rfl rfl ⟨rfl, by decide, by decide, by decide +kernel⟩ ⟨Nat.le_of_ble_eq_true rfl, Nat.le_of_ble_eq_true rfl⟩) ⟨cd_blind, cd_recv hK hP (k := q) (by omega) fa26 rfl, fun U hU hW => ⟨rfl, cd_pre hK hP hZ hS U hU hW⟩⟩ rfl rfl hl.1 rfl (lv_room (Nat.le_of_ble_eq_true rfl)) d_Tc_notesPass_55 ⟨Nat.zero_le _, Nat.zero_le _⟩) hS (fun _ _ h => h) (fun _ h => h) (fun r28 w3 tE H locs ht hvm hr29 hP hz1 hk1 hS => ?_)
              have hP := cd_Pf ht hP
              obtain ⟨rfl, rfl⟩ := hr29
              refine va_calli (va_runV (As := [.int (f_Tc_noteSize ((f_Tc_threadPasses ((f_Tc_noteHeadPasses S'.1 np up x y).2, S'.2) np up x).2.1) np up x)]) (rest := [.int (20 : Int32), .int x]) ⟨hx, hb, hml, hown, hA⟩ (c_Tc_padded l D tt ad N A zs w2 q qp ((f_Tc_threadPasses ((f_Tc_noteHeadPasses S'.1 np up x y).2, S'.2) np up x).2.1) (f_Tc_noteSize ((f_Tc_threadPasses ((f_Tc_noteHeadPasses S'.1 np up x y).2, S'.2) np up x).2.1) np up x) (⟨hn25, fa26⟩)) (cwV 1 hA (cd_gV aw_457 aw_458 aw_780 aw_7 aw_459) rfl rfl rfl ⟨rfl, by decide, by decide, by decide +kernel⟩ ⟨Nat.le_of_ble_eq_true rfl, Nat.le_of_ble_eq_true rfl⟩) ⟨cd_blind, cd_recv hK hP (k := q) (by omega) fa26 rfl, fun U hU hW => ⟨rfl, cd_pre hK hP hZ hS U hU hW⟩⟩ rfl rfl hl.1 rfl (lv_room (Nat.le_of_ble_eq_true rfl)) d_Tc_notesPass_58 ⟨Nat.zero_le _, Nat.zero_le _⟩) hS (fun _ _ h => h) (fun _ h => h) (fun r31 w4 tE H locs ht hvm hr32 hP hz1 hk1 hS => ?_)
              have hP := cd_Pf ht hP
              obtain ⟨rfl, rfl⟩ := hr32
              refine lv_iadd hx hb d_Tc_notesPass_61 ?_
              refine lv_iadd hx hb d_Tc_notesPass_62 ?_
              refine lv_istore_n (lv' := [(1, .int (x + ((20 : Int32) + (f_Tc_padded ((f_Tc_threadPasses ((f_Tc_noteHeadPasses S'.1 np up x y).2, S'.2) np up x).2.1) (f_Tc_noteSize ((f_Tc_threadPasses ((f_Tc_noteHeadPasses S'.1 np up x y).2, S'.2) np up x).2.1) np up x))))), (0, .ref (ad q)), (2, .int y), (3, .int i)]) hx hb d_Tc_notesPass_63 rfl hl (by decide) rfl (fun ls hl => ?_)
              refine lv_iinc (k := 3) (v := (i + (1 : Int32))) (lv' := [(3, .int (i + (1 : Int32))), (1, .int (x + ((20 : Int32) + (f_Tc_padded ((f_Tc_threadPasses ((f_Tc_noteHeadPasses S'.1 np up x y).2, S'.2) np up x).2.1) (f_Tc_noteSize ((f_Tc_threadPasses ((f_Tc_noteHeadPasses S'.1 np up x y).2, S'.2) np up x).2.1) np up x))))), (0, .ref (ad q)), (2, .int y)]) hx hb d_Tc_notesPass_64 hl rfl (cd_inc _ _ _ (by decide)) (by decide) rfl (fun ls hl => ?_)
              refine lv_goto (tgt := 18) hx hb d_Tc_notesPass_67 (by decide) ?_
              exact ih (x + ((20 : Int32) + (f_Tc_padded ((f_Tc_threadPasses ((f_Tc_noteHeadPasses S'.1 np up x y).2, S'.2) np up x).2.1) (f_Tc_noteSize ((f_Tc_threadPasses ((f_Tc_noteHeadPasses S'.1 np up x y).2, S'.2) np up x).2.1) np up x)))) y (i + (1 : Int32)) ((f_Tc_threadPasses ((f_Tc_noteHeadPasses S'.1 np up x y).2, S'.2) np up x).2) w2 (fun k hk => ((e2 k (by omega)).trans ((e1 k (by omega)).trans (efr k (by omega))))) H locs ls (lv_sub hl [2, 1, 3, 0] rfl) (show (f_Tc_notesPass S np up) = f_Tc_notesPass_L18 S np up gn (x + ((20 : Int32) + (f_Tc_padded ((f_Tc_threadPasses ((f_Tc_noteHeadPasses S'.1 np up x y).2, S'.2) np up x).2.1) (f_Tc_noteSize ((f_Tc_threadPasses ((f_Tc_noteHeadPasses S'.1 np up x y).2, S'.2) np up x).2.1) np up x)))) y (i + (1 : Int32)) ((f_Tc_threadPasses ((f_Tc_noteHeadPasses S'.1 np up x y).2, S'.2) np up x).2) by rw [he, f_Tc_notesPass_L18, if_neg hc3, if_neg hc5, if_neg hc16, if_neg hc27]) (⟨hn25, fa26⟩) at24 at23 hP hS (ho.2.2.2 hc3 hc5 hc16 hc27)
            · refine lv_iconst (v := (0 : Int32)) hx hb d_Tc_notesPass_47 (by decide) ?_
              have hf34 : (f_Tc_notesPass S np up) = ((0 : Int32), (f_Tc_threadPasses ((f_Tc_noteHeadPasses S'.1 np up x y).2, S'.2) np up x).2.1, (f_Tc_threadPasses ((f_Tc_noteHeadPasses S'.1 np up x y).2, S'.2) np up x).2.2) := by rw [he, f_Tc_notesPass_L18, if_neg hc3, if_neg hc5, if_neg hc16, if_pos hc27]
              exact W.zret (ty := .boolean) (v := (0 : Int32)) hx hb hr rfl (fun tE ht _ => ⟨⟨_, w2, rfl, ⟨(by rw [hf34]), (Or.inl rfl), (by rw [hf34]; exact ⟨hn25, fa26⟩), (by rw [hf34]; exact at23), (fun k hk => ((e2 k (by omega)).trans ((e1 k (by omega)).trans (efr k (by omega)))))⟩, cd_Pt ht hP⟩, hS.F ht⟩) hS.2.2 d_Tc_notesPass_48
  have hS : va_S A s.heap s.heap [] := va_S.rf
  have hl := lv_entry ([.ref (ad q)]) (n := 4) (Nat.le_of_ble_eq_true rfl)
  rw [lg_entry_eq]
  generalize (lg_sl ([.ref (ad q)]) ++ List.replicate (4 - (lg_sl ([.ref (ad q)])).length) Slot.unset).toArray = ls at hl ⊢
  have hl : lv_has ls 4 [(0, .ref (ad q))] := hl
  have ho : (o_Tc_entryField S.1 np up (0 : Int32) (1 : Int32)) ∧ (o_Tc_entryField S.1 np up (0 : Int32) (4 : Int32)) ∧ (o_Tc_notesPass_L18 S np up 500 (f_Tc_entryField S.1 np up (0 : Int32) (1 : Int32)) ((f_Tc_entryField S.1 np up (0 : Int32) (1 : Int32)) + (f_Tc_entryField S.1 np up (0 : Int32) (4 : Int32))) (0 : Int32) S) := ho
  obtain ⟨hn35, fa36⟩ := hR0
  refine lv_aload_n hx hb d_Tc_notesPass_0 rfl (lv_at hl 0 rfl) ?_
  refine lv_iconst (v := (0 : Int32)) hx hb d_Tc_notesPass_1 (by decide) ?_
  refine lv_iconst (v := (1 : Int32)) hx hb d_Tc_notesPass_2 (by decide) ?_
  refine va_calli (va_runV (As := [.int (0 : Int32), .int (1 : Int32)]) (rest := []) ⟨hx, hb, hml, hown, hA⟩ (c_Tc_entryField l D tt ad N A zs w0 q qp S.1 np up (0 : Int32) (1 : Int32) (⟨hn35, fa36⟩) hR1 (ho.1)) (cwV 2 hA (cd_gV aw_429 aw_430 aw_431 aw_7 aw_432) rfl rfl rfl ⟨rfl, by decide, by decide, by decide +kernel⟩ ⟨Nat.le_of_ble_eq_true rfl, Nat.le_of_ble_eq_true rfl⟩) ⟨cd_blind, cd_recv hK hP (k := q) (by omega) fa36 rfl, fun U hU hW => ⟨rfl, cd_pre hK hP hZ hS U hU hW⟩⟩ rfl rfl hl.1 rfl (lv_room (Nat.le_of_ble_eq_true rfl)) d_Tc_notesPass_3 ⟨Nat.zero_le _, Nat.zero_le _⟩) hS (fun _ _ h => h) (fun _ h => h) (fun r37 w5 tE H locs ht hvm hr38 hP hz1 hk1 hS => ?_)
  have hP := cd_Pf ht hP
  obtain ⟨rfl, rfl⟩ := hr38
  refine lv_istore_n (lv' := [(1, .int (f_Tc_entryField S.1 np up (0 : Int32) (1 : Int32))), (0, .ref (ad q))]) hx hb d_Tc_notesPass_6 rfl hl (by decide) rfl (fun ls hl => ?_)
  refine lv_iload_n hx hb d_Tc_notesPass_7 rfl (lv_at hl 0 rfl) ?_
  refine lv_aload_n hx hb d_Tc_notesPass_8 rfl (lv_at hl 1 rfl) ?_
  refine lv_iconst (v := (0 : Int32)) hx hb d_Tc_notesPass_9 (by decide) ?_
  refine lv_iconst (v := (4 : Int32)) hx hb d_Tc_notesPass_10 (by decide) ?_
  refine va_calli (va_runV (As := [.int (0 : Int32), .int (4 : Int32)]) (rest := [.int (f_Tc_entryField S.1 np up (0 : Int32) (1 : Int32))]) ⟨hx, hb, hml, hown, hA⟩ (c_Tc_entryField l D tt ad N A zs w0 q qp S.1 np up (0 : Int32) (4 : Int32) (⟨hn35, fa36⟩) hR1 (ho.2.1)) (cwV 2 hA (cd_gV aw_429 aw_430 aw_431 aw_7 aw_432) rfl rfl rfl ⟨rfl, by decide, by decide, by decide +kernel⟩ ⟨Nat.le_of_ble_eq_true rfl, Nat.le_of_ble_eq_true rfl⟩) ⟨cd_blind, cd_recv hK hP (k := q) (by omega) fa36 rfl, fun U hU hW => ⟨rfl, cd_pre hK hP hZ hS U hU hW⟩⟩ rfl rfl hl.1 rfl (lv_room (Nat.le_of_ble_eq_true rfl)) d_Tc_notesPass_11 ⟨Nat.zero_le _, Nat.zero_le _⟩) hS (fun _ _ h => h) (fun _ h => h) (fun r40 w6 tE H locs ht hvm hr41 hP hz1 hk1 hS => ?_)
  have hP := cd_Pf ht hP
  obtain ⟨rfl, rfl⟩ := hr41
  refine lv_iadd hx hb d_Tc_notesPass_14 ?_
  refine lv_istore_n (lv' := [(2, .int ((f_Tc_entryField S.1 np up (0 : Int32) (1 : Int32)) + (f_Tc_entryField S.1 np up (0 : Int32) (4 : Int32)))), (1, .int (f_Tc_entryField S.1 np up (0 : Int32) (1 : Int32))), (0, .ref (ad q))]) hx hb d_Tc_notesPass_15 rfl hl (by decide) rfl (fun ls hl => ?_)
  refine lv_iconst (v := (0 : Int32)) hx hb d_Tc_notesPass_16 (by decide) ?_
  refine lv_istore_n (lv' := [(3, .int (0 : Int32)), (2, .int ((f_Tc_entryField S.1 np up (0 : Int32) (1 : Int32)) + (f_Tc_entryField S.1 np up (0 : Int32) (4 : Int32)))), (1, .int (f_Tc_entryField S.1 np up (0 : Int32) (1 : Int32))), (0, .ref (ad q))]) hx hb d_Tc_notesPass_17 rfl hl (by decide) rfl (fun ls hl => ?_)
  exact L18 500 (f_Tc_entryField S.1 np up (0 : Int32) (1 : Int32)) ((f_Tc_entryField S.1 np up (0 : Int32) (1 : Int32)) + (f_Tc_entryField S.1 np up (0 : Int32) (4 : Int32))) (0 : Int32) S w0 (fun _ _ => rfl) H locs ls (lv_sub hl [3, 2, 1, 0] rfl) (show (f_Tc_notesPass S np up) = f_Tc_notesPass_L18 S np up 500 (f_Tc_entryField S.1 np up (0 : Int32) (1 : Int32)) ((f_Tc_entryField S.1 np up (0 : Int32) (1 : Int32)) + (f_Tc_entryField S.1 np up (0 : Int32) (4 : Int32))) (0 : Int32) S by rw [f_Tc_notesPass]) (⟨hn35, fa36⟩) hR1 hR2 hP hS (ho.2.2)
def f_Tc_passes (S : cd_Tc × cd_Tt) (np : Nat) (up : cd_Row) : Int32 × cd_Tc × cd_Tt := (if (f_Tc_headerPasses ((0 : Int32), (0 : Int32)) np up).1 = 0 then ((0 : Int32), (f_Tc_headerPasses ((0 : Int32), (0 : Int32)) np up).2, (f_Tt_clear S.2)) else (if (f_Tc_entriesPass ((f_Tc_headerPasses ((0 : Int32), (0 : Int32)) np up).2) np up).1 = 0 then ((0 : Int32), (f_Tc_entriesPass ((f_Tc_headerPasses ((0 : Int32), (0 : Int32)) np up).2) np up).2, (f_Tt_clear S.2)) else (if (f_Tc_notesPass ((f_Tc_entriesPass ((f_Tc_headerPasses ((0 : Int32), (0 : Int32)) np up).2) np up).2, (f_Tt_clear S.2)) np up).1 = 0 then ((0 : Int32), (f_Tc_notesPass ((f_Tc_entriesPass ((f_Tc_headerPasses ((0 : Int32), (0 : Int32)) np up).2) np up).2, (f_Tt_clear S.2)) np up).2.1, (f_Tc_notesPass ((f_Tc_entriesPass ((f_Tc_headerPasses ((0 : Int32), (0 : Int32)) np up).2) np up).2, (f_Tt_clear S.2)) np up).2.2) else ((1 : Int32), (f_Tc_notesPass ((f_Tc_entriesPass ((f_Tc_headerPasses ((0 : Int32), (0 : Int32)) np up).2) np up).2, (f_Tt_clear S.2)) np up).2.1, (f_Tc_notesPass ((f_Tc_entriesPass ((f_Tc_headerPasses ((0 : Int32), (0 : Int32)) np up).2) np up).2, (f_Tt_clear S.2)) np up).2.2))))
def o_Tc_passes (S : cd_Tc × cd_Tt) (np : Nat) (up : cd_Row) : Prop := (o_Tt_clear S.2) ∧ (o_Tc_headerPasses ((0 : Int32), (0 : Int32)) np up) ∧ (¬ (f_Tc_headerPasses ((0 : Int32), (0 : Int32)) np up).1 = 0 → o_Tc_entriesPass ((f_Tc_headerPasses ((0 : Int32), (0 : Int32)) np up).2) np up) ∧ (¬ (f_Tc_headerPasses ((0 : Int32), (0 : Int32)) np up).1 = 0 → ¬ (f_Tc_entriesPass ((f_Tc_headerPasses ((0 : Int32), (0 : Int32)) np up).2) np up).1 = 0 → o_Tc_notesPass ((f_Tc_entriesPass ((f_Tc_headerPasses ((0 : Int32), (0 : Int32)) np up).2) np up).2, (f_Tt_clear S.2)) np up)
set_option maxHeartbeats 4000000 in
set_option maxRecDepth 100000 in
theorem c_Tc_passes (l : Launch) (D : va_G) (tt : Nat → ClassId) (ad : Nat → Nat) (N : Nat) (A : Nat → Prop) (zs : Nat → Nat) (w0 : Nat → va_E) (q qp : Nat) (S : cd_Tc × cd_Tt) (np : Nat) (up : cd_Row) (hR0 : cd_TcAt N tt ad w0 q qp S.1) (hR1 : cd_RowAt N tt ad w0 qp np up) (hR2 : cd_TtAt N tt ad w0 (q + 1) S.2) (hap0 : qp + 2 ≤ q ∨ q + 4 ≤ qp) (ho : o_Tc_passes S np up) : Met l y_Tc_passes w_Tc_passes ({ frames := 5, cells := 0, slots := 0, locals := 115 }) (va_Pc [.ref (ad q)] (cd_U D tt ad N A zs w0)) (va_Qi (fun r w' => (f_Tc_passes S np up).1 = r ∧ (r = 0 ∨ r = 1) ∧ cd_TcAt N tt ad w' q qp ((f_Tc_passes S np up).2.1) ∧ cd_TtAt N tt ad w' (q + 1) ((f_Tc_passes S np up).2.2) ∧ (∀ k : Nat, (k < q ∨ q + 1 ≤ k) ∧ (k < (q + 1) ∨ (q + 1) + 3 ≤ k) → w' k = w0 k)) (fun w' t => cd_P D ad N A w' t.heap) A) 0 0 A := by
  refine Met.ofW (cc := b_Tc_passes) (maxL := 1) (ret := (some .boolean)) (by decide) rfl ?_
  intro p e s m args below meth c s₁ B hml hv
  obtain ⟨rfl, hP, hK, hZ⟩ := hv
  have hx := B.exec
  have hb := B.bytes
  have hr := B.returns
  have hA : ∀ w ∈ cd_AW, w.before _ s = true := fun w h => atoms_spec (ws := w_Tc_passes) B.pre w (List.mem_cons_of_mem _ h)
  have hown : s.vm.findClass R_Tc = some m.cls := findClass_of_methodNamed B.named
  have hlocks := B.notSynchronized
  have hS : va_S A s.heap s.heap [] := va_S.rf
  have hl := lv_entry ([.ref (ad q)]) (n := 1) (Nat.le_of_ble_eq_true rfl)
  rw [lg_entry_eq]
  generalize (lg_sl ([.ref (ad q)]) ++ List.replicate (1 - (lg_sl ([.ref (ad q)])).length) Slot.unset).toArray = ls at hl ⊢
  have hl : lv_has ls 1 [(0, .ref (ad q))] := hl
  have ho : (o_Tt_clear S.2) ∧ (o_Tc_headerPasses ((0 : Int32), (0 : Int32)) np up) ∧ (¬ (f_Tc_headerPasses ((0 : Int32), (0 : Int32)) np up).1 = 0 → o_Tc_entriesPass ((f_Tc_headerPasses ((0 : Int32), (0 : Int32)) np up).2) np up) ∧ (¬ (f_Tc_headerPasses ((0 : Int32), (0 : Int32)) np up).1 = 0 → ¬ (f_Tc_entriesPass ((f_Tc_headerPasses ((0 : Int32), (0 : Int32)) np up).2) np up).1 = 0 → o_Tc_notesPass ((f_Tc_entriesPass ((f_Tc_headerPasses ((0 : Int32), (0 : Int32)) np up).2) np up).2, (f_Tt_clear S.2)) np up) := ho
  obtain ⟨hn1, fa2⟩ := hR0
  refine lv_aload_n hx hb d_Tc_passes_0 rfl (lv_at hl 0 rfl) ?_
  refine lv_iconst (v := (0 : Int32)) hx hb d_Tc_passes_1 (by decide) ?_
  refine g_put (ci := 5) (C := R_Tc) (T := F_Tc) (Nf := 4) (v := .int (0 : Int32)) (ty := .int) hx hb hA in_Tc t_Tc t_Tc_ok n_Tc hown hK hP hS (k := q) (by omega) fa2 rfl 2 (by decide) (hA _ aw_94) (fun _ h9 => h9) rfl (by decide +kernel) rfl rfl (Nat.le_of_ble_eq_true rfl) d_Tc_passes_2 (fun H locs w1 fa3 e1 hP hS => ?_)
  have fa3 : w1 q = .inr (5, [.ref (ad qp), .ref (ad (q + 1)), .int (0 : Int32), .int S.1.2]) := fa3
  have at4 := cd_RowAt_keep hR1 (fun k h1 h2 => e1 k (by omega))
  have at5 := cd_TtAt_keep hR2 (fun k h1 h2 => e1 k (by omega))
  refine lv_aload_n hx hb d_Tc_passes_5 rfl (lv_at hl 0 rfl) ?_
  refine lv_iconst (v := (0 : Int32)) hx hb d_Tc_passes_6 (by decide) ?_
  refine g_put (ci := 5) (C := R_Tc) (T := F_Tc) (Nf := 4) (v := .int (0 : Int32)) (ty := .int) hx hb hA in_Tc t_Tc t_Tc_ok n_Tc hown hK hP hS (k := q) (by omega) fa3 rfl 3 (by decide) (hA _ aw_95) (fun _ h9 => h9) rfl (by decide +kernel) rfl rfl (Nat.le_of_ble_eq_true rfl) d_Tc_passes_7 (fun H locs w2 fa6 e2 hP hS => ?_)
  have fa6 : w2 q = .inr (5, [.ref (ad qp), .ref (ad (q + 1)), .int (0 : Int32), .int (0 : Int32)]) := fa6
  have at7 := cd_RowAt_keep at4 (fun k h1 h2 => e2 k (by omega))
  have at8 := cd_TtAt_keep at5 (fun k h1 h2 => e2 k (by omega))
  refine lv_aload_n hx hb d_Tc_passes_10 rfl (lv_at hl 0 rfl) ?_
  refine g_get (ci := 5) (C := R_Tc) (T := F_Tc) (Nf := 4) (v := .ref (ad (q + 1))) hx hb hA in_Tc hown hK hP (k := q) (by omega) fa6 rfl 1 (by decide) (hA _ aw_93) (fun _ h9 => h9) rfl d_Tc_passes_11 ?_
  obtain ⟨hn9, fa10, fa11, fa12⟩ := at8
  refine va_callv (va_runV (As := []) (rest := []) ⟨hx, hb, hml, hown, hA⟩ (c_Tt_clear l D tt ad N A zs w2 (q + 1) S.2 (⟨hn9, fa10, fa11, fa12⟩) (ho.1)) (cwV 0 hA (cd_gV aw_395 aw_396 aw_397 aw_4 aw_398) rfl rfl rfl ⟨rfl, by decide, by decide, by decide +kernel⟩ ⟨Nat.le_of_ble_eq_true rfl, Nat.le_of_ble_eq_true rfl⟩) ⟨cd_blind, cd_recv hK hP (k := (q + 1)) (by omega) fa10 rfl, fun U hU hW => ⟨rfl, cd_pre hK hP hZ hS U hU hW⟩⟩ rfl rfl hl.1 rfl (lv_room (Nat.le_of_ble_eq_true rfl)) d_Tc_passes_14 ⟨Nat.zero_le _, Nat.zero_le _⟩) hS (fun _ _ h => h) (fun _ h => h) (fun w3 tE H locs ht hvm hr14 hP hz1 hk1 hS => ?_)
  have hP := cd_Pf ht hP
  obtain ⟨at16, e3⟩ := hr14
  have fa17 := (e3 q (by omega)).trans fa6
  have at18 := cd_RowAt_keep at7 (fun k h1 h2 => e3 k (by omega))
  refine lv_aload_n hx hb d_Tc_passes_17 rfl (lv_at hl 0 rfl) ?_
  refine va_calli (va_runV (As := []) (rest := []) ⟨hx, hb, hml, hown, hA⟩ (c_Tc_headerPasses l D tt ad N A zs w3 q qp ((0 : Int32), (0 : Int32)) np up (⟨hn1, fa17⟩) at18 (by omega) (ho.2.1)) (cwV 0 hA (cd_gV aw_402 aw_403 aw_767 aw_7 aw_404) rfl rfl rfl ⟨rfl, by decide, by decide, by decide +kernel⟩ ⟨Nat.le_of_ble_eq_true rfl, Nat.le_of_ble_eq_true rfl⟩) ⟨cd_blind, cd_recv hK hP (k := q) (by omega) fa17 rfl, fun U hU hW => ⟨rfl, cd_pre hK hP hZ hS U hU hW⟩⟩ rfl rfl hl.1 rfl (lv_room (Nat.le_of_ble_eq_true rfl)) d_Tc_passes_18 ⟨Nat.zero_le _, Nat.zero_le _⟩) hS (fun _ _ h => h) (fun _ h => h) (fun r19 w4 tE H locs ht hvm hr20 hP hz1 hk1 hS => ?_)
  have hP := cd_Pf ht hP
  obtain ⟨rfl, hbo22, at23, e4⟩ := hr20
  have at24 := cd_RowAt_keep at18 (fun k h1 h2 => e4 k (by omega))
  have at25 := cd_TtAt_keep at16 (fun k h1 h2 => e4 k (by omega))
  obtain ⟨hn26, fa27⟩ := at23
  refine lv_if_eq (tgt := 42) hx hb d_Tc_passes_21 (by decide) (fun hc28 => ?_) (fun hc28 => ?_)
  · refine lv_iconst (v := (0 : Int32)) hx hb d_Tc_passes_42 (by decide) ?_
    have hf29 : (f_Tc_passes S np up) = ((0 : Int32), (f_Tc_headerPasses ((0 : Int32), (0 : Int32)) np up).2, (f_Tt_clear S.2)) := by rw [f_Tc_passes, if_pos hc28]
    exact W.zret (ty := .boolean) (v := (0 : Int32)) hx hb hr rfl (fun tE ht _ => ⟨⟨_, w4, rfl, ⟨(by rw [hf29]), (Or.inl rfl), (by rw [hf29]; exact ⟨hn26, fa27⟩), (by rw [hf29]; exact at25), (fun k hk => ((e4 k (by omega)).trans ((e3 k (by omega)).trans ((e2 k (by omega)).trans (e1 k (by omega))))))⟩, cd_Pt ht hP⟩, hS.F ht⟩) hS.2.2 d_Tc_passes_43
  · refine lv_aload_n hx hb d_Tc_passes_24 rfl (lv_at hl 0 rfl) ?_
    refine va_calli (va_runV (As := []) (rest := []) ⟨hx, hb, hml, hown, hA⟩ (c_Tc_entriesPass l D tt ad N A zs w4 q qp ((f_Tc_headerPasses ((0 : Int32), (0 : Int32)) np up).2) np up (⟨hn26, fa27⟩) at24 (by omega) (ho.2.2.1 hc28)) (cwV 0 hA (cd_gV aw_423 aw_424 aw_771 aw_7 aw_425) rfl rfl rfl ⟨rfl, by decide, by decide, by decide +kernel⟩ ⟨Nat.le_of_ble_eq_true rfl, Nat.le_of_ble_eq_true rfl⟩) ⟨cd_blind, cd_recv hK hP (k := q) (by omega) fa27 rfl, fun U hU hW => ⟨rfl, cd_pre hK hP hZ hS U hU hW⟩⟩ rfl rfl hl.1 rfl (lv_room (Nat.le_of_ble_eq_true rfl)) d_Tc_passes_25 ⟨Nat.zero_le _, Nat.zero_le _⟩) hS (fun _ _ h => h) (fun _ h => h) (fun r30 w5 tE H locs ht hvm hr31 hP hz1 hk1 hS => ?_)
    have hP := cd_Pf ht hP
    obtain ⟨rfl, hbo33, at34, e5⟩ := hr31
    have at35 := cd_RowAt_keep at24 (fun k h1 h2 => e5 k (by omega))
    have at36 := cd_TtAt_keep at25 (fun k h1 h2 => e5 k (by omega))
    obtain ⟨hn37, fa38⟩ := at34
    refine lv_if_eq (tgt := 42) hx hb d_Tc_passes_28 (by decide) (fun hc39 => ?_) (fun hc39 => ?_)
    · refine lv_iconst (v := (0 : Int32)) hx hb d_Tc_passes_42 (by decide) ?_
      have hf40 : (f_Tc_passes S np up) = ((0 : Int32), (f_Tc_entriesPass ((f_Tc_headerPasses ((0 : Int32), (0 : Int32)) np up).2) np up).2, (f_Tt_clear S.2)) := by rw [f_Tc_passes, if_neg hc28, if_pos hc39]
      exact W.zret (ty := .boolean) (v := (0 : Int32)) hx hb hr rfl (fun tE ht _ => ⟨⟨_, w5, rfl, ⟨(by rw [hf40]), (Or.inl rfl), (by rw [hf40]; exact ⟨hn37, fa38⟩), (by rw [hf40]; exact at36), (fun k hk => ((e5 k (by omega)).trans ((e4 k (by omega)).trans ((e3 k (by omega)).trans ((e2 k (by omega)).trans (e1 k (by omega)))))))⟩, cd_Pt ht hP⟩, hS.F ht⟩) hS.2.2 d_Tc_passes_43
    · refine lv_aload_n hx hb d_Tc_passes_31 rfl (lv_at hl 0 rfl) ?_
      refine va_calli (va_runV (As := []) (rest := []) ⟨hx, hb, hml, hown, hA⟩ (c_Tc_notesPass l D tt ad N A zs w5 q qp ((f_Tc_entriesPass ((f_Tc_headerPasses ((0 : Int32), (0 : Int32)) np up).2) np up).2, (f_Tt_clear S.2)) np up (⟨hn37, fa38⟩) at35 at36 (by omega) (ho.2.2.2 hc28 hc39)) (cwV 0 hA (cd_gV aw_447 aw_448 aw_777 aw_7 aw_449) rfl rfl rfl ⟨rfl, by decide, by decide, by decide +kernel⟩ ⟨Nat.le_of_ble_eq_true rfl, Nat.le_of_ble_eq_true rfl⟩) ⟨cd_blind, cd_recv hK hP (k := q) (by omega) fa38 rfl, fun U hU hW => ⟨rfl, cd_pre hK hP hZ hS U hU hW⟩⟩ rfl rfl hl.1 rfl (lv_room (Nat.le_of_ble_eq_true rfl)) d_Tc_passes_32 ⟨Nat.zero_le _, Nat.zero_le _⟩) hS (fun _ _ h => h) (fun _ h => h) (fun r41 w6 tE H locs ht hvm hr42 hP hz1 hk1 hS => ?_)
      have hP := cd_Pf ht hP
      obtain ⟨rfl, hbo44, at45, at46, e6⟩ := hr42
      have at47 := cd_RowAt_keep at35 (fun k h1 h2 => e6 k (by omega))
      obtain ⟨hn48, fa49⟩ := at45
      refine lv_if_eq (tgt := 42) hx hb d_Tc_passes_35 (by decide) (fun hc50 => ?_) (fun hc50 => ?_)
      · refine lv_iconst (v := (0 : Int32)) hx hb d_Tc_passes_42 (by decide) ?_
        have hf51 : (f_Tc_passes S np up) = ((0 : Int32), (f_Tc_notesPass ((f_Tc_entriesPass ((f_Tc_headerPasses ((0 : Int32), (0 : Int32)) np up).2) np up).2, (f_Tt_clear S.2)) np up).2.1, (f_Tc_notesPass ((f_Tc_entriesPass ((f_Tc_headerPasses ((0 : Int32), (0 : Int32)) np up).2) np up).2, (f_Tt_clear S.2)) np up).2.2) := by rw [f_Tc_passes, if_neg hc28, if_neg hc39, if_pos hc50]
        exact W.zret (ty := .boolean) (v := (0 : Int32)) hx hb hr rfl (fun tE ht _ => ⟨⟨_, w6, rfl, ⟨(by rw [hf51]), (Or.inl rfl), (by rw [hf51]; exact ⟨hn48, fa49⟩), (by rw [hf51]; exact at46), (fun k hk => ((e6 k (by omega)).trans ((e5 k (by omega)).trans ((e4 k (by omega)).trans ((e3 k (by omega)).trans ((e2 k (by omega)).trans (e1 k (by omega))))))))⟩, cd_Pt ht hP⟩, hS.F ht⟩) hS.2.2 d_Tc_passes_43
      · refine lv_iconst (v := (1 : Int32)) hx hb d_Tc_passes_38 (by decide) ?_
        refine lv_goto (tgt := 43) hx hb d_Tc_passes_39 (by decide) ?_
        have hf52 : (f_Tc_passes S np up) = ((1 : Int32), (f_Tc_notesPass ((f_Tc_entriesPass ((f_Tc_headerPasses ((0 : Int32), (0 : Int32)) np up).2) np up).2, (f_Tt_clear S.2)) np up).2.1, (f_Tc_notesPass ((f_Tc_entriesPass ((f_Tc_headerPasses ((0 : Int32), (0 : Int32)) np up).2) np up).2, (f_Tt_clear S.2)) np up).2.2) := by rw [f_Tc_passes, if_neg hc28, if_neg hc39, if_neg hc50]
        exact W.zret (ty := .boolean) (v := (1 : Int32)) hx hb hr rfl (fun tE ht _ => ⟨⟨_, w6, rfl, ⟨(by rw [hf52]), (Or.inr rfl), (by rw [hf52]; exact ⟨hn48, fa49⟩), (by rw [hf52]; exact at46), (fun k hk => ((e6 k (by omega)).trans ((e5 k (by omega)).trans ((e4 k (by omega)).trans ((e3 k (by omega)).trans ((e2 k (by omega)).trans (e1 k (by omega))))))))⟩, cd_Pt ht hP⟩, hS.F ht⟩) hS.2.2 d_Tc_passes_43
