def f_Mem_addRegion_L117 (u : cd_Mem) (k : Int32) (x : Int32) (y : Int32) : Nat → Int32 → Int32 → Nat → cd_Mem → Int32 × cd_Mem
  | 0, _, _, _, _ => default
  | gn + 1, z, i, t, u' => (if i ≤ z then ((1 : Int32), ((u'.1 + (1 : Int32)), (va_up u'.2.1 z.toNatClampNeg t), (va_up u'.2.2 t (f_Reg_begin (u'.2.2 t) k x y)))) else (f_Mem_addRegion_L117 u k x y gn z (i + (-1 : Int32)) t (u'.1, (va_up u'.2.1 i.toNatClampNeg (u'.2.1 (i - (1 : Int32)).toNatClampNeg)), u'.2.2)))
def f_Mem_addRegion_L35 (u : cd_Mem) (k : Int32) (x : Int32) (y : Int32) : Nat → Int32 → Int32 → Int32 × cd_Mem
  | 0, _, _ => default
  | gn + 1, z, i => (if u.1 ≤ i then (f_Mem_addRegion_L117 u k x y 7 z u.1 (u.2.1 u.1.toNatClampNeg) u) else (if (f_Mem_overlap k x ((u.2.2 (u.2.1 i.toNatClampNeg)).1) ((u.2.2 (u.2.1 i.toNatClampNeg)).2.1)) = 0 then (if k ≤ (u.2.2 (u.2.1 i.toNatClampNeg)).1 then (f_Mem_addRegion_L35 u k x y gn z (i + (1 : Int32))) else (f_Mem_addRegion_L35 u k x y gn (i + (1 : Int32)) (i + (1 : Int32)))) else ((0 : Int32), u)))
def f_Mem_addRegion (u : cd_Mem) (k : Int32) (x : Int32) (y : Int32) : Int32 × cd_Mem := (if (6 : Int32) ≤ u.1 then ((0 : Int32), u) else (if (f_Mem_isSpan k x) = 0 then ((0 : Int32), u) else (if y < 0 then ((0 : Int32), u) else (if y ≤ (7 : Int32) then (f_Mem_addRegion_L35 u k x y 7 (0 : Int32) (0 : Int32)) else ((0 : Int32), u)))))
def o_Mem_addRegion_L117 (u : cd_Mem) (k : Int32) (x : Int32) (y : Int32) : Nat → Int32 → Int32 → Nat → cd_Mem → Prop
  | 0, _, _, _, _ => False
  | gn + 1, z, i, t, u' => (i ≤ z → vp_in z 6) ∧ (i ≤ z → o_Reg_begin (u'.2.2 t) k x y) ∧ (¬ i ≤ z → vp_in (i - (1 : Int32)) 6) ∧ (¬ i ≤ z → vp_in i 6) ∧ (¬ i ≤ z → o_Mem_addRegion_L117 u k x y gn z (i + (-1 : Int32)) t (u'.1, (va_up u'.2.1 i.toNatClampNeg (u'.2.1 (i - (1 : Int32)).toNatClampNeg)), u'.2.2))
def o_Mem_addRegion_L35 (u : cd_Mem) (k : Int32) (x : Int32) (y : Int32) : Nat → Int32 → Int32 → Prop
  | 0, _, _ => False
  | gn + 1, z, i => (u.1 ≤ i → vp_in u.1 6) ∧ (u.1 ≤ i → o_Mem_addRegion_L117 u k x y 7 z u.1 (u.2.1 u.1.toNatClampNeg) u) ∧ (¬ u.1 ≤ i → vp_in i 6) ∧ (¬ u.1 ≤ i → vp_in i 6) ∧ (¬ u.1 ≤ i → (f_Mem_overlap k x ((u.2.2 (u.2.1 i.toNatClampNeg)).1) ((u.2.2 (u.2.1 i.toNatClampNeg)).2.1)) = 0 → vp_in i 6) ∧ (¬ u.1 ≤ i → (f_Mem_overlap k x ((u.2.2 (u.2.1 i.toNatClampNeg)).1) ((u.2.2 (u.2.1 i.toNatClampNeg)).2.1)) = 0 → k ≤ (u.2.2 (u.2.1 i.toNatClampNeg)).1 → o_Mem_addRegion_L35 u k x y gn z (i + (1 : Int32))) ∧ (¬ u.1 ≤ i → (f_Mem_overlap k x ((u.2.2 (u.2.1 i.toNatClampNeg)).1) ((u.2.2 (u.2.1 i.toNatClampNeg)).2.1)) = 0 → ¬ k ≤ (u.2.2 (u.2.1 i.toNatClampNeg)).1 → o_Mem_addRegion_L35 u k x y gn (i + (1 : Int32)) (i + (1 : Int32)))
def o_Mem_addRegion (u : cd_Mem) (k : Int32) (x : Int32) (y : Int32) : Prop := (¬ (6 : Int32) ≤ u.1 → ¬ (f_Mem_isSpan k x) = 0 → ¬ y < 0 → y ≤ (7 : Int32) → o_Mem_addRegion_L35 u k x y 7 (0 : Int32) (0 : Int32))
set_option maxHeartbeats 4000000 in
set_option maxRecDepth 100000 in
theorem c_Mem_addRegion (l : Launch) (D : va_G) (tt : Nat → ClassId) (ad : Nat → Nat) (N : Nat) (A : Nat → Prop) (zs : Nat → Nat) (w0 : Nat → va_E) (q : Nat) (u : cd_Mem) (k : Int32) (x : Int32) (y : Int32) (hR0 : cd_MemAt N tt ad w0 q u) (ho : o_Mem_addRegion u k x y) : Met l y_Mem_addRegion w_Mem_addRegion ({ frames := 2, cells := 0, slots := 0, locals := 46 }) (va_Pc [.ref (ad q), .int k, .int x, .int y] (cd_U D tt ad N A zs w0)) (va_Qi (fun r w' => (f_Mem_addRegion u k x y).1 = r ∧ (r = 0 ∨ r = 1) ∧ cd_MemAt N tt ad w' q ((f_Mem_addRegion u k x y).2) ∧ (∀ k : Nat, (k < q ∨ q + 14 ≤ k) → w' k = w0 k)) (fun w' t => cd_P D ad N A w' t.heap) A) 0 0 A := by
  refine Met.ofW (cc := b_Mem_addRegion) (maxL := 7) (ret := (some .boolean)) (by decide) rfl ?_
  intro p e s m args below meth c s₁ B hml hv
  obtain ⟨rfl, hP, hK, hZ⟩ := hv
  have hx := B.exec
  have hb := B.bytes
  have hr := B.returns
  have hA : ∀ w ∈ cd_AW, w.before _ s = true := fun w h => atoms_spec (ws := w_Mem_addRegion) B.pre w (List.mem_cons_of_mem _ h)
  have hown : s.vm.findClass R_Mem = some m.cls := findClass_of_methodNamed B.named
  have hlocks := B.notSynchronized
  have L117 : ∀ (gn : Nat) (z : Int32) (i : Int32) (t : Nat) (u' : cd_Mem) (w : Nat → va_E) (efr : ∀ k : Nat, (k < q ∨ q + 14 ≤ k) → w k = w0 k) (H : Heap) (locs : List Loc) (ls : Array Slot), lv_has ls 7 [(0, .ref (ad q)), (1, .int k), (2, .int x), (3, .int y), (4, .int z), (5, .ref (ad ((q + 2) + 2 * t))), (6, .int i)] → (f_Mem_addRegion u k x y) = f_Mem_addRegion_L117 u k x y gn z i t u' → cd_MemAt N tt ad w q u' → t < 6 → cd_P D ad N A w H → va_S A s.heap H locs → o_Mem_addRegion_L117 u k x y gn z i t u' → W p l e (headSpec w_Mem_addRegion ({ frames := 2, cells := 0, slots := 0, locals := 46 })).room s m [.ref (ad q), .int k, .int x, .int y].toArray below meth c H locs 0 0 (MQ below (va_Qi (fun r w' => (f_Mem_addRegion u k x y).1 = r ∧ (r = 0 ∨ r = 1) ∧ cd_MemAt N tt ad w' q ((f_Mem_addRegion u k x y).2) ∧ (∀ k : Nat, (k < q ∨ q + 14 ≤ k) → w' k = w0 k)) (fun w' t => cd_P D ad N A w' t.heap) A) [.ref (ad q), .int k, .int x, .int y].toArray s 0 0 A) (F0 m 117 ls []) := by
    intro gn
    induction gn with
    | zero => intro z i t u' w efr H locs ls hl he hL0 hp_t hP hS ho; exact ho.elim
    | succ gn ih =>
      intro z i t u' w efr H locs ls hl he hL0 hp_t hP hS ho
      have ho : (i ≤ z → vp_in z 6) ∧ (i ≤ z → o_Reg_begin (u'.2.2 t) k x y) ∧ (¬ i ≤ z → vp_in (i - (1 : Int32)) 6) ∧ (¬ i ≤ z → vp_in i 6) ∧ (¬ i ≤ z → o_Mem_addRegion_L117 u k x y gn z (i + (-1 : Int32)) t (u'.1, (va_up u'.2.1 i.toNatClampNeg (u'.2.1 (i - (1 : Int32)).toNatClampNeg)), u'.2.2)) := ho
      obtain ⟨hn1, fa2, ⟨rf6, fa3, fa4⟩, fa5⟩ := hL0
      refine lv_iload hx hb d_Mem_addRegion_117 (lv_at hl 6 rfl) ?_
      refine lv_iload hx hb d_Mem_addRegion_119 (lv_at hl 4 rfl) ?_
      refine lv_icmp_le (tgt := 146) hx hb d_Mem_addRegion_121 (by decide) (fun hc7 => ?_) (fun hc7 => ?_)
      · refine lv_aload_n hx hb d_Mem_addRegion_146 rfl (lv_at hl 0 rfl) ?_
        refine g_get (ci := 3) (C := R_Mem) (T := F_Mem) (Nf := 2) (v := .ref (ad (q + 1))) hx hb hA in_Mem hown hK hP (k := q) (by omega) fa2 rfl 0 (by decide) (hA _ aw_45) (fun _ h9 => h9) rfl d_Mem_addRegion_147 ?_
        refine lv_iload hx hb d_Mem_addRegion_150 (lv_at hl 4 rfl) ?_
        refine lv_aload hx hb d_Mem_addRegion_152 (lv_at hl 5 rfl) ?_
        obtain ⟨hn8, fa9, fa10⟩ := (fa5 t hp_t)
        refine g_aast (ci := 1) hx hb hK hP hS (k := (q + 1)) (kv := ((q + 2) + 2 * t)) (by omega) (by omega) fa3 fa9 rfl rfl (ho.1 hc7) d_Mem_addRegion_154 (fun H locs w1 fa11 e1 hP hS => ?_)
        have fa12 := cd_refs_put (i := z.toNatClampNeg) fa4 hp_t
        have fa13 := (e1 q (by omega)).trans fa2
        have fa14 := cd_pool_keep fa5 (fun k h1 h2 => e1 k (by omega))
        refine lv_aload hx hb d_Mem_addRegion_155 (lv_at hl 5 rfl) ?_
        refine lv_iload_n hx hb d_Mem_addRegion_157 rfl (lv_at hl 1 rfl) ?_
        refine lv_iload_n hx hb d_Mem_addRegion_158 rfl (lv_at hl 2 rfl) ?_
        refine lv_iload_n hx hb d_Mem_addRegion_159 rfl (lv_at hl 3 rfl) ?_
        obtain ⟨hn15, fa16, fa17⟩ := (fa14 t hp_t)
        refine va_callv (va_runV (As := [.int k, .int x, .int y]) (rest := []) ⟨hx, hb, hml, hown, hA⟩ (c_Reg_begin l D tt ad N A zs w1 ((q + 2) + 2 * t) (u'.2.2 t) k x y (⟨hn15, fa16, fa17⟩) (ho.2.1 hc7)) (cwV 3 hA (cd_gV aw_133 aw_134 aw_135 aw_3 aw_136) rfl rfl rfl ⟨rfl, by decide, by decide, by decide +kernel⟩ ⟨Nat.le_of_ble_eq_true rfl, Nat.le_of_ble_eq_true rfl⟩) ⟨cd_blind, cd_recv hK hP (k := ((q + 2) + 2 * t)) (by omega) fa16 rfl, fun U hU hW => ⟨rfl, cd_pre hK hP hZ hS U hU hW⟩⟩ rfl rfl hl.1 rfl (lv_room (Nat.le_of_ble_eq_true rfl)) d_Mem_addRegion_160 ⟨Nat.zero_le _, Nat.zero_le _⟩) hS (fun _ _ h => h) (fun _ h => h) (fun w2 tE H locs ht hvm hr19 hP hz1 hk1 hS => ?_)
        have hP := cd_Pf ht hP
        obtain ⟨at21, e2⟩ := hr19
        have fa22 := (e2 q (by omega)).trans fa13
        have fa23 := (e2 (q + 1) (by omega)).trans fa11
        have fa24 := cd_pool_put (r := (f_Reg_begin (u'.2.2 t) k x y)) fa14 hp_t at21 (fun k h1 => e2 k (by omega))
        refine lv_aload_n hx hb d_Mem_addRegion_163 rfl (lv_at hl 0 rfl) ?_
        refine lv_dup hx hb d_Mem_addRegion_164 rfl ?_
        refine g_get (ci := 3) (C := R_Mem) (T := F_Mem) (Nf := 2) (v := .int u'.1) hx hb hA in_Mem hown hK hP (k := q) (by omega) fa22 rfl 1 (by decide) (hA _ aw_46) (fun _ h9 => h9) rfl d_Mem_addRegion_165 ?_
        refine lv_iconst (v := (1 : Int32)) hx hb d_Mem_addRegion_168 (by decide) ?_
        refine lv_iadd hx hb d_Mem_addRegion_169 ?_
        refine g_put (ci := 3) (C := R_Mem) (T := F_Mem) (Nf := 2) (v := .int (u'.1 + (1 : Int32))) (ty := .int) hx hb hA in_Mem t_Mem t_Mem_ok n_Mem hown hK hP hS (k := q) (by omega) fa22 rfl 1 (by decide) (hA _ aw_46) (fun _ h9 => h9) rfl (by decide +kernel) rfl rfl (Nat.le_of_ble_eq_true rfl) d_Mem_addRegion_170 (fun H locs w3 fa25 e3 hP hS => ?_)
        have fa25 : w3 q = .inr (3, [.ref (ad (q + 1)), .int (u'.1 + (1 : Int32))]) := fa25
        have fa26 := (e3 (q + 1) (by omega)).trans fa23
        have fa27 := cd_pool_keep fa24 (fun k h1 h2 => e3 k (by omega))
        refine lv_iconst (v := (1 : Int32)) hx hb d_Mem_addRegion_173 (by decide) ?_
        have hf28 : (f_Mem_addRegion u k x y) = ((1 : Int32), ((u'.1 + (1 : Int32)), (va_up u'.2.1 z.toNatClampNeg t), (va_up u'.2.2 t (f_Reg_begin (u'.2.2 t) k x y)))) := by rw [he, f_Mem_addRegion_L117, if_pos hc7]
        exact W.zret (ty := .boolean) (v := (1 : Int32)) hx hb hr rfl (fun tE ht _ => ⟨⟨_, w3, rfl, ⟨(by rw [hf28]), (Or.inr rfl), (by rw [hf28]; exact ⟨hn1, fa25, ⟨_, fa26, fa12⟩, fa27⟩), (fun k hk => ((e3 k (by omega)).trans ((e2 k (by omega)).trans ((e1 k (by omega)).trans (efr k (by omega))))))⟩, cd_Pt ht hP⟩, hS.F ht⟩) hS.2.2 d_Mem_addRegion_174
      · refine lv_aload_n hx hb d_Mem_addRegion_124 rfl (lv_at hl 0 rfl) ?_
        refine g_get (ci := 3) (C := R_Mem) (T := F_Mem) (Nf := 2) (v := .ref (ad (q + 1))) hx hb hA in_Mem hown hK hP (k := q) (by omega) fa2 rfl 0 (by decide) (hA _ aw_45) (fun _ h9 => h9) rfl d_Mem_addRegion_125 ?_
        refine lv_iload hx hb d_Mem_addRegion_128 (lv_at hl 6 rfl) ?_
        refine lv_aload_n hx hb d_Mem_addRegion_130 rfl (lv_at hl 0 rfl) ?_
        refine g_get (ci := 3) (C := R_Mem) (T := F_Mem) (Nf := 2) (v := .ref (ad (q + 1))) hx hb hA in_Mem hown hK hP (k := q) (by omega) fa2 rfl 0 (by decide) (hA _ aw_45) (fun _ h9 => h9) rfl d_Mem_addRegion_131 ?_
        refine lv_iload hx hb d_Mem_addRegion_134 (lv_at hl 6 rfl) ?_
        refine lv_iconst (v := (1 : Int32)) hx hb d_Mem_addRegion_136 (by decide) ?_
        refine lv_isub hx hb d_Mem_addRegion_137 ?_
        have hi29 := cd_in6 (ho.2.2.1 hc7)
        refine g_aald hx hb hK hP (k := (q + 1)) (by omega) fa3 rfl (ho.2.2.1 hc7) (fa4 _ hi29).2 d_Mem_addRegion_138 ?_
        have hi30 := (fa4 _ hi29).1
        obtain ⟨hn31, fa32, fa33⟩ := (fa5 (u'.2.1 (i - (1 : Int32)).toNatClampNeg) hi30)
        refine g_aast (ci := 1) hx hb hK hP hS (k := (q + 1)) (kv := ((q + 2) + 2 * (u'.2.1 (i - (1 : Int32)).toNatClampNeg))) (by omega) (by omega) fa3 fa32 rfl rfl (ho.2.2.2.1 hc7) d_Mem_addRegion_139 (fun H locs w4 fa34 e4 hP hS => ?_)
        have fa35 := cd_refs_put (i := i.toNatClampNeg) fa4 hi30
        have fa36 := (e4 q (by omega)).trans fa2
        have fa37 := cd_pool_keep fa5 (fun k h1 h2 => e4 k (by omega))
        refine lv_iinc (k := 6) (v := (i + (-1 : Int32))) (lv' := [(6, .int (i + (-1 : Int32))), (0, .ref (ad q)), (1, .int k), (2, .int x), (3, .int y), (4, .int z), (5, .ref (ad ((q + 2) + 2 * t)))]) hx hb d_Mem_addRegion_140 hl rfl (cd_inc _ _ _ (by decide)) (by decide) rfl (fun ls hl => ?_)
        refine lv_goto (tgt := 117) hx hb d_Mem_addRegion_143 (by decide) ?_
        exact ih z (i + (-1 : Int32)) t (u'.1, (va_up u'.2.1 i.toNatClampNeg (u'.2.1 (i - (1 : Int32)).toNatClampNeg)), u'.2.2) w4 (fun k hk => ((e4 k (by omega)).trans (efr k (by omega)))) H locs ls (lv_sub hl [1, 2, 3, 4, 5, 6, 0] rfl) (show (f_Mem_addRegion u k x y) = f_Mem_addRegion_L117 u k x y gn z (i + (-1 : Int32)) t (u'.1, (va_up u'.2.1 i.toNatClampNeg (u'.2.1 (i - (1 : Int32)).toNatClampNeg)), u'.2.2) by rw [he, f_Mem_addRegion_L117, if_neg hc7]) (⟨hn1, fa36, ⟨_, fa34, fa35⟩, fa37⟩) hp_t hP hS (ho.2.2.2.2 hc7)
  have L35 : ∀ (gn : Nat) (z : Int32) (i : Int32) (w : Nat → va_E) (efr : ∀ k : Nat, (k < q ∨ q + 14 ≤ k) → w k = w0 k) (H : Heap) (locs : List Loc) (ls : Array Slot), lv_has ls 7 [(0, .ref (ad q)), (1, .int k), (2, .int x), (3, .int y), (4, .int z), (5, .int i)] → (f_Mem_addRegion u k x y) = f_Mem_addRegion_L35 u k x y gn z i → cd_MemAt N tt ad w q u → cd_P D ad N A w H → va_S A s.heap H locs → o_Mem_addRegion_L35 u k x y gn z i → W p l e (headSpec w_Mem_addRegion ({ frames := 2, cells := 0, slots := 0, locals := 46 })).room s m [.ref (ad q), .int k, .int x, .int y].toArray below meth c H locs 0 0 (MQ below (va_Qi (fun r w' => (f_Mem_addRegion u k x y).1 = r ∧ (r = 0 ∨ r = 1) ∧ cd_MemAt N tt ad w' q ((f_Mem_addRegion u k x y).2) ∧ (∀ k : Nat, (k < q ∨ q + 14 ≤ k) → w' k = w0 k)) (fun w' t => cd_P D ad N A w' t.heap) A) [.ref (ad q), .int k, .int x, .int y].toArray s 0 0 A) (F0 m 35 ls []) := by
    intro gn
    induction gn with
    | zero => intro z i w efr H locs ls hl he hL0 hP hS ho; exact ho.elim
    | succ gn ih =>
      intro z i w efr H locs ls hl he hL0 hP hS ho
      have ho : (u.1 ≤ i → vp_in u.1 6) ∧ (u.1 ≤ i → o_Mem_addRegion_L117 u k x y 7 z u.1 (u.2.1 u.1.toNatClampNeg) u) ∧ (¬ u.1 ≤ i → vp_in i 6) ∧ (¬ u.1 ≤ i → vp_in i 6) ∧ (¬ u.1 ≤ i → (f_Mem_overlap k x ((u.2.2 (u.2.1 i.toNatClampNeg)).1) ((u.2.2 (u.2.1 i.toNatClampNeg)).2.1)) = 0 → vp_in i 6) ∧ (¬ u.1 ≤ i → (f_Mem_overlap k x ((u.2.2 (u.2.1 i.toNatClampNeg)).1) ((u.2.2 (u.2.1 i.toNatClampNeg)).2.1)) = 0 → k ≤ (u.2.2 (u.2.1 i.toNatClampNeg)).1 → o_Mem_addRegion_L35 u k x y gn z (i + (1 : Int32))) ∧ (¬ u.1 ≤ i → (f_Mem_overlap k x ((u.2.2 (u.2.1 i.toNatClampNeg)).1) ((u.2.2 (u.2.1 i.toNatClampNeg)).2.1)) = 0 → ¬ k ≤ (u.2.2 (u.2.1 i.toNatClampNeg)).1 → o_Mem_addRegion_L35 u k x y gn (i + (1 : Int32)) (i + (1 : Int32))) := ho
      obtain ⟨hn38, fa39, ⟨rf43, fa40, fa41⟩, fa42⟩ := hL0
      refine lv_iload hx hb d_Mem_addRegion_35 (lv_at hl 5 rfl) ?_
      refine lv_aload_n hx hb d_Mem_addRegion_37 rfl (lv_at hl 0 rfl) ?_
      refine g_get (ci := 3) (C := R_Mem) (T := F_Mem) (Nf := 2) (v := .int u.1) hx hb hA in_Mem hown hK hP (k := q) (by omega) fa39 rfl 1 (by decide) (hA _ aw_46) (fun _ h9 => h9) rfl d_Mem_addRegion_38 ?_
      refine lv_icmp_ge (tgt := 100) hx hb d_Mem_addRegion_41 (by decide) (fun hc44 => ?_) (fun hc44 => ?_)
      · refine lv_aload_n hx hb d_Mem_addRegion_100 rfl (lv_at hl 0 rfl) ?_
        refine g_get (ci := 3) (C := R_Mem) (T := F_Mem) (Nf := 2) (v := .ref (ad (q + 1))) hx hb hA in_Mem hown hK hP (k := q) (by omega) fa39 rfl 0 (by decide) (hA _ aw_45) (fun _ h9 => h9) rfl d_Mem_addRegion_101 ?_
        refine lv_aload_n hx hb d_Mem_addRegion_104 rfl (lv_at hl 0 rfl) ?_
        refine g_get (ci := 3) (C := R_Mem) (T := F_Mem) (Nf := 2) (v := .int u.1) hx hb hA in_Mem hown hK hP (k := q) (by omega) fa39 rfl 1 (by decide) (hA _ aw_46) (fun _ h9 => h9) rfl d_Mem_addRegion_105 ?_
        have hi45 := cd_in6 (ho.1 hc44)
        refine g_aald hx hb hK hP (k := (q + 1)) (by omega) fa40 rfl (ho.1 hc44) (fa41 _ hi45).2 d_Mem_addRegion_108 ?_
        have hi46 := (fa41 _ hi45).1
        refine lv_astore (lv' := [(5, .ref (ad ((q + 2) + 2 * (u.2.1 u.1.toNatClampNeg)))), (0, .ref (ad q)), (1, .int k), (2, .int x), (3, .int y), (4, .int z)]) hx hb d_Mem_addRegion_109 hl (by decide) rfl (fun ls hl => ?_)
        refine lv_aload_n hx hb d_Mem_addRegion_111 rfl (lv_at hl 1 rfl) ?_
        refine g_get (ci := 3) (C := R_Mem) (T := F_Mem) (Nf := 2) (v := .int u.1) hx hb hA in_Mem hown hK hP (k := q) (by omega) fa39 rfl 1 (by decide) (hA _ aw_46) (fun _ h9 => h9) rfl d_Mem_addRegion_112 ?_
        refine lv_istore (lv' := [(6, .int u.1), (5, .ref (ad ((q + 2) + 2 * (u.2.1 u.1.toNatClampNeg)))), (0, .ref (ad q)), (1, .int k), (2, .int x), (3, .int y), (4, .int z)]) hx hb d_Mem_addRegion_115 hl (by decide) rfl (fun ls hl => ?_)
        exact L117 7 z u.1 (u.2.1 u.1.toNatClampNeg) u w (fun k hk => (efr k (by omega))) H locs ls (lv_sub hl [2, 3, 4, 5, 6, 1, 0] rfl) (show (f_Mem_addRegion u k x y) = f_Mem_addRegion_L117 u k x y 7 z u.1 (u.2.1 u.1.toNatClampNeg) u by rw [he, f_Mem_addRegion_L35, if_pos hc44]) (⟨hn38, fa39, ⟨rf43, fa40, fa41⟩, fa42⟩) hi46 hP hS (ho.2.1 hc44)
      · refine lv_iload_n hx hb d_Mem_addRegion_44 rfl (lv_at hl 1 rfl) ?_
        refine lv_iload_n hx hb d_Mem_addRegion_45 rfl (lv_at hl 2 rfl) ?_
        refine lv_aload_n hx hb d_Mem_addRegion_46 rfl (lv_at hl 0 rfl) ?_
        refine g_get (ci := 3) (C := R_Mem) (T := F_Mem) (Nf := 2) (v := .ref (ad (q + 1))) hx hb hA in_Mem hown hK hP (k := q) (by omega) fa39 rfl 0 (by decide) (hA _ aw_45) (fun _ h9 => h9) rfl d_Mem_addRegion_47 ?_
        refine lv_iload hx hb d_Mem_addRegion_50 (lv_at hl 5 rfl) ?_
        have hi47 := cd_in6 (ho.2.2.1 hc44)
        refine g_aald hx hb hK hP (k := (q + 1)) (by omega) fa40 rfl (ho.2.2.1 hc44) (fa41 _ hi47).2 d_Mem_addRegion_52 ?_
        have hi48 := (fa41 _ hi47).1
        obtain ⟨hn49, fa50, fa51⟩ := (fa42 (u.2.1 i.toNatClampNeg) hi48)
        refine g_getN (ci := 1) (C := R_Reg) (T := F_Reg) (Nf := 4) (v := .int ((u.2.2 (u.2.1 i.toNatClampNeg)).1)) hx hb hA in_Reg hown hK hP (k := ((q + 2) + 2 * (u.2.1 i.toNatClampNeg))) (by omega) fa50 rfl 1 (by decide) (va_Nw.use rfl (nw_2 hZ.2.2.2.2.2.2)) (fun _ h9 => h9) rfl d_Mem_addRegion_53 ?_
        refine lv_aload_n hx hb d_Mem_addRegion_56 rfl (lv_at hl 0 rfl) ?_
        refine g_get (ci := 3) (C := R_Mem) (T := F_Mem) (Nf := 2) (v := .ref (ad (q + 1))) hx hb hA in_Mem hown hK hP (k := q) (by omega) fa39 rfl 0 (by decide) (hA _ aw_45) (fun _ h9 => h9) rfl d_Mem_addRegion_57 ?_
        refine lv_iload hx hb d_Mem_addRegion_60 (lv_at hl 5 rfl) ?_
        have hi52 := cd_in6 (ho.2.2.2.1 hc44)
        refine g_aald hx hb hK hP (k := (q + 1)) (by omega) fa40 rfl (ho.2.2.2.1 hc44) (fa41 _ hi52).2 d_Mem_addRegion_62 ?_
        have hi53 := (fa41 _ hi52).1
        refine g_getN (ci := 1) (C := R_Reg) (T := F_Reg) (Nf := 4) (v := .int ((u.2.2 (u.2.1 i.toNatClampNeg)).2.1)) hx hb hA in_Reg hown hK hP (k := ((q + 2) + 2 * (u.2.1 i.toNatClampNeg))) (by omega) fa50 rfl 2 (by decide) (va_Nw.use rfl (nw_4 hZ.2.2.2.2.2.2)) (fun _ h9 => h9) rfl d_Mem_addRegion_63 ?_
        refine va_calli (va_runS (As := [.int k, .int x, .int ((u.2.2 (u.2.1 i.toNatClampNeg)).1), .int ((u.2.2 (u.2.1 i.toNatClampNeg)).2.1)]) (rest := []) ⟨hx, hb, hml, hown, hA⟩ (c_Mem_overlap l D tt ad N A zs w k x ((u.2.2 (u.2.1 i.toNatClampNeg)).1) ((u.2.2 (u.2.1 i.toNatClampNeg)).2.1)) (cwS 4 hA (cd_gS aw_130 aw_131 aw_2 aw_132) rfl rfl rfl ⟨rfl, by decide, by decide, by decide +kernel⟩ ⟨Nat.le_of_ble_eq_true rfl, Nat.le_of_ble_eq_true rfl⟩) ⟨cd_blind, fun U hU hW => ⟨rfl, cd_pre hK hP hZ hS U hU hW⟩⟩ rfl rfl hl.1 rfl (lv_room (Nat.le_of_ble_eq_true rfl)) d_Mem_addRegion_66 ⟨Nat.zero_le _, Nat.zero_le _⟩) hS (fun _ _ h => h) (fun _ h => h) (fun r54 w5 tE H locs ht hvm hr55 hP hz1 hk1 hS => ?_)
        have hP := cd_Pf ht hP
        obtain ⟨rfl, hbo57, rfl⟩ := hr55
        refine lv_if_eq (tgt := 74) hx hb d_Mem_addRegion_69 (by decide) (fun hc58 => ?_) (fun hc58 => ?_)
        · refine lv_aload_n hx hb d_Mem_addRegion_74 rfl (lv_at hl 0 rfl) ?_
          refine g_get (ci := 3) (C := R_Mem) (T := F_Mem) (Nf := 2) (v := .ref (ad (q + 1))) hx hb hA in_Mem hown hK hP (k := q) (by omega) fa39 rfl 0 (by decide) (hA _ aw_45) (fun _ h9 => h9) rfl d_Mem_addRegion_75 ?_
          refine lv_iload hx hb d_Mem_addRegion_78 (lv_at hl 5 rfl) ?_
          have hi59 := cd_in6 (ho.2.2.2.2.1 hc44 hc58)
          refine g_aald hx hb hK hP (k := (q + 1)) (by omega) fa40 rfl (ho.2.2.2.2.1 hc44 hc58) (fa41 _ hi59).2 d_Mem_addRegion_80 ?_
          have hi60 := (fa41 _ hi59).1
          refine g_getN (ci := 1) (C := R_Reg) (T := F_Reg) (Nf := 4) (v := .int ((u.2.2 (u.2.1 i.toNatClampNeg)).1)) hx hb hA in_Reg hown hK hP (k := ((q + 2) + 2 * (u.2.1 i.toNatClampNeg))) (by omega) fa50 rfl 1 (by decide) (va_Nw.use rfl (nw_2 hZ.2.2.2.2.2.2)) (fun _ h9 => h9) rfl d_Mem_addRegion_81 ?_
          refine lv_iload_n hx hb d_Mem_addRegion_84 rfl (lv_at hl 1 rfl) ?_
          refine lv_icmp_ge (tgt := 94) hx hb d_Mem_addRegion_85 (by decide) (fun hc61 => ?_) (fun hc61 => ?_)
          · refine lv_iinc (k := 5) (v := (i + (1 : Int32))) (lv' := [(5, .int (i + (1 : Int32))), (0, .ref (ad q)), (1, .int k), (2, .int x), (3, .int y), (4, .int z)]) hx hb d_Mem_addRegion_94 hl rfl (cd_inc _ _ _ (by decide)) (by decide) rfl (fun ls hl => ?_)
            refine lv_goto (tgt := 35) hx hb d_Mem_addRegion_97 (by decide) ?_
            exact ih z (i + (1 : Int32)) w (fun k hk => (efr k (by omega))) H locs ls (lv_sub hl [1, 2, 3, 4, 5, 0] rfl) (show (f_Mem_addRegion u k x y) = f_Mem_addRegion_L35 u k x y gn z (i + (1 : Int32)) by rw [he, f_Mem_addRegion_L35, if_neg hc44, if_pos hc58, if_pos hc61]) (⟨hn38, fa39, ⟨rf43, fa40, fa41⟩, fa42⟩) hP hS (ho.2.2.2.2.2.1 hc44 hc58 hc61)
          · refine lv_iload hx hb d_Mem_addRegion_88 (lv_at hl 5 rfl) ?_
            refine lv_iconst (v := (1 : Int32)) hx hb d_Mem_addRegion_90 (by decide) ?_
            refine lv_iadd hx hb d_Mem_addRegion_91 ?_
            refine lv_istore (lv' := [(4, .int (i + (1 : Int32))), (0, .ref (ad q)), (1, .int k), (2, .int x), (3, .int y), (5, .int i)]) hx hb d_Mem_addRegion_92 hl (by decide) rfl (fun ls hl => ?_)
            refine lv_iinc (k := 5) (v := (i + (1 : Int32))) (lv' := [(5, .int (i + (1 : Int32))), (4, .int (i + (1 : Int32))), (0, .ref (ad q)), (1, .int k), (2, .int x), (3, .int y)]) hx hb d_Mem_addRegion_94 hl rfl (cd_inc _ _ _ (by decide)) (by decide) rfl (fun ls hl => ?_)
            refine lv_goto (tgt := 35) hx hb d_Mem_addRegion_97 (by decide) ?_
            exact ih (i + (1 : Int32)) (i + (1 : Int32)) w (fun k hk => (efr k (by omega))) H locs ls (lv_sub hl [2, 3, 4, 5, 1, 0] rfl) (show (f_Mem_addRegion u k x y) = f_Mem_addRegion_L35 u k x y gn (i + (1 : Int32)) (i + (1 : Int32)) by rw [he, f_Mem_addRegion_L35, if_neg hc44, if_pos hc58, if_neg hc61]) (⟨hn38, fa39, ⟨rf43, fa40, fa41⟩, fa42⟩) hP hS (ho.2.2.2.2.2.2 hc44 hc58 hc61)
        · refine lv_iconst (v := (0 : Int32)) hx hb d_Mem_addRegion_72 (by decide) ?_
          have hf62 : (f_Mem_addRegion u k x y) = ((0 : Int32), u) := by rw [he, f_Mem_addRegion_L35, if_neg hc44, if_neg hc58]
          exact W.zret (ty := .boolean) (v := (0 : Int32)) hx hb hr rfl (fun tE ht _ => ⟨⟨_, w, rfl, ⟨(by rw [hf62]), (Or.inl rfl), (by rw [hf62]; exact ⟨hn38, fa39, ⟨rf43, fa40, fa41⟩, fa42⟩), (fun k hk => (efr k (by omega)))⟩, cd_Pt ht hP⟩, hS.F ht⟩) hS.2.2 d_Mem_addRegion_73
  have hS : va_S A s.heap s.heap [] := va_S.rf
  have hl := lv_entry ([.ref (ad q), .int k, .int x, .int y]) (n := 7) (Nat.le_of_ble_eq_true rfl)
  rw [lg_entry_eq]
  generalize (lg_sl ([.ref (ad q), .int k, .int x, .int y]) ++ List.replicate (7 - (lg_sl ([.ref (ad q), .int k, .int x, .int y])).length) Slot.unset).toArray = ls at hl ⊢
  have hl : lv_has ls 7 [(0, .ref (ad q)), (1, .int k), (2, .int x), (3, .int y)] := hl
  have ho : (¬ (6 : Int32) ≤ u.1 → ¬ (f_Mem_isSpan k x) = 0 → ¬ y < 0 → y ≤ (7 : Int32) → o_Mem_addRegion_L35 u k x y 7 (0 : Int32) (0 : Int32)) := ho
  obtain ⟨hn63, fa64, ⟨rf68, fa65, fa66⟩, fa67⟩ := hR0
  refine lv_aload_n hx hb d_Mem_addRegion_0 rfl (lv_at hl 0 rfl) ?_
  refine g_get (ci := 3) (C := R_Mem) (T := F_Mem) (Nf := 2) (v := .int u.1) hx hb hA in_Mem hown hK hP (k := q) (by omega) fa64 rfl 1 (by decide) (hA _ aw_46) (fun _ h9 => h9) rfl d_Mem_addRegion_1 ?_
  refine lv_bipush (v := (6 : Int32)) hx hb d_Mem_addRegion_4 (by decide) ?_
  refine lv_icmp_ge (tgt := 27) hx hb d_Mem_addRegion_6 (by decide) (fun hc69 => ?_) (fun hc69 => ?_)
  · refine lv_iconst (v := (0 : Int32)) hx hb d_Mem_addRegion_27 (by decide) ?_
    have hf70 : (f_Mem_addRegion u k x y) = ((0 : Int32), u) := by rw [f_Mem_addRegion, if_pos hc69]
    exact W.zret (ty := .boolean) (v := (0 : Int32)) hx hb hr rfl (fun tE ht _ => ⟨⟨_, w0, rfl, ⟨(by rw [hf70]), (Or.inl rfl), (by rw [hf70]; exact ⟨hn63, fa64, ⟨rf68, fa65, fa66⟩, fa67⟩), (fun _ _ => rfl)⟩, cd_Pt ht hP⟩, hS.F ht⟩) hS.2.2 d_Mem_addRegion_28
  · refine lv_iload_n hx hb d_Mem_addRegion_9 rfl (lv_at hl 1 rfl) ?_
    refine lv_iload_n hx hb d_Mem_addRegion_10 rfl (lv_at hl 2 rfl) ?_
    refine va_calli (va_runS (As := [.int k, .int x]) (rest := []) ⟨hx, hb, hml, hown, hA⟩ (c_Mem_isSpan l D tt ad N A zs w0 k x) (cwS 2 hA (cd_gS aw_126 aw_127 aw_2 aw_128) rfl rfl rfl ⟨rfl, by decide, by decide, by decide +kernel⟩ ⟨Nat.le_of_ble_eq_true rfl, Nat.le_of_ble_eq_true rfl⟩) ⟨cd_blind, fun U hU hW => ⟨rfl, cd_pre hK hP hZ hS U hU hW⟩⟩ rfl rfl hl.1 rfl (lv_room (Nat.le_of_ble_eq_true rfl)) d_Mem_addRegion_11 ⟨Nat.zero_le _, Nat.zero_le _⟩) hS (fun _ _ h => h) (fun _ h => h) (fun r71 w6 tE H locs ht hvm hr72 hP hz1 hk1 hS => ?_)
    have hP := cd_Pf ht hP
    obtain ⟨rfl, hbo74, rfl⟩ := hr72
    refine lv_if_eq (tgt := 27) hx hb d_Mem_addRegion_14 (by decide) (fun hc75 => ?_) (fun hc75 => ?_)
    · refine lv_iconst (v := (0 : Int32)) hx hb d_Mem_addRegion_27 (by decide) ?_
      have hf76 : (f_Mem_addRegion u k x y) = ((0 : Int32), u) := by rw [f_Mem_addRegion, if_neg hc69, if_pos hc75]
      exact W.zret (ty := .boolean) (v := (0 : Int32)) hx hb hr rfl (fun tE ht _ => ⟨⟨_, w0, rfl, ⟨(by rw [hf76]), (Or.inl rfl), (by rw [hf76]; exact ⟨hn63, fa64, ⟨rf68, fa65, fa66⟩, fa67⟩), (fun _ _ => rfl)⟩, cd_Pt ht hP⟩, hS.F ht⟩) hS.2.2 d_Mem_addRegion_28
    · refine lv_iload_n hx hb d_Mem_addRegion_17 rfl (lv_at hl 3 rfl) ?_
      refine lv_if_lt (tgt := 27) hx hb d_Mem_addRegion_18 (by decide) (fun hc77 => ?_) (fun hc77 => ?_)
      · refine lv_iconst (v := (0 : Int32)) hx hb d_Mem_addRegion_27 (by decide) ?_
        have hf78 : (f_Mem_addRegion u k x y) = ((0 : Int32), u) := by rw [f_Mem_addRegion, if_neg hc69, if_neg hc75, if_pos hc77]
        exact W.zret (ty := .boolean) (v := (0 : Int32)) hx hb hr rfl (fun tE ht _ => ⟨⟨_, w0, rfl, ⟨(by rw [hf78]), (Or.inl rfl), (by rw [hf78]; exact ⟨hn63, fa64, ⟨rf68, fa65, fa66⟩, fa67⟩), (fun _ _ => rfl)⟩, cd_Pt ht hP⟩, hS.F ht⟩) hS.2.2 d_Mem_addRegion_28
      · refine lv_iload_n hx hb d_Mem_addRegion_21 rfl (lv_at hl 3 rfl) ?_
        refine lv_bipush (v := (7 : Int32)) hx hb d_Mem_addRegion_22 (by decide) ?_
        refine lv_icmp_le (tgt := 29) hx hb d_Mem_addRegion_24 (by decide) (fun hc79 => ?_) (fun hc79 => ?_)
        · refine lv_iconst (v := (0 : Int32)) hx hb d_Mem_addRegion_29 (by decide) ?_
          refine lv_istore (lv' := [(4, .int (0 : Int32)), (0, .ref (ad q)), (1, .int k), (2, .int x), (3, .int y)]) hx hb d_Mem_addRegion_30 hl (by decide) rfl (fun ls hl => ?_)
          refine lv_iconst (v := (0 : Int32)) hx hb d_Mem_addRegion_32 (by decide) ?_
          refine lv_istore (lv' := [(5, .int (0 : Int32)), (4, .int (0 : Int32)), (0, .ref (ad q)), (1, .int k), (2, .int x), (3, .int y)]) hx hb d_Mem_addRegion_33 hl (by decide) rfl (fun ls hl => ?_)
          exact L35 7 (0 : Int32) (0 : Int32) w0 (fun _ _ => rfl) H locs ls (lv_sub hl [2, 3, 4, 5, 1, 0] rfl) (show (f_Mem_addRegion u k x y) = f_Mem_addRegion_L35 u k x y 7 (0 : Int32) (0 : Int32) by rw [f_Mem_addRegion, if_neg hc69, if_neg hc75, if_neg hc77, if_pos hc79]) (⟨hn63, fa64, ⟨rf68, fa65, fa66⟩, fa67⟩) hP hS (ho hc69 hc75 hc77 hc79)
        · refine lv_iconst (v := (0 : Int32)) hx hb d_Mem_addRegion_27 (by decide) ?_
          have hf80 : (f_Mem_addRegion u k x y) = ((0 : Int32), u) := by rw [f_Mem_addRegion, if_neg hc69, if_neg hc75, if_neg hc77, if_neg hc79]
          exact W.zret (ty := .boolean) (v := (0 : Int32)) hx hb hr rfl (fun tE ht _ => ⟨⟨_, w0, rfl, ⟨(by rw [hf80]), (Or.inl rfl), (by rw [hf80]; exact ⟨hn63, fa64, ⟨rf68, fa65, fa66⟩, fa67⟩), (fun _ _ => rfl)⟩, cd_Pt ht hP⟩, hS.F ht⟩) hS.2.2 d_Mem_addRegion_28
def f_Mem_removeRegion_L36 (u : cd_Mem) (k : Int32) : Nat → Int32 → Int32 → Nat → cd_Mem → Int32 × cd_Mem
  | 0, _, _, _, _ => default
  | gn + 1, z, i, t, u' => (if (u'.1 - (1 : Int32)) ≤ i then ((1 : Int32), ((u'.1 - (1 : Int32)), (va_up u'.2.1 (u'.1 - (1 : Int32)).toNatClampNeg t), u'.2.2)) else (f_Mem_removeRegion_L36 u k gn z (i + (1 : Int32)) t (u'.1, (va_up u'.2.1 i.toNatClampNeg (u'.2.1 (i + (1 : Int32)).toNatClampNeg)), u'.2.2)))
def f_Mem_removeRegion (u : cd_Mem) (k : Int32) : Int32 × cd_Mem := (if (f_Mem_indexOf u k) = (-1 : Int32) then ((0 : Int32), u) else (if (u.2.2 (u.2.1 (f_Mem_indexOf u k).toNatClampNeg)).1 = k then (f_Mem_removeRegion_L36 u k 7 (f_Mem_indexOf u k) (f_Mem_indexOf u k) (u.2.1 (f_Mem_indexOf u k).toNatClampNeg) u) else ((0 : Int32), u)))
def o_Mem_removeRegion_L36 (u : cd_Mem) (k : Int32) : Nat → Int32 → Int32 → Nat → cd_Mem → Prop
  | 0, _, _, _, _ => False
  | gn + 1, z, i, t, u' => ((u'.1 - (1 : Int32)) ≤ i → vp_in (u'.1 - (1 : Int32)) 6) ∧ (¬ (u'.1 - (1 : Int32)) ≤ i → vp_in (i + (1 : Int32)) 6) ∧ (¬ (u'.1 - (1 : Int32)) ≤ i → vp_in i 6) ∧ (¬ (u'.1 - (1 : Int32)) ≤ i → o_Mem_removeRegion_L36 u k gn z (i + (1 : Int32)) t (u'.1, (va_up u'.2.1 i.toNatClampNeg (u'.2.1 (i + (1 : Int32)).toNatClampNeg)), u'.2.2))
def o_Mem_removeRegion (u : cd_Mem) (k : Int32) : Prop := (o_Mem_indexOf u k) ∧ (¬ (f_Mem_indexOf u k) = (-1 : Int32) → vp_in (f_Mem_indexOf u k) 6) ∧ (¬ (f_Mem_indexOf u k) = (-1 : Int32) → (u.2.2 (u.2.1 (f_Mem_indexOf u k).toNatClampNeg)).1 = k → vp_in (f_Mem_indexOf u k) 6) ∧ (¬ (f_Mem_indexOf u k) = (-1 : Int32) → (u.2.2 (u.2.1 (f_Mem_indexOf u k).toNatClampNeg)).1 = k → o_Mem_removeRegion_L36 u k 7 (f_Mem_indexOf u k) (f_Mem_indexOf u k) (u.2.1 (f_Mem_indexOf u k).toNatClampNeg) u)
set_option maxHeartbeats 4000000 in
set_option maxRecDepth 100000 in
theorem c_Mem_removeRegion (l : Launch) (D : va_G) (tt : Nat → ClassId) (ad : Nat → Nat) (N : Nat) (A : Nat → Prop) (zs : Nat → Nat) (w0 : Nat → va_E) (q : Nat) (u : cd_Mem) (k : Int32) (hR0 : cd_MemAt N tt ad w0 q u) (ho : o_Mem_removeRegion u k) : Met l y_Mem_removeRegion w_Mem_removeRegion ({ frames := 2, cells := 0, slots := 0, locals := 43 }) (va_Pc [.ref (ad q), .int k] (cd_U D tt ad N A zs w0)) (va_Qi (fun r w' => (f_Mem_removeRegion u k).1 = r ∧ (r = 0 ∨ r = 1) ∧ cd_MemAt N tt ad w' q ((f_Mem_removeRegion u k).2) ∧ (∀ k : Nat, (k < q ∨ q + 14 ≤ k) → w' k = w0 k)) (fun w' t => cd_P D ad N A w' t.heap) A) 0 0 A := by
  refine Met.ofW (cc := b_Mem_removeRegion) (maxL := 5) (ret := (some .boolean)) (by decide) rfl ?_
  intro p e s m args below meth c s₁ B hml hv
  obtain ⟨rfl, hP, hK, hZ⟩ := hv
  have hx := B.exec
  have hb := B.bytes
  have hr := B.returns
  have hA : ∀ w ∈ cd_AW, w.before _ s = true := fun w h => atoms_spec (ws := w_Mem_removeRegion) B.pre w (List.mem_cons_of_mem _ h)
  have hown : s.vm.findClass R_Mem = some m.cls := findClass_of_methodNamed B.named
  have hlocks := B.notSynchronized
  have L36 : ∀ (gn : Nat) (z : Int32) (i : Int32) (t : Nat) (u' : cd_Mem) (w : Nat → va_E) (efr : ∀ k : Nat, (k < q ∨ q + 14 ≤ k) → w k = w0 k) (H : Heap) (locs : List Loc) (ls : Array Slot), lv_has ls 5 [(0, .ref (ad q)), (1, .int k), (2, .int z), (3, .ref (ad ((q + 2) + 2 * t))), (4, .int i)] → (f_Mem_removeRegion u k) = f_Mem_removeRegion_L36 u k gn z i t u' → cd_MemAt N tt ad w q u' → t < 6 → cd_P D ad N A w H → va_S A s.heap H locs → o_Mem_removeRegion_L36 u k gn z i t u' → W p l e (headSpec w_Mem_removeRegion ({ frames := 2, cells := 0, slots := 0, locals := 43 })).room s m [.ref (ad q), .int k].toArray below meth c H locs 0 0 (MQ below (va_Qi (fun r w' => (f_Mem_removeRegion u k).1 = r ∧ (r = 0 ∨ r = 1) ∧ cd_MemAt N tt ad w' q ((f_Mem_removeRegion u k).2) ∧ (∀ k : Nat, (k < q ∨ q + 14 ≤ k) → w' k = w0 k)) (fun w' t => cd_P D ad N A w' t.heap) A) [.ref (ad q), .int k].toArray s 0 0 A) (F0 m 36 ls []) := by
    intro gn
    induction gn with
    | zero => intro z i t u' w efr H locs ls hl he hL0 hp_t hP hS ho; exact ho.elim
    | succ gn ih =>
      intro z i t u' w efr H locs ls hl he hL0 hp_t hP hS ho
      have ho : ((u'.1 - (1 : Int32)) ≤ i → vp_in (u'.1 - (1 : Int32)) 6) ∧ (¬ (u'.1 - (1 : Int32)) ≤ i → vp_in (i + (1 : Int32)) 6) ∧ (¬ (u'.1 - (1 : Int32)) ≤ i → vp_in i 6) ∧ (¬ (u'.1 - (1 : Int32)) ≤ i → o_Mem_removeRegion_L36 u k gn z (i + (1 : Int32)) t (u'.1, (va_up u'.2.1 i.toNatClampNeg (u'.2.1 (i + (1 : Int32)).toNatClampNeg)), u'.2.2)) := ho
      obtain ⟨hn1, fa2, ⟨rf6, fa3, fa4⟩, fa5⟩ := hL0
      refine lv_iload hx hb d_Mem_removeRegion_36 (lv_at hl 4 rfl) ?_
      refine lv_aload_n hx hb d_Mem_removeRegion_38 rfl (lv_at hl 0 rfl) ?_
      refine g_get (ci := 3) (C := R_Mem) (T := F_Mem) (Nf := 2) (v := .int u'.1) hx hb hA in_Mem hown hK hP (k := q) (by omega) fa2 rfl 1 (by decide) (hA _ aw_46) (fun _ h9 => h9) rfl d_Mem_removeRegion_39 ?_
      refine lv_iconst (v := (1 : Int32)) hx hb d_Mem_removeRegion_42 (by decide) ?_
      refine lv_isub hx hb d_Mem_removeRegion_43 ?_
      refine lv_icmp_ge (tgt := 69) hx hb d_Mem_removeRegion_44 (by decide) (fun hc7 => ?_) (fun hc7 => ?_)
      · refine lv_aload_n hx hb d_Mem_removeRegion_69 rfl (lv_at hl 0 rfl) ?_
        refine lv_dup hx hb d_Mem_removeRegion_70 rfl ?_
        refine g_get (ci := 3) (C := R_Mem) (T := F_Mem) (Nf := 2) (v := .int u'.1) hx hb hA in_Mem hown hK hP (k := q) (by omega) fa2 rfl 1 (by decide) (hA _ aw_46) (fun _ h9 => h9) rfl d_Mem_removeRegion_71 ?_
        refine lv_iconst (v := (1 : Int32)) hx hb d_Mem_removeRegion_74 (by decide) ?_
        refine lv_isub hx hb d_Mem_removeRegion_75 ?_
        refine g_put (ci := 3) (C := R_Mem) (T := F_Mem) (Nf := 2) (v := .int (u'.1 - (1 : Int32))) (ty := .int) hx hb hA in_Mem t_Mem t_Mem_ok n_Mem hown hK hP hS (k := q) (by omega) fa2 rfl 1 (by decide) (hA _ aw_46) (fun _ h9 => h9) rfl (by decide +kernel) rfl rfl (Nat.le_of_ble_eq_true rfl) d_Mem_removeRegion_76 (fun H locs w1 fa8 e1 hP hS => ?_)
        have fa8 : w1 q = .inr (3, [.ref (ad (q + 1)), .int (u'.1 - (1 : Int32))]) := fa8
        have fa9 := (e1 (q + 1) (by omega)).trans fa3
        have fa10 := cd_pool_keep fa5 (fun k h1 h2 => e1 k (by omega))
        refine lv_aload_n hx hb d_Mem_removeRegion_79 rfl (lv_at hl 0 rfl) ?_
        refine g_get (ci := 3) (C := R_Mem) (T := F_Mem) (Nf := 2) (v := .ref (ad (q + 1))) hx hb hA in_Mem hown hK hP (k := q) (by omega) fa8 rfl 0 (by decide) (hA _ aw_45) (fun _ h9 => h9) rfl d_Mem_removeRegion_80 ?_
        refine lv_aload_n hx hb d_Mem_removeRegion_83 rfl (lv_at hl 0 rfl) ?_
        refine g_get (ci := 3) (C := R_Mem) (T := F_Mem) (Nf := 2) (v := .int (u'.1 - (1 : Int32))) hx hb hA in_Mem hown hK hP (k := q) (by omega) fa8 rfl 1 (by decide) (hA _ aw_46) (fun _ h9 => h9) rfl d_Mem_removeRegion_84 ?_
        refine lv_aload_n hx hb d_Mem_removeRegion_87 rfl (lv_at hl 3 rfl) ?_
        obtain ⟨hn11, fa12, fa13⟩ := (fa10 t hp_t)
        refine g_aast (ci := 1) hx hb hK hP hS (k := (q + 1)) (kv := ((q + 2) + 2 * t)) (by omega) (by omega) fa9 fa12 rfl rfl (ho.1 hc7) d_Mem_removeRegion_88 (fun H locs w2 fa14 e2 hP hS => ?_)
        have fa15 := cd_refs_put (i := (u'.1 - (1 : Int32)).toNatClampNeg) fa4 hp_t
        have fa16 := (e2 q (by omega)).trans fa8
        have fa17 := cd_pool_keep fa10 (fun k h1 h2 => e2 k (by omega))
        refine lv_iconst (v := (1 : Int32)) hx hb d_Mem_removeRegion_89 (by decide) ?_
        have hf18 : (f_Mem_removeRegion u k) = ((1 : Int32), ((u'.1 - (1 : Int32)), (va_up u'.2.1 (u'.1 - (1 : Int32)).toNatClampNeg t), u'.2.2)) := by rw [he, f_Mem_removeRegion_L36, if_pos hc7]
        exact W.zret (ty := .boolean) (v := (1 : Int32)) hx hb hr rfl (fun tE ht _ => ⟨⟨_, w2, rfl, ⟨(by rw [hf18]), (Or.inr rfl), (by rw [hf18]; exact ⟨hn1, fa16, ⟨_, fa14, fa15⟩, fa17⟩), (fun k hk => ((e2 k (by omega)).trans ((e1 k (by omega)).trans (efr k (by omega)))))⟩, cd_Pt ht hP⟩, hS.F ht⟩) hS.2.2 d_Mem_removeRegion_90
      · refine lv_aload_n hx hb d_Mem_removeRegion_47 rfl (lv_at hl 0 rfl) ?_
        refine g_get (ci := 3) (C := R_Mem) (T := F_Mem) (Nf := 2) (v := .ref (ad (q + 1))) hx hb hA in_Mem hown hK hP (k := q) (by omega) fa2 rfl 0 (by decide) (hA _ aw_45) (fun _ h9 => h9) rfl d_Mem_removeRegion_48 ?_
        refine lv_iload hx hb d_Mem_removeRegion_51 (lv_at hl 4 rfl) ?_
        refine lv_aload_n hx hb d_Mem_removeRegion_53 rfl (lv_at hl 0 rfl) ?_
        refine g_get (ci := 3) (C := R_Mem) (T := F_Mem) (Nf := 2) (v := .ref (ad (q + 1))) hx hb hA in_Mem hown hK hP (k := q) (by omega) fa2 rfl 0 (by decide) (hA _ aw_45) (fun _ h9 => h9) rfl d_Mem_removeRegion_54 ?_
        refine lv_iload hx hb d_Mem_removeRegion_57 (lv_at hl 4 rfl) ?_
        refine lv_iconst (v := (1 : Int32)) hx hb d_Mem_removeRegion_59 (by decide) ?_
        refine lv_iadd hx hb d_Mem_removeRegion_60 ?_
        have hi19 := cd_in6 (ho.2.1 hc7)
        refine g_aald hx hb hK hP (k := (q + 1)) (by omega) fa3 rfl (ho.2.1 hc7) (fa4 _ hi19).2 d_Mem_removeRegion_61 ?_
        have hi20 := (fa4 _ hi19).1
        obtain ⟨hn21, fa22, fa23⟩ := (fa5 (u'.2.1 (i + (1 : Int32)).toNatClampNeg) hi20)
        refine g_aast (ci := 1) hx hb hK hP hS (k := (q + 1)) (kv := ((q + 2) + 2 * (u'.2.1 (i + (1 : Int32)).toNatClampNeg))) (by omega) (by omega) fa3 fa22 rfl rfl (ho.2.2.1 hc7) d_Mem_removeRegion_62 (fun H locs w3 fa24 e3 hP hS => ?_)
        have fa25 := cd_refs_put (i := i.toNatClampNeg) fa4 hi20
        have fa26 := (e3 q (by omega)).trans fa2
        have fa27 := cd_pool_keep fa5 (fun k h1 h2 => e3 k (by omega))
        refine lv_iinc (k := 4) (v := (i + (1 : Int32))) (lv' := [(4, .int (i + (1 : Int32))), (0, .ref (ad q)), (1, .int k), (2, .int z), (3, .ref (ad ((q + 2) + 2 * t)))]) hx hb d_Mem_removeRegion_63 hl rfl (cd_inc _ _ _ (by decide)) (by decide) rfl (fun ls hl => ?_)
        refine lv_goto (tgt := 36) hx hb d_Mem_removeRegion_66 (by decide) ?_
        exact ih z (i + (1 : Int32)) t (u'.1, (va_up u'.2.1 i.toNatClampNeg (u'.2.1 (i + (1 : Int32)).toNatClampNeg)), u'.2.2) w3 (fun k hk => ((e3 k (by omega)).trans (efr k (by omega)))) H locs ls (lv_sub hl [1, 2, 3, 4, 0] rfl) (show (f_Mem_removeRegion u k) = f_Mem_removeRegion_L36 u k gn z (i + (1 : Int32)) t (u'.1, (va_up u'.2.1 i.toNatClampNeg (u'.2.1 (i + (1 : Int32)).toNatClampNeg)), u'.2.2) by rw [he, f_Mem_removeRegion_L36, if_neg hc7]) (⟨hn1, fa26, ⟨_, fa24, fa25⟩, fa27⟩) hp_t hP hS (ho.2.2.2 hc7)
  have hS : va_S A s.heap s.heap [] := va_S.rf
  have hl := lv_entry ([.ref (ad q), .int k]) (n := 5) (Nat.le_of_ble_eq_true rfl)
  rw [lg_entry_eq]
  generalize (lg_sl ([.ref (ad q), .int k]) ++ List.replicate (5 - (lg_sl ([.ref (ad q), .int k])).length) Slot.unset).toArray = ls at hl ⊢
  have hl : lv_has ls 5 [(0, .ref (ad q)), (1, .int k)] := hl
  have ho : (o_Mem_indexOf u k) ∧ (¬ (f_Mem_indexOf u k) = (-1 : Int32) → vp_in (f_Mem_indexOf u k) 6) ∧ (¬ (f_Mem_indexOf u k) = (-1 : Int32) → (u.2.2 (u.2.1 (f_Mem_indexOf u k).toNatClampNeg)).1 = k → vp_in (f_Mem_indexOf u k) 6) ∧ (¬ (f_Mem_indexOf u k) = (-1 : Int32) → (u.2.2 (u.2.1 (f_Mem_indexOf u k).toNatClampNeg)).1 = k → o_Mem_removeRegion_L36 u k 7 (f_Mem_indexOf u k) (f_Mem_indexOf u k) (u.2.1 (f_Mem_indexOf u k).toNatClampNeg) u) := ho
  obtain ⟨hn28, fa29, ⟨rf33, fa30, fa31⟩, fa32⟩ := hR0
  refine lv_aload_n hx hb d_Mem_removeRegion_0 rfl (lv_at hl 0 rfl) ?_
  refine lv_iload_n hx hb d_Mem_removeRegion_1 rfl (lv_at hl 1 rfl) ?_
  refine va_calli (va_runV (As := [.int k]) (rest := []) ⟨hx, hb, hml, hown, hA⟩ (c_Mem_indexOf l D tt ad N A zs w0 q u k (⟨hn28, fa29, ⟨rf33, fa30, fa31⟩, fa32⟩) (ho.1)) (cwV 1 hA (cd_gV aw_148 aw_149 aw_756 aw_2 aw_150) rfl rfl rfl ⟨rfl, by decide, by decide, by decide +kernel⟩ ⟨Nat.le_of_ble_eq_true rfl, Nat.le_of_ble_eq_true rfl⟩) ⟨cd_blind, cd_recv hK hP (k := q) (by omega) fa29 rfl, fun U hU hW => ⟨rfl, cd_pre hK hP hZ hS U hU hW⟩⟩ rfl rfl hl.1 rfl (lv_room (Nat.le_of_ble_eq_true rfl)) d_Mem_removeRegion_2 ⟨Nat.zero_le _, Nat.zero_le _⟩) hS (fun _ _ h => h) (fun _ h => h) (fun r34 w4 tE H locs ht hvm hr35 hP hz1 hk1 hS => ?_)
  have hP := cd_Pf ht hP
  obtain ⟨rfl, rfl⟩ := hr35
  refine lv_istore_n (lv' := [(2, .int (f_Mem_indexOf u k)), (0, .ref (ad q)), (1, .int k)]) hx hb d_Mem_removeRegion_5 rfl hl (by decide) rfl (fun ls hl => ?_)
  refine lv_iload_n hx hb d_Mem_removeRegion_6 rfl (lv_at hl 0 rfl) ?_
  refine lv_iconst (v := (-1 : Int32)) hx hb d_Mem_removeRegion_7 (by decide) ?_
  refine lv_icmp_eq (tgt := 24) hx hb d_Mem_removeRegion_8 (by decide) (fun hc37 => ?_) (fun hc37 => ?_)
  · refine lv_iconst (v := (0 : Int32)) hx hb d_Mem_removeRegion_24 (by decide) ?_
    have hf38 : (f_Mem_removeRegion u k) = ((0 : Int32), u) := by rw [f_Mem_removeRegion, if_pos hc37]
    exact W.zret (ty := .boolean) (v := (0 : Int32)) hx hb hr rfl (fun tE ht _ => ⟨⟨_, w0, rfl, ⟨(by rw [hf38]), (Or.inl rfl), (by rw [hf38]; exact ⟨hn28, fa29, ⟨rf33, fa30, fa31⟩, fa32⟩), (fun _ _ => rfl)⟩, cd_Pt ht hP⟩, hS.F ht⟩) hS.2.2 d_Mem_removeRegion_25
  · refine lv_aload_n hx hb d_Mem_removeRegion_11 rfl (lv_at hl 1 rfl) ?_
    refine g_get (ci := 3) (C := R_Mem) (T := F_Mem) (Nf := 2) (v := .ref (ad (q + 1))) hx hb hA in_Mem hown hK hP (k := q) (by omega) fa29 rfl 0 (by decide) (hA _ aw_45) (fun _ h9 => h9) rfl d_Mem_removeRegion_12 ?_
    refine lv_iload_n hx hb d_Mem_removeRegion_15 rfl (lv_at hl 0 rfl) ?_
    have hi39 := cd_in6 (ho.2.1 hc37)
    refine g_aald hx hb hK hP (k := (q + 1)) (by omega) fa30 rfl (ho.2.1 hc37) (fa31 _ hi39).2 d_Mem_removeRegion_16 ?_
    have hi40 := (fa31 _ hi39).1
    obtain ⟨hn41, fa42, fa43⟩ := (fa32 (u.2.1 (f_Mem_indexOf u k).toNatClampNeg) hi40)
    refine g_getN (ci := 1) (C := R_Reg) (T := F_Reg) (Nf := 4) (v := .int ((u.2.2 (u.2.1 (f_Mem_indexOf u k).toNatClampNeg)).1)) hx hb hA in_Reg hown hK hP (k := ((q + 2) + 2 * (u.2.1 (f_Mem_indexOf u k).toNatClampNeg))) (by omega) fa42 rfl 1 (by decide) (va_Nw.use rfl (nw_2 hZ.2.2.2.2.2.2)) (fun _ h9 => h9) rfl d_Mem_removeRegion_17 ?_
    refine lv_iload_n hx hb d_Mem_removeRegion_20 rfl (lv_at hl 2 rfl) ?_
    refine lv_icmp_eq (tgt := 26) hx hb d_Mem_removeRegion_21 (by decide) (fun hc44 => ?_) (fun hc44 => ?_)
    · refine lv_aload_n hx hb d_Mem_removeRegion_26 rfl (lv_at hl 1 rfl) ?_
      refine g_get (ci := 3) (C := R_Mem) (T := F_Mem) (Nf := 2) (v := .ref (ad (q + 1))) hx hb hA in_Mem hown hK hP (k := q) (by omega) fa29 rfl 0 (by decide) (hA _ aw_45) (fun _ h9 => h9) rfl d_Mem_removeRegion_27 ?_
      refine lv_iload_n hx hb d_Mem_removeRegion_30 rfl (lv_at hl 0 rfl) ?_
      have hi45 := cd_in6 (ho.2.2.1 hc37 hc44)
      refine g_aald hx hb hK hP (k := (q + 1)) (by omega) fa30 rfl (ho.2.2.1 hc37 hc44) (fa31 _ hi45).2 d_Mem_removeRegion_31 ?_
      have hi46 := (fa31 _ hi45).1
      refine lv_astore_n (lv' := [(3, .ref (ad ((q + 2) + 2 * (u.2.1 (f_Mem_indexOf u k).toNatClampNeg)))), (2, .int (f_Mem_indexOf u k)), (0, .ref (ad q)), (1, .int k)]) hx hb d_Mem_removeRegion_32 rfl hl (by decide) rfl (fun ls hl => ?_)
      refine lv_iload_n hx hb d_Mem_removeRegion_33 rfl (lv_at hl 1 rfl) ?_
      refine lv_istore (lv' := [(4, .int (f_Mem_indexOf u k)), (3, .ref (ad ((q + 2) + 2 * (u.2.1 (f_Mem_indexOf u k).toNatClampNeg)))), (2, .int (f_Mem_indexOf u k)), (0, .ref (ad q)), (1, .int k)]) hx hb d_Mem_removeRegion_34 hl (by decide) rfl (fun ls hl => ?_)
      exact L36 7 (f_Mem_indexOf u k) (f_Mem_indexOf u k) (u.2.1 (f_Mem_indexOf u k).toNatClampNeg) u w0 (fun _ _ => rfl) H locs ls (lv_sub hl [3, 4, 2, 1, 0] rfl) (show (f_Mem_removeRegion u k) = f_Mem_removeRegion_L36 u k 7 (f_Mem_indexOf u k) (f_Mem_indexOf u k) (u.2.1 (f_Mem_indexOf u k).toNatClampNeg) u by rw [f_Mem_removeRegion, if_neg hc37, if_pos hc44]) (⟨hn28, fa29, ⟨rf33, fa30, fa31⟩, fa32⟩) hi40 hP hS (ho.2.2.2 hc37 hc44)
    · refine lv_iconst (v := (0 : Int32)) hx hb d_Mem_removeRegion_24 (by decide) ?_
      have hf47 : (f_Mem_removeRegion u k) = ((0 : Int32), u) := by rw [f_Mem_removeRegion, if_neg hc37, if_neg hc44]
      exact W.zret (ty := .boolean) (v := (0 : Int32)) hx hb hr rfl (fun tE ht _ => ⟨⟨_, w0, rfl, ⟨(by rw [hf47]), (Or.inl rfl), (by rw [hf47]; exact ⟨hn28, fa29, ⟨rf33, fa30, fa31⟩, fa32⟩), (fun _ _ => rfl)⟩, cd_Pt ht hP⟩, hS.F ht⟩) hS.2.2 d_Mem_removeRegion_25
def f_Mem_fillRegion (u : cd_Mem) (n1 : Nat) (u1 : cd_Row) (k : Int32) (y : Int32) (x : Int32) : cd_Mem := (if (f_Mem_indexOf u k) = (-1 : Int32) then u else (u.1, u.2.1, (va_up u.2.2 (u.2.1 (f_Mem_indexOf u k).toNatClampNeg) ((u.2.2 (u.2.1 (f_Mem_indexOf u k).toNatClampNeg)).1, (u.2.2 (u.2.1 (f_Mem_indexOf u k).toNatClampNeg)).2.1, (u.2.2 (u.2.1 (f_Mem_indexOf u k).toNatClampNeg)).2.2.1, (f_Row_giveBytes n1 u1 1024 ((u.2.2 (u.2.1 (f_Mem_indexOf u k).toNatClampNeg)).2.2.2) y x)))))
def o_Mem_fillRegion (u : cd_Mem) (n1 : Nat) (u1 : cd_Row) (k : Int32) (y : Int32) (x : Int32) : Prop := (o_Mem_indexOf u k) ∧ (¬ (f_Mem_indexOf u k) = (-1 : Int32) → vp_in (f_Mem_indexOf u k) 6) ∧ (¬ (f_Mem_indexOf u k) = (-1 : Int32) → o_Row_giveBytes n1 u1 1024 ((u.2.2 (u.2.1 (f_Mem_indexOf u k).toNatClampNeg)).2.2.2) y x)
set_option maxHeartbeats 4000000 in
set_option maxRecDepth 100000 in
theorem c_Mem_fillRegion (l : Launch) (D : va_G) (tt : Nat → ClassId) (ad : Nat → Nat) (N : Nat) (A : Nat → Prop) (zs : Nat → Nat) (w0 : Nat → va_E) (q : Nat) (u : cd_Mem) (q1 n1 : Nat) (u1 : cd_Row) (k : Int32) (y : Int32) (x : Int32) (hR0 : cd_MemAt N tt ad w0 q u) (hR1 : cd_RowAt N tt ad w0 q1 n1 u1) (hap0 : q1 + 2 ≤ q ∨ q + 14 ≤ q1) (ho : o_Mem_fillRegion u n1 u1 k y x) : Met l y_Mem_fillRegion w_Mem_fillRegion ({ frames := 2, cells := 0, slots := 0, locals := 83 }) (va_Pc [.ref (ad q), .int k, .ref (ad q1), .int y, .int x] (cd_U D tt ad N A zs w0)) (va_Qv (fun w' => cd_MemAt N tt ad w' q (f_Mem_fillRegion u n1 u1 k y x) ∧ (∀ k : Nat, (k < q ∨ q + 14 ≤ k) → w' k = w0 k)) (fun w' t => cd_P D ad N A w' t.heap) A) 0 0 A := by
  refine Met.ofW (cc := b_Mem_fillRegion) (maxL := 6) (ret := none) (by decide) rfl ?_
  intro p e s m args below meth c s₁ B hml hv
  obtain ⟨rfl, hP, hK, hZ⟩ := hv
  have hx := B.exec
  have hb := B.bytes
  have hr := B.returns
  have hA : ∀ w ∈ cd_AW, w.before _ s = true := fun w h => atoms_spec (ws := w_Mem_fillRegion) B.pre w (List.mem_cons_of_mem _ h)
  have hown : s.vm.findClass R_Mem = some m.cls := findClass_of_methodNamed B.named
  have hlocks := B.notSynchronized
  have hS : va_S A s.heap s.heap [] := va_S.rf
  have hl := lv_entry ([.ref (ad q), .int k, .ref (ad q1), .int y, .int x]) (n := 6) (Nat.le_of_ble_eq_true rfl)
  rw [lg_entry_eq]
  generalize (lg_sl ([.ref (ad q), .int k, .ref (ad q1), .int y, .int x]) ++ List.replicate (6 - (lg_sl ([.ref (ad q), .int k, .ref (ad q1), .int y, .int x])).length) Slot.unset).toArray = ls at hl ⊢
  have hl : lv_has ls 6 [(0, .ref (ad q)), (1, .int k), (2, .ref (ad q1)), (3, .int y), (4, .int x)] := hl
  have ho : (o_Mem_indexOf u k) ∧ (¬ (f_Mem_indexOf u k) = (-1 : Int32) → vp_in (f_Mem_indexOf u k) 6) ∧ (¬ (f_Mem_indexOf u k) = (-1 : Int32) → o_Row_giveBytes n1 u1 1024 ((u.2.2 (u.2.1 (f_Mem_indexOf u k).toNatClampNeg)).2.2.2) y x) := ho
  obtain ⟨hn1, fa2, ⟨rf6, fa3, fa4⟩, fa5⟩ := hR0
  refine lv_aload_n hx hb d_Mem_fillRegion_0 rfl (lv_at hl 0 rfl) ?_
  refine lv_iload_n hx hb d_Mem_fillRegion_1 rfl (lv_at hl 1 rfl) ?_
  refine va_calli (va_runV (As := [.int k]) (rest := []) ⟨hx, hb, hml, hown, hA⟩ (c_Mem_indexOf l D tt ad N A zs w0 q u k (⟨hn1, fa2, ⟨rf6, fa3, fa4⟩, fa5⟩) (ho.1)) (cwV 1 hA (cd_gV aw_148 aw_149 aw_756 aw_2 aw_150) rfl rfl rfl ⟨rfl, by decide, by decide, by decide +kernel⟩ ⟨Nat.le_of_ble_eq_true rfl, Nat.le_of_ble_eq_true rfl⟩) ⟨cd_blind, cd_recv hK hP (k := q) (by omega) fa2 rfl, fun U hU hW => ⟨rfl, cd_pre hK hP hZ hS U hU hW⟩⟩ rfl rfl hl.1 rfl (lv_room (Nat.le_of_ble_eq_true rfl)) d_Mem_fillRegion_2 ⟨Nat.zero_le _, Nat.zero_le _⟩) hS (fun _ _ h => h) (fun _ h => h) (fun r7 w1 tE H locs ht hvm hr8 hP hz1 hk1 hS => ?_)
  have hP := cd_Pf ht hP
  obtain ⟨rfl, rfl⟩ := hr8
  refine lv_istore (lv' := [(5, .int (f_Mem_indexOf u k)), (0, .ref (ad q)), (1, .int k), (2, .ref (ad q1)), (3, .int y), (4, .int x)]) hx hb d_Mem_fillRegion_5 hl (by decide) rfl (fun ls hl => ?_)
  refine lv_iload hx hb d_Mem_fillRegion_7 (lv_at hl 0 rfl) ?_
  refine lv_iconst (v := (-1 : Int32)) hx hb d_Mem_fillRegion_9 (by decide) ?_
  refine lv_icmp_eq (tgt := 30) hx hb d_Mem_fillRegion_10 (by decide) (fun hc10 => ?_) (fun hc10 => ?_)
  · have hf11 : (f_Mem_fillRegion u n1 u1 k y x) = u := by rw [f_Mem_fillRegion, if_pos hc10]
    exact W.vret hx hb hr (fun tE ht _ => ⟨⟨w0, rfl, ⟨(by rw [hf11]; exact ⟨hn1, fa2, ⟨rf6, fa3, fa4⟩, fa5⟩), (fun _ _ => rfl)⟩, cd_Pt ht hP⟩, hS.F ht⟩) hS.2.2 d_Mem_fillRegion_30
  · refine lv_aload_n hx hb d_Mem_fillRegion_13 rfl (lv_at hl 3 rfl) ?_
    refine lv_iload_n hx hb d_Mem_fillRegion_14 rfl (lv_at hl 4 rfl) ?_
    refine lv_aload_n hx hb d_Mem_fillRegion_15 rfl (lv_at hl 1 rfl) ?_
    refine g_get (ci := 3) (C := R_Mem) (T := F_Mem) (Nf := 2) (v := .ref (ad (q + 1))) hx hb hA in_Mem hown hK hP (k := q) (by omega) fa2 rfl 0 (by decide) (hA _ aw_45) (fun _ h9 => h9) rfl d_Mem_fillRegion_16 ?_
    refine lv_iload hx hb d_Mem_fillRegion_19 (lv_at hl 0 rfl) ?_
    have hi12 := cd_in6 (ho.2.1 hc10)
    refine g_aald hx hb hK hP (k := (q + 1)) (by omega) fa3 rfl (ho.2.1 hc10) (fa4 _ hi12).2 d_Mem_fillRegion_21 ?_
    have hi13 := (fa4 _ hi12).1
    obtain ⟨hn14, fa15, fa16⟩ := (fa5 (u.2.1 (f_Mem_indexOf u k).toNatClampNeg) hi13)
    refine g_getN (ci := 1) (C := R_Reg) (T := F_Reg) (Nf := 4) (v := .ref (ad (((q + 2) + 2 * (u.2.1 (f_Mem_indexOf u k).toNatClampNeg)) + 1))) hx hb hA in_Reg hown hK hP (k := ((q + 2) + 2 * (u.2.1 (f_Mem_indexOf u k).toNatClampNeg))) (by omega) fa15 rfl 0 (by decide) (va_Nw.use rfl (nw_1 hZ.2.2.2.2.2.2)) (fun _ h9 => h9) rfl d_Mem_fillRegion_22 ?_
    refine lv_iload hx hb d_Mem_fillRegion_25 (lv_at hl 5 rfl) ?_
    obtain ⟨hn17, fa18, fa19⟩ := hR1
    refine va_callv (va_runV (As := [.int y, .ref (ad (((q + 2) + 2 * (u.2.1 (f_Mem_indexOf u k).toNatClampNeg)) + 1)), .int x]) (rest := []) ⟨hx, hb, hml, hown, hA⟩ (c_Row_giveBytes l D tt ad N A zs w0 q1 n1 u1 (((q + 2) + 2 * (u.2.1 (f_Mem_indexOf u k).toNatClampNeg)) + 1) 1024 ((u.2.2 (u.2.1 (f_Mem_indexOf u k).toNatClampNeg)).2.2.2) y x (⟨hn17, fa18, fa19⟩) (⟨by omega, fa16⟩) (by omega) (ho.2.2 hc10)) (cwV 3 hA (cd_gV aw_520 aw_521 aw_522 aw_5 aw_523) rfl rfl rfl ⟨rfl, by decide, by decide, by decide +kernel⟩ ⟨Nat.le_of_ble_eq_true rfl, Nat.le_of_ble_eq_true rfl⟩) ⟨cd_blind, cd_recv hK hP (k := q1) (by omega) fa18 rfl, fun U hU hW => ⟨rfl, cd_pre hK hP hZ hS U hU hW⟩⟩ rfl rfl hl.1 rfl (lv_room (Nat.le_of_ble_eq_true rfl)) d_Mem_fillRegion_27 ⟨Nat.zero_le _, Nat.zero_le _⟩) hS (fun _ _ h => h) (fun _ h => h) (fun w2 tE H locs ht hvm hr21 hP hz1 hk1 hS => ?_)
    have hP := cd_Pf ht hP
    obtain ⟨at23, e2⟩ := hr21
    have fa24 := at23.2
    have fa25 := (e2 q (by omega)).trans fa2
    have fa26 := (e2 (q + 1) (by omega)).trans fa3
    have fa27 := (e2 q1 (by omega)).trans fa18
    have fa28 := (e2 (q1 + 1) (by omega)).trans fa19
    have fa29 := (e2 ((q + 2) + 2 * (u.2.1 (f_Mem_indexOf u k).toNatClampNeg)) (by omega)).trans fa15
    have fa30 := cd_pool_put (r := ((u.2.2 (u.2.1 (f_Mem_indexOf u k).toNatClampNeg)).1, (u.2.2 (u.2.1 (f_Mem_indexOf u k).toNatClampNeg)).2.1, (u.2.2 (u.2.1 (f_Mem_indexOf u k).toNatClampNeg)).2.2.1, (f_Row_giveBytes n1 u1 1024 ((u.2.2 (u.2.1 (f_Mem_indexOf u k).toNatClampNeg)).2.2.2) y x))) fa5 hi13 (⟨hn14, fa29, fa24⟩) (fun k h1 => e2 k (by omega))
    have hf31 : (f_Mem_fillRegion u n1 u1 k y x) = (u.1, u.2.1, (va_up u.2.2 (u.2.1 (f_Mem_indexOf u k).toNatClampNeg) ((u.2.2 (u.2.1 (f_Mem_indexOf u k).toNatClampNeg)).1, (u.2.2 (u.2.1 (f_Mem_indexOf u k).toNatClampNeg)).2.1, (u.2.2 (u.2.1 (f_Mem_indexOf u k).toNatClampNeg)).2.2.1, (f_Row_giveBytes n1 u1 1024 ((u.2.2 (u.2.1 (f_Mem_indexOf u k).toNatClampNeg)).2.2.2) y x)))) := by rw [f_Mem_fillRegion, if_neg hc10]
    exact W.vret hx hb hr (fun tE ht _ => ⟨⟨w2, rfl, ⟨(by rw [hf31]; exact ⟨hn1, fa25, ⟨rf6, fa26, fa4⟩, fa30⟩), (fun k hk => (e2 k (by omega)))⟩, cd_Pt ht hP⟩, hS.F ht⟩) hS.2.2 d_Mem_fillRegion_30
def f_Mem_regionAt (u : cd_Mem) (k : Int32) : (Option Nat) := (if k < 0 then none else (if k < u.1 then (some (u.2.1 k.toNatClampNeg)) else none))
def o_Mem_regionAt (u : cd_Mem) (k : Int32) : Prop := (¬ k < 0 → k < u.1 → vp_in k 6)
set_option maxHeartbeats 4000000 in
set_option maxRecDepth 100000 in
theorem c_Mem_regionAt (l : Launch) (D : va_G) (tt : Nat → ClassId) (ad : Nat → Nat) (N : Nat) (A : Nat → Prop) (zs : Nat → Nat) (w0 : Nat → va_E) (q : Nat) (u : cd_Mem) (k : Int32) (hR0 : cd_MemAt N tt ad w0 q u) (ho : o_Mem_regionAt u k) : Met l y_Mem_regionAt w_Mem_regionAt ({ frames := 0, cells := 0, slots := 0, locals := 0 }) (va_Pc [.ref (ad q), .int k] (cd_U D tt ad N A zs w0)) (va_Qq (fun r w' => (f_Mem_regionAt u k).map (fun i => ad ((q + 2) + 2 * i)) = r ∧ w0 = w' ∧ (¬ (f_Mem_regionAt u k) = none → (f_Mem_regionAt u k).getD 0 < 6)) (fun w' t => cd_P D ad N A w' t.heap) A) 0 0 A := by
  refine Met.ofW (cc := b_Mem_regionAt) (maxL := 2) (ret := (some (.object "CoreDesk$Region"))) (by decide) rfl ?_
  intro p e s m args below meth c s₁ B hml hv
  obtain ⟨rfl, hP, hK, hZ⟩ := hv
  have hx := B.exec
  have hb := B.bytes
  have hr := B.returns
  have hA : ∀ w ∈ cd_AW, w.before _ s = true := fun w h => atoms_spec (ws := w_Mem_regionAt) B.pre w (List.mem_cons_of_mem _ h)
  have hown : s.vm.findClass R_Mem = some m.cls := findClass_of_methodNamed B.named
  have hlocks := B.notSynchronized
  have hS : va_S A s.heap s.heap [] := va_S.rf
  have hl := lv_entry ([.ref (ad q), .int k]) (n := 2) (Nat.le_of_ble_eq_true rfl)
  rw [lg_entry_eq]
  generalize (lg_sl ([.ref (ad q), .int k]) ++ List.replicate (2 - (lg_sl ([.ref (ad q), .int k])).length) Slot.unset).toArray = ls at hl ⊢
  have hl : lv_has ls 2 [(0, .ref (ad q)), (1, .int k)] := hl
  have ho : (¬ k < 0 → k < u.1 → vp_in k 6) := ho
  obtain ⟨hn1, fa2, ⟨rf6, fa3, fa4⟩, fa5⟩ := hR0
  refine lv_iload_n hx hb d_Mem_regionAt_0 rfl (lv_at hl 1 rfl) ?_
  refine lv_if_lt (tgt := 12) hx hb d_Mem_regionAt_1 (by decide) (fun hc7 => ?_) (fun hc7 => ?_)
  · refine lv_null hx hb d_Mem_regionAt_12 ?_
    refine lv_goto (tgt := 22) hx hb d_Mem_regionAt_13 (by decide) ?_
    have hf8 : (f_Mem_regionAt u k) = none := by rw [f_Mem_regionAt, if_pos hc7]
    exact W.aret (v := .null) hx hb hr (Or.inl ⟨_, rfl⟩) (Or.inl rfl) (fun tE ht _ => ⟨⟨none, w0, rfl, ⟨by rw [hf8]; rfl, rfl, fun h9 => absurd hf8 h9⟩, cd_Pt ht hP⟩, hS.F ht⟩) hS.2.2 d_Mem_regionAt_22
  · refine lv_iload_n hx hb d_Mem_regionAt_4 rfl (lv_at hl 1 rfl) ?_
    refine lv_aload_n hx hb d_Mem_regionAt_5 rfl (lv_at hl 0 rfl) ?_
    refine g_get (ci := 3) (C := R_Mem) (T := F_Mem) (Nf := 2) (v := .int u.1) hx hb hA in_Mem hown hK hP (k := q) (by omega) fa2 rfl 1 (by decide) (hA _ aw_46) (fun _ h9 => h9) rfl d_Mem_regionAt_6 ?_
    refine lv_icmp_lt (tgt := 16) hx hb d_Mem_regionAt_9 (by decide) (fun hc9 => ?_) (fun hc9 => ?_)
    · refine lv_aload_n hx hb d_Mem_regionAt_16 rfl (lv_at hl 0 rfl) ?_
      refine g_get (ci := 3) (C := R_Mem) (T := F_Mem) (Nf := 2) (v := .ref (ad (q + 1))) hx hb hA in_Mem hown hK hP (k := q) (by omega) fa2 rfl 0 (by decide) (hA _ aw_45) (fun _ h9 => h9) rfl d_Mem_regionAt_17 ?_
      refine lv_iload_n hx hb d_Mem_regionAt_20 rfl (lv_at hl 1 rfl) ?_
      have hi10 := cd_in6 (ho hc7 hc9)
      refine g_aald hx hb hK hP (k := (q + 1)) (by omega) fa3 rfl (ho hc7 hc9) (fa4 _ hi10).2 d_Mem_regionAt_21 ?_
      have hi11 := (fa4 _ hi10).1
      have hf12 : (f_Mem_regionAt u k) = (some (u.2.1 k.toNatClampNeg)) := by rw [f_Mem_regionAt, if_neg hc7, if_pos hc9]
      exact W.aret (v := .ref (ad ((q + 2) + 2 * (u.2.1 k.toNatClampNeg)))) hx hb hr (Or.inl ⟨_, rfl⟩) (Or.inr ⟨_, rfl⟩) (fun tE ht _ => ⟨⟨some (ad ((q + 2) + 2 * (u.2.1 k.toNatClampNeg))), w0, rfl, ⟨by rw [hf12]; rfl, rfl, fun _ => by rw [hf12]; exact hi11⟩, cd_Pt ht hP⟩, hS.F ht⟩) hS.2.2 d_Mem_regionAt_22
    · refine lv_null hx hb d_Mem_regionAt_12 ?_
      refine lv_goto (tgt := 22) hx hb d_Mem_regionAt_13 (by decide) ?_
      have hf13 : (f_Mem_regionAt u k) = none := by rw [f_Mem_regionAt, if_neg hc7, if_neg hc9]
      exact W.aret (v := .null) hx hb hr (Or.inl ⟨_, rfl⟩) (Or.inl rfl) (fun tE ht _ => ⟨⟨none, w0, rfl, ⟨by rw [hf13]; rfl, rfl, fun h9 => absurd hf13 h9⟩, cd_Pt ht hP⟩, hS.F ht⟩) hS.2.2 d_Mem_regionAt_22
def f_Mem_search_L2 (u : cd_Mem) (v : Int32) (x : Int32) : Nat → Int32 → Int32
  | 0, _ => default
  | gn + 1, i => (if u.1 ≤ i then (-1 : Int32) else (if (f_Reg_search (u.2.2 (u.2.1 i.toNatClampNeg)) v x) = (-1 : Int32) then (f_Mem_search_L2 u v x gn (i + (1 : Int32))) else (f_Reg_search (u.2.2 (u.2.1 i.toNatClampNeg)) v x)))
def f_Mem_search (u : cd_Mem) (v : Int32) (x : Int32) : Int32 := (f_Mem_search_L2 u v x 7 (0 : Int32))
def o_Mem_search_L2 (u : cd_Mem) (v : Int32) (x : Int32) : Nat → Int32 → Prop
  | 0, _ => False
  | gn + 1, i => (¬ u.1 ≤ i → vp_in i 6) ∧ (¬ u.1 ≤ i → o_Reg_search (u.2.2 (u.2.1 i.toNatClampNeg)) v x) ∧ (¬ u.1 ≤ i → (f_Reg_search (u.2.2 (u.2.1 i.toNatClampNeg)) v x) = (-1 : Int32) → o_Mem_search_L2 u v x gn (i + (1 : Int32)))
def o_Mem_search (u : cd_Mem) (v : Int32) (x : Int32) : Prop := (o_Mem_search_L2 u v x 7 (0 : Int32))
set_option maxHeartbeats 4000000 in
set_option maxRecDepth 100000 in
theorem c_Mem_search (l : Launch) (D : va_G) (tt : Nat → ClassId) (ad : Nat → Nat) (N : Nat) (A : Nat → Prop) (zs : Nat → Nat) (w0 : Nat → va_E) (q : Nat) (u : cd_Mem) (v : Int32) (x : Int32) (hR0 : cd_MemAt N tt ad w0 q u) (ho : o_Mem_search u v x) : Met l y_Mem_search w_Mem_search ({ frames := 3, cells := 0, slots := 0, locals := 66 }) (va_Pc [.ref (ad q), .int v, .int x] (cd_U D tt ad N A zs w0)) (va_Qi (fun r w' => (f_Mem_search u v x) = r ∧ w0 = w') (fun w' t => cd_P D ad N A w' t.heap) A) 0 0 A := by
  refine Met.ofW (cc := b_Mem_search) (maxL := 5) (ret := (some .int)) (by decide) rfl ?_
  intro p e s m args below meth c s₁ B hml hv
  obtain ⟨rfl, hP, hK, hZ⟩ := hv
  have hx := B.exec
  have hb := B.bytes
  have hr := B.returns
  have hA : ∀ w ∈ cd_AW, w.before _ s = true := fun w h => atoms_spec (ws := w_Mem_search) B.pre w (List.mem_cons_of_mem _ h)
  have hown : s.vm.findClass R_Mem = some m.cls := findClass_of_methodNamed B.named
  have hlocks := B.notSynchronized
  have L2 : ∀ (gn : Nat) (i : Int32) (H : Heap) (locs : List Loc) (ls : Array Slot), lv_has ls 5 [(0, .ref (ad q)), (1, .int v), (2, .int x), (3, .int i)] → (f_Mem_search u v x) = f_Mem_search_L2 u v x gn i → cd_MemAt N tt ad w0 q u → cd_P D ad N A w0 H → va_S A s.heap H locs → o_Mem_search_L2 u v x gn i → W p l e (headSpec w_Mem_search ({ frames := 3, cells := 0, slots := 0, locals := 66 })).room s m [.ref (ad q), .int v, .int x].toArray below meth c H locs 0 0 (MQ below (va_Qi (fun r w' => (f_Mem_search u v x) = r ∧ w0 = w') (fun w' t => cd_P D ad N A w' t.heap) A) [.ref (ad q), .int v, .int x].toArray s 0 0 A) (F0 m 2 ls []) := by
    intro gn
    induction gn with
    | zero => intro i H locs ls hl he hL0 hP hS ho; exact ho.elim
    | succ gn ih =>
      intro i H locs ls hl he hL0 hP hS ho
      have ho : (¬ u.1 ≤ i → vp_in i 6) ∧ (¬ u.1 ≤ i → o_Reg_search (u.2.2 (u.2.1 i.toNatClampNeg)) v x) ∧ (¬ u.1 ≤ i → (f_Reg_search (u.2.2 (u.2.1 i.toNatClampNeg)) v x) = (-1 : Int32) → o_Mem_search_L2 u v x gn (i + (1 : Int32))) := ho
      obtain ⟨hn1, fa2, ⟨rf6, fa3, fa4⟩, fa5⟩ := hL0
      refine lv_iload_n hx hb d_Mem_search_2 rfl (lv_at hl 3 rfl) ?_
      refine lv_aload_n hx hb d_Mem_search_3 rfl (lv_at hl 0 rfl) ?_
      refine g_get (ci := 3) (C := R_Mem) (T := F_Mem) (Nf := 2) (v := .int u.1) hx hb hA in_Mem hown hK hP (k := q) (by omega) fa2 rfl 1 (by decide) (hA _ aw_46) (fun _ h9 => h9) rfl d_Mem_search_4 ?_
      refine lv_icmp_ge (tgt := 38) hx hb d_Mem_search_7 (by decide) (fun hc7 => ?_) (fun hc7 => ?_)
      · refine lv_iconst (v := (-1 : Int32)) hx hb d_Mem_search_38 (by decide) ?_
        have hf8 : (f_Mem_search u v x) = (-1 : Int32) := by rw [he, f_Mem_search_L2, if_pos hc7]
        exact W.iret (v := (-1 : Int32)) hx hb hr (fun tE ht _ => ⟨⟨_, w0, rfl, ⟨hf8, rfl⟩, cd_Pt ht hP⟩, hS.F ht⟩) hS.2.2 d_Mem_search_39
      · refine lv_aload_n hx hb d_Mem_search_10 rfl (lv_at hl 0 rfl) ?_
        refine g_get (ci := 3) (C := R_Mem) (T := F_Mem) (Nf := 2) (v := .ref (ad (q + 1))) hx hb hA in_Mem hown hK hP (k := q) (by omega) fa2 rfl 0 (by decide) (hA _ aw_45) (fun _ h9 => h9) rfl d_Mem_search_11 ?_
        refine lv_iload_n hx hb d_Mem_search_14 rfl (lv_at hl 3 rfl) ?_
        have hi9 := cd_in6 (ho.1 hc7)
        refine g_aald hx hb hK hP (k := (q + 1)) (by omega) fa3 rfl (ho.1 hc7) (fa4 _ hi9).2 d_Mem_search_15 ?_
        have hi10 := (fa4 _ hi9).1
        refine lv_iload_n hx hb d_Mem_search_16 rfl (lv_at hl 1 rfl) ?_
        refine lv_iload_n hx hb d_Mem_search_17 rfl (lv_at hl 2 rfl) ?_
        obtain ⟨hn11, fa12, fa13⟩ := (fa5 (u.2.1 i.toNatClampNeg) hi10)
        refine va_calli (va_runV (As := [.int v, .int x]) (rest := []) ⟨hx, hb, hml, hown, hA⟩ (c_Reg_search l D tt ad N A zs w0 ((q + 2) + 2 * (u.2.1 i.toNatClampNeg)) (u.2.2 (u.2.1 i.toNatClampNeg)) v x (⟨hn11, fa12, fa13⟩) (ho.2.1 hc7)) (cwV 2 hA (cd_gV aw_362 aw_363 aw_364 aw_3 aw_365) rfl rfl rfl ⟨rfl, by decide, by decide, by decide +kernel⟩ ⟨Nat.le_of_ble_eq_true rfl, Nat.le_of_ble_eq_true rfl⟩) ⟨cd_blind, cd_recv hK hP (k := ((q + 2) + 2 * (u.2.1 i.toNatClampNeg))) (by omega) fa12 rfl, fun U hU hW => ⟨rfl, cd_pre hK hP hZ hS U hU hW⟩⟩ rfl rfl hl.1 rfl (lv_room (Nat.le_of_ble_eq_true rfl)) d_Mem_search_18 ⟨Nat.zero_le _, Nat.zero_le _⟩) hS (fun _ _ h => h) (fun _ h => h) (fun r14 w1 tE H locs ht hvm hr15 hP hz1 hk1 hS => ?_)
        have hP := cd_Pf ht hP
        obtain ⟨rfl, rfl⟩ := hr15
        refine lv_istore (lv' := [(4, .int (f_Reg_search (u.2.2 (u.2.1 i.toNatClampNeg)) v x)), (0, .ref (ad q)), (1, .int v), (2, .int x), (3, .int i)]) hx hb d_Mem_search_21 hl (by decide) rfl (fun ls hl => ?_)
        refine lv_iload hx hb d_Mem_search_23 (lv_at hl 0 rfl) ?_
        refine lv_iconst (v := (-1 : Int32)) hx hb d_Mem_search_25 (by decide) ?_
        refine lv_icmp_eq (tgt := 32) hx hb d_Mem_search_26 (by decide) (fun hc17 => ?_) (fun hc17 => ?_)
        · refine lv_iinc (k := 4) (v := (i + (1 : Int32))) (lv' := [(3, .int (i + (1 : Int32))), (4, .int (f_Reg_search (u.2.2 (u.2.1 i.toNatClampNeg)) v x)), (0, .ref (ad q)), (1, .int v), (2, .int x)]) hx hb d_Mem_search_32 hl rfl (cd_inc _ _ _ (by decide)) (by decide) rfl (fun ls hl => ?_)
          refine lv_goto (tgt := 2) hx hb d_Mem_search_35 (by decide) ?_
          exact ih (i + (1 : Int32)) H locs ls (lv_sub hl [2, 3, 4, 0] rfl) (show (f_Mem_search u v x) = f_Mem_search_L2 u v x gn (i + (1 : Int32)) by rw [he, f_Mem_search_L2, if_neg hc7, if_pos hc17]) (⟨hn1, fa2, ⟨rf6, fa3, fa4⟩, fa5⟩) hP hS (ho.2.2 hc7 hc17)
        · refine lv_iload hx hb d_Mem_search_29 (lv_at hl 0 rfl) ?_
          have hf18 : (f_Mem_search u v x) = (f_Reg_search (u.2.2 (u.2.1 i.toNatClampNeg)) v x) := by rw [he, f_Mem_search_L2, if_neg hc7, if_neg hc17]
          exact W.iret (v := (f_Reg_search (u.2.2 (u.2.1 i.toNatClampNeg)) v x)) hx hb hr (fun tE ht _ => ⟨⟨_, w0, rfl, ⟨hf18, rfl⟩, cd_Pt ht hP⟩, hS.F ht⟩) hS.2.2 d_Mem_search_31
  have hS : va_S A s.heap s.heap [] := va_S.rf
  have hl := lv_entry ([.ref (ad q), .int v, .int x]) (n := 5) (Nat.le_of_ble_eq_true rfl)
  rw [lg_entry_eq]
  generalize (lg_sl ([.ref (ad q), .int v, .int x]) ++ List.replicate (5 - (lg_sl ([.ref (ad q), .int v, .int x])).length) Slot.unset).toArray = ls at hl ⊢
  have hl : lv_has ls 5 [(0, .ref (ad q)), (1, .int v), (2, .int x)] := hl
  have ho : (o_Mem_search_L2 u v x 7 (0 : Int32)) := ho
  obtain ⟨hn19, fa20, ⟨rf24, fa21, fa22⟩, fa23⟩ := hR0
  refine lv_iconst (v := (0 : Int32)) hx hb d_Mem_search_0 (by decide) ?_
  refine lv_istore_n (lv' := [(3, .int (0 : Int32)), (0, .ref (ad q)), (1, .int v), (2, .int x)]) hx hb d_Mem_search_1 rfl hl (by decide) rfl (fun ls hl => ?_)
  exact L2 7 (0 : Int32) s.heap [] ls (lv_sub hl [1, 2, 3, 0] rfl) (show (f_Mem_search u v x) = f_Mem_search_L2 u v x 7 (0 : Int32) by rw [f_Mem_search]) (⟨hn19, fa20, ⟨rf24, fa21, fa22⟩, fa23⟩) hP hS (ho)
