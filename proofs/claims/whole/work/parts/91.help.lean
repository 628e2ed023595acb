section
variable {p : Program} {l : Launch} {e : Env} {R : Room} {s : State} {m : MethodId} {args : Array Value} {below : List Frame} {meth : Method} {c : Code} {H : Heap} {locs : List Loc} {cells slots : Nat} {Q : State → Prop}
theorem g_last {cc : ByteArray} {pc : Nat} {ls : Array Slot} {rest : List Value} {D : va_G} {tt : Nat → ClassId} {ad : Nat → Nat} {N : Nat} {A : Nat → Prop} {w : Nat → va_E} {H0 : Heap} {k : Nat} (hx : p.tables.exec = Jvm.exec) (hb : c.code = cc) (hK : va_K D cd_cl (cd_T tt) s) (hP : cd_P D ad N A w H) (hS : va_S A H0 H locs) (hk : k < N) {n : Nat} {f : Nat → Int64} (he : w k = .inl (tt 2, n, .inr (.inl f))) {i : Int32} {x : Int64} (hin : vp_in i n) (hdg : decode cc pc = .ok (.lastore, 1))
    (kk : ∀ (H1 : Heap) (locs1 : List Loc) (w1 : Nat → va_E), w1 k = .inl (tt 2, n, .inr (.inl (vp_updL f i.toNatClampNeg x))) → (∀ i : Nat, i ≠ k → w1 i = w i) → cd_P D ad N A w1 H1 → va_S A H0 H1 locs1 → W p l e R s m args below meth c H1 locs1 cells slots Q (F0 m (pc + 1) ls rest)) : W p l e R s m args below meth c H locs cells slots Q (F0 m pc ls (.long x :: .int i :: .ref (ad k) :: rest)) :=
  va_last hx hb hK hP.1 hP.2 hS k 2 (cd_W_at hk he) rfl hin hdg (fun H1 locs1 h1 h2 h3 => kk H1 locs1 _ cd_up_s cd_up_n ⟨by rw [cd_W_set] at h1; exact h1, by rw [cd_W_set] at h2; exact h2⟩ h3)
theorem g_lald {cc : ByteArray} {pc : Nat} {ls : Array Slot} {rest : List Value} {D : va_G} {tt : Nat → ClassId} {ad : Nat → Nat} {N : Nat} {A : Nat → Prop} {w : Nat → va_E} {k : Nat} (hx : p.tables.exec = Jvm.exec) (hb : c.code = cc) (hK : va_K D cd_cl (cd_T tt) s) (hP : cd_P D ad N A w H) (hk : k < N) {n : Nat} {f : Nat → Int64} (he : w k = .inl (tt 2, n, .inr (.inl f))) {i : Int32} (hin : vp_in i n) (hdg : decode cc pc = .ok (.laload, 1))
    (kk : W p l e R s m args below meth c H locs cells slots Q (F0 m (pc + 1) ls (.long (f i.toNatClampNeg) :: rest))) : W p l e R s m args below meth c H locs cells slots Q (F0 m pc ls (.int i :: .ref (ad k) :: rest)) :=
  va_lald hx hb hK hP.1 k 2 (cd_W_at hk he) rfl hin hdg kk
/-- the handlers of a method that has one -/
theorem tw_tab {y : MethodName} {S : Spec} {cc : ByteArray} {maxL : Nat} {ret : Option FieldType} {s₁ : State} {k1 k2 k3 k4 : Nat} (B : BodyLoose p l y S cc maxL ret e s m args below meth c s₁) (h : (Cond.codeWith y cc maxL ret [(k1, k2, k3, k4)]).before args s = true) : ∃ x : ExceptionTableEntry, c.exceptionTable.toList = [x] ∧ x.startPc = k1 ∧ x.endPc = k2 ∧ x.handlerPc = k3 ∧ x.catchType = k4 := by
  obtain ⟨m9, meth9, c9, hn9, h1, h2, -, -, h5, -⟩ := Cond.codeWith_spec h
  cases B.named.symm.trans hn9
  cases B.method.symm.trans h1
  cases (Stand.of_body B).code.symm.trans h2
  generalize c.exceptionTable.toList = L at h5 ⊢
  cases L with
  | nil => simp at h5
  | cons x r =>
    cases r with
    | nil =>
      simp only [List.map_cons, List.map_nil, List.cons.injEq, Prod.mk.injEq, and_true] at h5
      exact ⟨x, rfl, h5⟩
    | cons _ _ => simp at h5
variable {y : MethodName} {bytes cc : ByteArray} {maxL nL mc ms n index : Nat} {ret : Option FieldType} {ws : List Cond} {rm : Room} {Pc : Array Value → State → Prop} {Qc : Array Value → State → Outcome → State → Prop} {free : Addr → Prop} {Ts : List Cond} {own : String} {As rest : List Value} {g : JFrame} {hh : List (Nat × Nat × Nat × Nat)}
/-- a static call of a method that has handlers -/
theorem tw_runS (S : CallFix p m c cc nL s args Ts own) (hM : Met l y ws rm Pc Qc mc ms free) (hrc : rm.cells = mc) (hrs : rm.slots = ms) (hfr : rm.frames + 1 ≤ R.frames) (hlo : 8 + (maxL + 11) + rm.locals ≤ R.locals) (hws : ∀ w ∈ ws, ∀ (a' : Array Value) (U : State), s.WarmedH U.vm → w.before a' U = true) (hcw : Cond.codeWith y bytes maxL ret hh ∈ ws) (hcode : (Cond.codeWith y bytes maxL ret hh).before args s = true) (hini : (Cond.initialized y.cls).before args s = true) (hy : y.cls ≠ "java/lang/invoke/MethodHandle" ∧ y.cls ≠ "java/lang/invoke/VarHandle") (hlen : (parseMethodDescriptor y.desc).map (fun d => d.parameters.length) = some n) (hlink : (Cond.methodLink own index y).before args s = true) (hstt : (Cond.static y).before args s = true) (hp : PreS s H Pc As)
    (hg : g.method = m) (hn : As.length = n) (hsize : g.locals.size = nL) (hstack : g.stack = As.reverse ++ rest) (hW : 2 * g.monitorRoom + (rest.map fun v => v.category).sum ≤ 8) (hdg : decode cc g.pc = .ok (.invokestatic index, 3)) (hf : cells + mc ≤ R.cells ∧ slots + ms ≤ R.slots) :
    va_Run p l e R s m args below meth c H locs cells slots mc ms g rest (Qc As.toArray) (free) := by
  have hK : Back l R p e below s args y 3 8 (PreOf R mc ms Pc) (PostOf Qc mc ms free) := va_backW (hh := hh) (bytes := bytes) (maxL := maxL) (ret := ret) hM hp.1 hrc hrs hfr hlo hws hcw (fun a' U hW => word_at hW (Or.inl (by first | rfl | simp [Cond.onTables, Cond.keeps, Cond.steady])) hini)
  obtain ⟨hx, hb, hml, ho, -⟩ := S
  intro T hT X
  obtain ⟨mk, methM, cM, hnamed, hmethM, -, -, -, -, -, -, hsigM⟩ := Cond.codeWith_spec hcode
  have hstatic : methM.isStatic = true := Cond.static_spec hnamed hmethM hstt
  obtain ⟨kP, hkP, -⟩ := className_of_methodNamed hnamed
  have hinitP : kP.init = .initialized := Cond.initialized_spec (findClass_of_methodNamed hnamed) hkP hini
  have hln : As.length = methM.sig.parameters.length := by
    rw [hsigM] at hlen
    exact hn.trans (Option.some.inj hlen).symm
  obtain ⟨vm₁, X₁, hstep₁⟩ := X.invokestatic hx ho hlink hnamed hmethM hstatic hkP hinitP hy (g := g) hg (argsL := As) (rest := rest) hln hstack (by rw [hb]; exact hdg)
  obtain ⟨v, ⟨U', l2, c2, s2⟩, X', ⟨g', mk', t, L, e1, e2, hq, h1, hL, h2, h3⟩, st⟩ := hK m meth c ⟨T.setVm vm₁, locs, cells, slots⟩ { g with stack := rest } (.invokestatic index) mk As.toArray X₁ hg (hsize.trans hml.symm) (by rw [hb]; exact hdg) hW (X₁.named hnamed) ⟨hf.1, hf.2, hp.2 (T.setVm vm₁) hT X₁.warmed⟩
  dsimp only [Pt.U, Pt.locs, Pt.cells, Pt.slots] at X' e1 e2 h1 h2 h3 st
  subst h1; subst h2; subst h3
  exact ⟨v, (T.setVm vm₁).calling g' mk' As.toArray, t, U', L, hT, X', hL, e1, e2, hq, fun target h => hstep₁ _ fun acts => by rw [doInvoke_state]; exact st.trans h⟩
end
theorem tw_blind {D : va_G} {tt : Nat → ClassId} {ad : Nat → Nat} {N : Nat} {A : Nat → Prop} {zs : Nat → Nat} {w : Nat → va_E} {av : List Value} : FrameBlind (va_Pc av (fun U => cd_U D tt ad N A zs w U ∧ tw_Y A U)) := by
  intro a U g mk h
  obtain ⟨h1, h2, h3⟩ := h
  exact ⟨h1, (cd_blind (av := av) a U g mk ⟨h1, h2⟩).2, h3.to (V := U.calling g mk a) (State.WarmedH.refl U) (fun _ _ _ => rfl) (Nat.le_refl _)⟩
theorem tw_pre {D : va_G} {tt : Nat → ClassId} {ad : Nat → Nat} {N : Nat} {A : Nat → Prop} {zs : Nat → Nat} {w : Nat → va_E} {s : State} {H : Heap} {locs : List Loc} (hK : va_K D cd_cl (cd_T tt) s) (hP : cd_P D ad N A w H) (hZ : cd_Z zs A s) (hY : tw_Y A s) (hS : va_S A s.heap H locs) : ∀ U : State, U.heap = H → s.WarmedH U.vm → cd_U D tt ad N A zs w U ∧ tw_Y A U := fun U hU hW => ⟨cd_pre hK hP hZ hS U hU hW, hY.to hW (fun q h1 h2 => by rw [hU]; exact hS.2.1 q h1 h2) (by rw [hU]; exact hS.1)⟩
def wv_load : List Cond := .codeWith y_Law_load b_Law_load 3 (some .int) [(0, 8, 11, 13)] :: cd_AW
def wv_register : List Cond := .codeWith y_Law_register b_Law_register 5 (some .int) [(0, 10, 13, 19)] :: cd_AW
/-- the law's own load, where the desk answers -/
theorem h_load (l : Launch) (D : va_G) (tt : Nat → ClassId) (ad : Nat → Nat) (N : Nat) (A : Nat → Prop) (zs : Nat → Nat) (w0 : Nat → va_E) (q qo : Nat) (u : cd_Has) (up : cd_Row) (uc uc' : cd_Tc) (uh uh' : cd_Tt) (vm vm' : cd_Mem) (vt vt' : cd_Tt) (f : Nat → Int64) (hR0 : cd_DeskAt N tt ad w0 q u) (hR1 : cd_RowAt N tt ad w0 (q + 21) 8192 up) (hR2 : cd_TcAt N tt ad w0 (q + 23) (q + 21) uc) (hR3 : cd_TtAt N tt ad w0 (q + 24) uh) (hR4 : cd_MemAt N tt ad w0 (q + 27) vm) (hR5 : cd_TtAt N tt ad w0 (q + 41) vt) (hqo : q + 44 ≤ qo) (hqN : qo + 1 ≤ N) (hR6 : w0 qo = .inl (tt 2, 1, .inr (.inl f))) (ho1 : o_Tc_passes (uc, uh) 8192 up) (hf1 : f_Tc_passes (uc, uh) 8192 up = (1, uc', uh')) (ho2 : o_Desk_takeCore (u, vm, vt) up uc' uh') (hf2 : f_Desk_takeCore (u, vm, vt) up uc' uh' = (1, vm', vt')) : Met l y_Law_load wv_load ({ frames := 7, cells := 0, slots := 0, locals := 160 }) (va_Pc [.ref (ad q), .ref (ad qo)] (cd_U D tt ad N A zs w0)) (va_Qi (fun r w' => (0 : Int32) = r ∧ cd_DeskAt N tt ad w' q 1 ∧ cd_TcAt N tt ad w' (q + 23) (q + 21) uc' ∧ cd_TtAt N tt ad w' (q + 24) uh' ∧ cd_MemAt N tt ad w' (q + 27) vm' ∧ cd_TtAt N tt ad w' (q + 41) vt' ∧ (∃ f', w' qo = .inl (tt 2, 1, .inr (.inl f')) ∧ f' 0 = (f_Mem_count vm').toInt64) ∧ ∀ k : Nat, (k < q ∨ q + 1 ≤ k) ∧ (k < q + 23 ∨ q + 44 ≤ k) ∧ k ≠ qo → w' k = w0 k) (fun w' t => cd_P D ad N A w' t.heap) A) 0 0 A := by
  refine va_MetW (cc := b_Law_load) (maxL := 3) (ret := (some .int)) (by decide) rfl ?_
  intro p e s m args below meth c s₁ B hml hv
  obtain ⟨rfl, hP, hK, hZ⟩ := hv
  have hx := B.exec
  have hb := B.bytes
  have hr := B.returns
  have hA : ∀ w ∈ cd_AW, w.before _ s = true := fun w h => atoms_spec (ws := wv_load) B.pre w (List.mem_cons_of_mem _ h)
  have hown : s.vm.findClass R_Law = some m.cls := findClass_of_methodNamed B.named
  have hlocks := B.notSynchronized
  have hS : va_S A s.heap s.heap [] := va_S.rf
  have hl := lv_entry ([.ref (ad q), .ref (ad qo)]) (n := 3) (Nat.le_of_ble_eq_true rfl)
  rw [lg_entry_eq]
  generalize (lg_sl ([.ref (ad q), .ref (ad qo)]) ++ List.replicate (3 - (lg_sl ([.ref (ad q), .ref (ad qo)])).length) Slot.unset).toArray = ls at hl ⊢
  have hl : lv_has ls 3 [(0, .ref (ad q)), (1, .ref (ad qo))] := hl
  obtain ⟨hn1, fa2⟩ := hR0
  refine lv_aload_n hx hb d_Law_load_0 rfl (lv_at hl 1 rfl) ?_
  refine lv_iconst (v := (0 : Int32)) hx hb d_Law_load_1 (by decide) ?_
  refine lv_aload_n hx hb d_Law_load_2 rfl (lv_at hl 0 rfl) ?_
  refine va_calli (va_runV (As := []) (rest := [.int 0, .ref (ad qo)]) ⟨hx, hb, hml, hown, hA⟩ (c_Desk_load l D tt ad N A zs w0 q u up uc uc' uh uh' vm vm' vt vt' ⟨hn1, fa2⟩ hR1 hR2 hR3 hR4 hR5 ho1 hf1 ho2 hf2) (cwV 0 hA (cd_gV aw_387 aw_388 aw_389 aw_1 aw_390) rfl rfl rfl ⟨rfl, by decide, by decide, by decide +kernel⟩ ⟨Nat.le_of_ble_eq_true rfl, Nat.le_of_ble_eq_true rfl⟩) ⟨cd_blind, cd_recv hK hP (k := q) (by omega) fa2 rfl, fun U hU hW => ⟨rfl, cd_pre hK hP hZ hS U hU hW⟩⟩ rfl rfl hl.1 rfl (lv_room (Nat.le_of_ble_eq_true rfl)) d_Law_load_3 ⟨Nat.zero_le _, Nat.zero_le _⟩) hS (fun _ _ h => h) (fun _ h => h) (fun r5 w1 tE H locs ht hvm hr6 hP hz1 hk1 hS => ?_)
  have hP := cd_Pf ht hP
  obtain ⟨rfl, at7, at8, at9, at10, at11, e1⟩ := hr6
  refine lv_i2l hx hb d_Law_load_6 rfl ?_
  refine g_last hx hb hK hP hS (k := qo) (by omega) ((e1 qo (by omega)).trans hR6) (vp_in_nI (n := 0) (by omega) (by omega)) d_Law_load_7 (fun H locs w2 fa12 e2 hP hS => ?_)
  refine lv_goto (tgt := 14) hx hb d_Law_load_8 (by decide) ?_
  refine lv_iconst (v := (0 : Int32)) hx hb d_Law_load_14 (by decide) ?_
  refine W.iret (v := (0 : Int32)) hx hb hr (fun tE ht _ => ⟨⟨_, w2, rfl, ⟨rfl, ⟨hn1, (e2 q (by omega)).trans at7.2⟩, cd_TcAt_keep at8 (fun k h1 h2 => e2 k (by omega)), cd_TtAt_keep at9 (fun k h1 h2 => e2 k (by omega)), cd_MemAt_keep at10 (fun k h1 h2 => e2 k (by omega)), cd_TtAt_keep at11 (fun k h1 h2 => e2 k (by omega)), ⟨_, fa12, ?_⟩, fun k hk => (e2 k (by omega)).trans (e1 k (by omega))⟩, cd_Pt ht hP⟩, hS.F ht⟩) hS.2.2 d_Law_load_15
  simp [vp_updL]
/-- the law's own load, where the desk throws -/
theorem h_load_no (l : Launch) (hfl : l.flags = pinnedFlags ++ [noTraceFlag]) (D : va_G) (tt : Nat → ClassId) (ad : Nat → Nat) (N : Nat) (A : Nat → Prop) (zs : Nat → Nat) (w0 : Nat → va_E) (q qo : Nat) (u : cd_Has) (up : cd_Row) (uc uc' : cd_Tc) (uh uh' : cd_Tt) (hR0 : cd_DeskAt N tt ad w0 q u) (hR1 : cd_RowAt N tt ad w0 (q + 21) 8192 up) (hR2 : cd_TcAt N tt ad w0 (q + 23) (q + 21) uc) (hR3 : cd_TtAt N tt ad w0 (q + 24) uh) (ho1 : o_Tc_passes (uc, uh) 8192 up) (hf1 : f_Tc_passes (uc, uh) 8192 up = (0, uc', uh')) : Met l y_Law_load wv_load ({ frames := 7, cells := 1, slots := 6, locals := 160 }) (va_Pc [.ref (ad q), .ref (ad qo)] (fun U => cd_U D tt ad N A zs w0 U ∧ tw_Y A U)) (va_Qi (fun r w' => (1 : Int32) = r ∧ cd_TcAt N tt ad w' (q + 23) (q + 21) uc' ∧ cd_TtAt N tt ad w' (q + 24) uh' ∧ ∀ k : Nat, (k < q + 23 ∨ q + 27 ≤ k) → w' k = w0 k) (fun w' t => cd_P D ad N A w' t.heap) A) 1 6 A := by
  refine va_MetW (cc := b_Law_load) (maxL := 3) (ret := (some .int)) (by decide) rfl ?_
  intro p e s m args below meth c s₁ B hml hv
  obtain ⟨rfl, ⟨hP, hK, hZ⟩, hY⟩ := hv
  have hx := B.exec
  have hb := B.bytes
  have hr := B.returns
  have hA : ∀ w ∈ cd_AW, w.before _ s = true := fun w h => atoms_spec (ws := wv_load) B.pre w (List.mem_cons_of_mem _ h)
  obtain ⟨x, hx1, hx2, hx3, hx4, hx5⟩ := tw_tab B (atoms_spec (ws := wv_load) B.pre _ List.mem_cons_self)
  have hown : s.vm.findClass R_Law = some m.cls := findClass_of_methodNamed B.named
  have hlocks := B.notSynchronized
  have hS : va_S A s.heap s.heap [] := va_S.rf
  have hl := lv_entry ([.ref (ad q), .ref (ad qo)]) (n := 3) (Nat.le_of_ble_eq_true rfl)
  rw [lg_entry_eq]
  generalize (lg_sl ([.ref (ad q), .ref (ad qo)]) ++ List.replicate (3 - (lg_sl ([.ref (ad q), .ref (ad qo)])).length) Slot.unset).toArray = ls at hl ⊢
  have hl : lv_has ls 3 [(0, .ref (ad q)), (1, .ref (ad qo))] := hl
  obtain ⟨hn1, fa2⟩ := hR0
  refine lv_aload_n hx hb d_Law_load_0 rfl (lv_at hl 1 rfl) ?_
  refine lv_iconst (v := (0 : Int32)) hx hb d_Law_load_1 (by decide) ?_
  refine lv_aload_n hx hb d_Law_load_2 rfl (lv_at hl 0 rfl) ?_
  refine tw_call (As := []) (rest := [.int 0, .ref (ad qo)]) (Ts := cd_AW) ⟨hx, hb, hml, hown, hA⟩ (t_Desk_load l hfl D tt ad N A zs w0 q u up uc uc' uh uh' ⟨hn1, fa2⟩ hR1 hR2 hR3 ho1 hf1) (cwV 0 hA (cd_gV aw_387 aw_388 aw_389 aw_1 aw_390) rfl rfl rfl ⟨rfl, by decide, by decide, by decide +kernel⟩ ⟨Nat.le_of_ble_eq_true rfl, Nat.le_of_ble_eq_true rfl⟩) ⟨tw_blind, cd_recv hK hP (k := q) (by omega) fa2 rfl, fun U hU hW => ⟨rfl, tw_pre hK hP hZ hY hS U hU hW⟩⟩ rfl hl.1 (Nat.le_of_ble_eq_true rfl) d_Law_load_3 ⟨Nat.le_of_ble_eq_true rfl, Nat.le_of_ble_eq_true rfl⟩ hx1 (by simp [hx2, hx3]) (by rw [hx5]; decide) (E := "java/lang/IllegalArgumentException") (by rw [hx5]; exact hA _ aw_386) (fun _ _ _ _ h => h.2.2) ?_
  intro st t z L hst hw1 hw2 hq hL
  obtain ⟨⟨w', at1, at2, e1, hP⟩, hF, -⟩ := hq
  rw [hx4]
  have hS : va_S A s.heap t.heap ([] ++ L) := by
    refine ⟨by rw [← hst]; exact hF.1, fun q h1 h2 => ?_, fun y hy => hL y (by simpa using hy)⟩
    rw [hF.2 q (by rw [hst]; exact h1) h2, hst]
  refine lv_astore_n (lv' := [(2, .ref z), (0, .ref (ad q)), (1, .ref (ad qo))]) hx hb d_Law_load_11 rfl hl (by decide) rfl (fun ls hl => ?_)
  refine lv_iconst (v := (1 : Int32)) hx hb d_Law_load_12 (by decide) ?_
  exact W.iret (v := (1 : Int32)) hx hb hr (fun tE ht _ => ⟨⟨_, w', rfl, ⟨rfl, at1, at2, e1⟩, cd_Pt ht hP⟩, hS.F ht⟩) hS.2.2 d_Law_load_13
/-- the law's own register, where the desk answers -/
theorem h_register (l : Launch) (D : va_G) (tt : Nat → ClassId) (ad : Nat → Nat) (N : Nat) (A : Nat → Prop) (zs : Nat → Nat) (w0 : Nat → va_E) (q qo : Nat) (u : cd_Has) (vt : cd_Tt) (k x : Int32) (f : Nat → Int64) (hR0 : cd_DeskAt N tt ad w0 q u) (hR1 : cd_TtAt N tt ad w0 (q + 41) vt) (hqo : q + 44 ≤ qo) (hqN : qo + 1 ≤ N) (hR6 : w0 qo = .inl (tt 2, 1, .inr (.inl f))) (h1 : f_Tt_has vt k = 1) (h2 : x = 8 ∨ (¬ x < 0 ∧ ¬ (8 : Int32) ≤ x)) (ho1 : o_Tt_id vt k) (ho2 : ¬ x = 8 → o_Tt_read vt k x) : Met l y_Law_register wv_register ({ frames := 7, cells := 0, slots := 0, locals := 160 }) (va_Pc [.ref (ad q), .int k, .int x, .ref (ad qo)] (cd_U D tt ad N A zs w0)) (va_Qi (fun r w' => (0 : Int32) = r ∧ (∃ f', w' qo = .inl (tt 2, 1, .inr (.inl f')) ∧ f' 0 = (if x = 8 then f_Tt_id vt k else f_Tt_read vt k x).toInt64) ∧ ∀ k : Nat, k ≠ qo → w' k = w0 k) (fun w' t => cd_P D ad N A w' t.heap) A) 0 0 A := by
  refine va_MetW (cc := b_Law_register) (maxL := 5) (ret := (some .int)) (by decide) rfl ?_
  intro p e s m args below meth c s₁ B hml hv
  obtain ⟨rfl, hP, hK, hZ⟩ := hv
  have hx := B.exec
  have hb := B.bytes
  have hr := B.returns
  have hA : ∀ w ∈ cd_AW, w.before _ s = true := fun w h => atoms_spec (ws := wv_register) B.pre w (List.mem_cons_of_mem _ h)
  have hown : s.vm.findClass R_Law = some m.cls := findClass_of_methodNamed B.named
  have hlocks := B.notSynchronized
  have hS : va_S A s.heap s.heap [] := va_S.rf
  have hl := lv_entry ([.ref (ad q), .int k, .int x, .ref (ad qo)]) (n := 5) (Nat.le_of_ble_eq_true rfl)
  rw [lg_entry_eq]
  generalize (lg_sl ([.ref (ad q), .int k, .int x, .ref (ad qo)]) ++ List.replicate (5 - (lg_sl ([.ref (ad q), .int k, .int x, .ref (ad qo)])).length) Slot.unset).toArray = ls at hl ⊢
  have hl : lv_has ls 5 [(0, .ref (ad q)), (1, .int k), (2, .int x), (3, .ref (ad qo))] := hl
  obtain ⟨hn1, fa2⟩ := hR0
  refine lv_aload_n hx hb d_Law_register_0 rfl (lv_at hl 3 rfl) ?_
  refine lv_iconst (v := (0 : Int32)) hx hb d_Law_register_1 (by decide) ?_
  refine lv_aload_n hx hb d_Law_register_2 rfl (lv_at hl 0 rfl) ?_
  refine lv_iload_n hx hb d_Law_register_3 rfl (lv_at hl 1 rfl) ?_
  refine lv_iload_n hx hb d_Law_register_4 rfl (lv_at hl 2 rfl) ?_
  refine va_calli (va_runV (As := [.int k, .int x]) (rest := [.int 0, .ref (ad qo)]) ⟨hx, hb, hml, hown, hA⟩ (c_Desk_register l D tt ad N A zs w0 q u vt k x ⟨hn1, fa2⟩ hR1 h1 h2 ho1 ho2) (cwV 2 hA (cd_gV aw_536 aw_537 aw_538 aw_1 aw_539) rfl rfl rfl ⟨rfl, by decide, by decide, by decide +kernel⟩ ⟨Nat.le_of_ble_eq_true rfl, Nat.le_of_ble_eq_true rfl⟩) ⟨cd_blind, cd_recv hK hP (k := q) (by omega) fa2 rfl, fun U hU hW => ⟨rfl, cd_pre hK hP hZ hS U hU hW⟩⟩ rfl rfl hl.1 rfl (lv_room (Nat.le_of_ble_eq_true rfl)) d_Law_register_5 ⟨Nat.zero_le _, Nat.zero_le _⟩) hS (fun _ _ h => h) (fun _ h => h) (fun r5 w1 tE H locs ht hvm hr6 hP hz1 hk1 hS => ?_)
  have hP := cd_Pf ht hP
  obtain ⟨rfl, rfl⟩ := hr6
  refine lv_i2l hx hb d_Law_register_8 rfl ?_
  refine g_last hx hb hK hP hS (k := qo) (by omega) hR6 (vp_in_nI (n := 0) (by omega) (by omega)) d_Law_register_9 (fun H locs w2 fa12 e2 hP hS => ?_)
  refine lv_goto (tgt := 17) hx hb d_Law_register_10 (by decide) ?_
  refine lv_iconst (v := (0 : Int32)) hx hb d_Law_register_17 (by decide) ?_
  refine W.iret (v := (0 : Int32)) hx hb hr (fun tE ht _ => ⟨⟨_, w2, rfl, ⟨rfl, ⟨_, fa12, ?_⟩, e2⟩, cd_Pt ht hP⟩, hS.F ht⟩) hS.2.2 d_Law_register_18
  simp [vp_updL]
/-- the law's own register, where the desk throws -/
theorem h_register_no (l : Launch) (hfl : l.flags = pinnedFlags ++ [noTraceFlag]) (D : va_G) (tt : Nat → ClassId) (ad : Nat → Nat) (N : Nat) (A : Nat → Prop) (zs : Nat → Nat) (w0 : Nat → va_E) (q qo : Nat) (u : cd_Has) (vt : cd_Tt) (k x : Int32) (hR0 : cd_DeskAt N tt ad w0 q u) (hR1 : cd_TtAt N tt ad w0 (q + 41) vt) (h1 : f_Tt_has vt k = 0 ∨ (¬ x = 8 ∧ (x < 0 ∨ (8 : Int32) ≤ x))) : Met l y_Law_register wv_register ({ frames := 7, cells := 1, slots := 6, locals := 162 }) (va_Pc [.ref (ad q), .int k, .int x, .ref (ad qo)] (fun U => cd_U D tt ad N A zs w0 U ∧ tw_Y A U)) (va_Qi (fun r w' => (1 : Int32) = r ∧ w0 = w') (fun w' t => cd_P D ad N A w' t.heap) A) 1 6 A := by
  refine va_MetW (cc := b_Law_register) (maxL := 5) (ret := (some .int)) (by decide) rfl ?_
  intro p e s m args below meth c s₁ B hml hv
  obtain ⟨rfl, ⟨hP, hK, hZ⟩, hY⟩ := hv
  have hx := B.exec
  have hb := B.bytes
  have hr := B.returns
  have hA : ∀ w ∈ cd_AW, w.before _ s = true := fun w h => atoms_spec (ws := wv_register) B.pre w (List.mem_cons_of_mem _ h)
  obtain ⟨xt, hx1, hx2, hx3, hx4, hx5⟩ := tw_tab B (atoms_spec (ws := wv_register) B.pre _ List.mem_cons_self)
  have hown : s.vm.findClass R_Law = some m.cls := findClass_of_methodNamed B.named
  have hlocks := B.notSynchronized
  have hS : va_S A s.heap s.heap [] := va_S.rf
  have hl := lv_entry ([.ref (ad q), .int k, .int x, .ref (ad qo)]) (n := 5) (Nat.le_of_ble_eq_true rfl)
  rw [lg_entry_eq]
  generalize (lg_sl ([.ref (ad q), .int k, .int x, .ref (ad qo)]) ++ List.replicate (5 - (lg_sl ([.ref (ad q), .int k, .int x, .ref (ad qo)])).length) Slot.unset).toArray = ls at hl ⊢
  have hl : lv_has ls 5 [(0, .ref (ad q)), (1, .int k), (2, .int x), (3, .ref (ad qo))] := hl
  obtain ⟨hn1, fa2⟩ := hR0
  refine lv_aload_n hx hb d_Law_register_0 rfl (lv_at hl 3 rfl) ?_
  refine lv_iconst (v := (0 : Int32)) hx hb d_Law_register_1 (by decide) ?_
  refine lv_aload_n hx hb d_Law_register_2 rfl (lv_at hl 0 rfl) ?_
  refine lv_iload_n hx hb d_Law_register_3 rfl (lv_at hl 1 rfl) ?_
  refine lv_iload_n hx hb d_Law_register_4 rfl (lv_at hl 2 rfl) ?_
  refine tw_call (As := [.int k, .int x]) (rest := [.int 0, .ref (ad qo)]) (Ts := cd_AW) ⟨hx, hb, hml, hown, hA⟩ (t_Desk_register l hfl D tt ad N A zs w0 q u vt k x ⟨hn1, fa2⟩ hR1 h1) (cwV 2 hA (cd_gV aw_536 aw_537 aw_538 aw_1 aw_539) rfl rfl rfl ⟨rfl, by decide, by decide, by decide +kernel⟩ ⟨Nat.le_of_ble_eq_true rfl, Nat.le_of_ble_eq_true rfl⟩) ⟨tw_blind, cd_recv hK hP (k := q) (by omega) fa2 rfl, fun U hU hW => ⟨rfl, tw_pre hK hP hZ hY hS U hU hW⟩⟩ rfl hl.1 (Nat.le_of_ble_eq_true rfl) d_Law_register_5 ⟨Nat.le_of_ble_eq_true rfl, Nat.le_of_ble_eq_true rfl⟩ hx1 (by simp [hx2, hx3]) (by rw [hx5]; decide) (E := "java/lang/IndexOutOfBoundsException") (by rw [hx5]; exact hA _ aw_535) (fun _ _ _ _ h => h.2.2) ?_
  intro st t z L hst hw1 hw2 hq hL
  obtain ⟨hP, hF, -⟩ := hq
  rw [hx4]
  have hS : va_S A s.heap t.heap ([] ++ L) := by
    refine ⟨by rw [← hst]; exact hF.1, fun q h1 h2 => ?_, fun y hy => hL y (by simpa using hy)⟩
    rw [hF.2 q (by rw [hst]; exact h1) h2, hst]
  refine lv_astore (lv' := [(4, .ref z), (0, .ref (ad q)), (1, .int k), (2, .int x), (3, .ref (ad qo))]) hx hb d_Law_register_13 hl (by decide) rfl (fun ls hl => ?_)
  refine lv_iconst (v := (1 : Int32)) hx hb d_Law_register_15 (by decide) ?_
  exact W.iret (v := (1 : Int32)) hx hb hr (fun tE ht _ => ⟨⟨_, w0, rfl, ⟨rfl, rfl⟩, cd_Pt ht hP⟩, hS.F ht⟩) hS.2.2 d_Law_register_16
