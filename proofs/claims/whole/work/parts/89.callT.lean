section
variable {p : Program} {l : Launch} {e : Env} {R : Room} {s : State} {m : MethodId} {args : Array Value} {below : List Frame} {meth : Method} {c : Code} {H : Heap} {locs : List Loc} {cells slots : Nat} {Q : State → Prop}
variable {y : MethodName} {bytes cc : ByteArray} {maxL nL mc ms n index pc : Nat} {ret : Option FieldType} {ws : List Cond} {rm : Room} {Pc : Array Value → State → Prop} {Qc : Array Value → State → Addr → State → Prop} {free : Addr → Prop} {Ts : List Cond} {own C : String} {b : Addr} {As rest : List Value} {ls : Array Slot}
/-- a call that throws, caught by the caller -/
theorem tw_call (S : CallFix p m c cc nL s args Ts own) (hM : tw_Met l y ws rm Pc Qc mc ms free) (cw : CallW R s args own C index y bytes maxL ret ws rm mc ms n) (hp : PreV s H C b Pc As) (hn : As.length = n) (hsize : ls.size = nL) (hW : (rest.map fun v => v.category).sum ≤ 8) (hdg : decode cc pc = .ok (.invokevirtual index, 3)) (hf : cells + mc ≤ R.cells ∧ slots + ms ≤ R.slots)
    {x : ExceptionTableEntry} (htab : c.exceptionTable.toList = [x]) (hx : covers x pc = true) (h0 : x.catchType ≠ 0) {E : String} (hcl : (Cond.classLink own x.catchType E).before args s = true) (hE : ∀ a st z t, Qc a st z t → tw_E E st z t)
    (kk : ∀ (st t : State) (z : Addr) (L : List Loc), st.heap = H → s.WarmedH st.vm → s.WarmedH t.vm → Qc (Value.ref b :: As).toArray st z t → (∀ q ∈ L, free q.base) → W p l e R s m args below meth c t.heap (locs ++ L) (cells + mc) (slots + ms) Q (F0 m x.handlerPc ls [.ref z])) :
    W p l e R s m args below meth c H locs cells slots Q (F0 m pc ls (As.reverse ++ .ref b :: rest)) := by
  obtain ⟨⟨hrc, hrs, hfr, hlo, hws, hcw, hcode, hini, hy, hlen, hlink⟩, hinst, hsel⟩ := cw
  obtain ⟨hexec, hb, hml, hown, -⟩ := S
  obtain ⟨hblind, ⟨cellB, hcB, hobj, hcls⟩, hPc⟩ := hp
  intro T hT X
  obtain ⟨mk, methM, hnamed, hmethM, hstM, habM⟩ := Cond.instanceMethod_spec hinst
  obtain ⟨methM', cM, hmethM', hcM, -, hlM, -, -, -, hsigM⟩ := Cond.code_spec hnamed hcode
  cases hmethM.symm.trans hmethM'
  obtain ⟨c2, r2, m2, q1, q2, q3, q4, kP, hkP, hkPi⟩ := Cond.selects_spec hsel
  cases hcls.symm.trans q1
  cases (State.methodFound?_of_named hnamed hy).symm.trans q2
  cases hnamed.symm.trans q3
  have hselP : selectMethod e.platform s.vm cellB.cls mk = .method mk := by rw [Launch.admits_selectMethod X.admits]; exact q4
  have hinitP : kP.init = .initialized := Cond.initialized_spec (findClass_of_methodNamed hnamed) hkP hini
  obtain ⟨vm₁, X₁, hstep₁⟩ := X.invokevirtual hexec hown hlink hnamed hmethM hstM hkP hkPi hy (a := b) (cell := cellB) (by rw [hT]; exact hcB) (fun z h => by rw [h] at hobj; cases hobj) hselP hmethM habM hkP hkPi (g := F0 m pc ls (As.reverse ++ .ref b :: rest)) rfl (argsL := As) (rest := rest) (hn.trans (hlen _ hsigM)) rfl (by rw [hb]; exact hdg)
  have hdg' : decode c.code (F0 m pc ls rest).pc = .ok (.invokevirtual index, 3) := by rw [hb]; exact hdg
  obtain ⟨k₁, hk₁, he₁⟩ := X₁.warmed.alike.2.2 _ _ hkP
  have hmM : (T.setVm vm₁).vm.method? mk = some methM := by
    show vm₁.method? mk = _
    rw [show vm₁.method? mk = s.vm.method? mk from X₁.warmed.alike.method? mk]
    exact hmethM
  have happ : (headSpec ws rm).appliesLoose y e.platform ((T.setVm vm₁).calling (F0 m pc ls rest) mk (Value.ref b :: As).toArray) = true :=
    Spec.appliesLoose_calling (s := T.setVm vm₁) (g := F0 m pc ls rest) (S := headSpec ws rm) X₁.here hdg' (X₁.named hnamed) (k := k₁) hk₁ (by rw [he₁]; exact hinitP)
      (X₁.room_calling (g := F0 m pc ls rest) (R' := rm) (hsize.trans hml.symm) hmM hcM hfr (by
        show 2 * 0 + (rest.map fun v => v.category).sum + (cM.maxLocals + 11) + rm.locals ≤ R.locals
        rw [hlM]; omega) (by rw [hrc]; exact hf.1) (by rw [hrs]; exact hf.2)) (atoms_intro fun w hw => hws w hw _ _ X₁.warmed)
  have hfr' : ((T.setVm vm₁).setTop (F0 m pc ls rest)).frames = .java (F0 m pc ls rest) :: below := by rw [State.frames_setTop' _ X₁.here.top, X₁.tail]
  obtain ⟨o, s₂, hsteps, -, hend, z, rfl, hq, hW₂, L, hsame, hL⟩ := Steps.callFree hM p X.admits X.cas X.clock (acts := []) (mid := [.java (F0 m pc ls rest)]) (below := below) hfr' happ (hblind _ _ _ _ (hPc (T.setVm vm₁) hT X₁.warmed)) trivial
  rw [hfr'] at hend
  obtain ⟨T', X', hWT, hB, hs₂⟩ := X₁.outOfThrown (g := F0 m pc ls rest) rfl hend hW₂ hsame
  have hh' : T'.heap = s₂.heap := by
    rw [hs₂]
    exact (Stand.throwing_heap T' _ z).symm
  have hv' : T'.vm = s₂.vm := by
    rw [hs₂]
    exact (Stand.throwing_vm T' _ z).symm
  obtain ⟨ce, hce, hcv, hcf, hca⟩ := hE _ _ _ _ hq
  have hal : s.vm.Alike vm₁ := X₁.warmed.alike
  have hcf : vm₁.findClass E = some ce.cls := hcf
  have hca : vm₁.assignable ce.cls ce.cls = true := hca
  rw [hal.findClass] at hcf
  rw [hal.assignable] at hca
  obtain ⟨vm₂, hw₂, X₂, hst₂⟩ := tw_caught X' (g := F0 m pc ls rest) rfl htab hx h0 hown hcl (a := z) (cell := ce) (by rw [hh']; exact hce) hcv hcf hca
  obtain ⟨t, a1, a2⟩ := kk (((T.setVm vm₁).setTop (F0 m pc ls rest)).pushFrame (.invoking mk (Value.ref b :: As).toArray)) s₂ z L hT X₁.warmed (by rw [← hv']; exact X'.warmed) hq hL (T'.setVm vm₂) hh' X₂
  refine ⟨t, hstep₁ _ (fun acts => ?_), a2⟩
  rw [doInvoke_state]
  refine hsteps.trans ?_
  rw [hs₂]
  exact hst₂ t a1
end
