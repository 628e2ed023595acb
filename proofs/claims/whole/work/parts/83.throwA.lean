section
variable {p : Program} {l : Launch} {e : Env} {R : Room} {s : State} {m : MethodId} {args : Array Value} {below : List Frame} {meth : Method} {c : Code} {T : State} {locs : List Loc} {cells slots : Nat}
/-- the walk taken up afresh: the state itself as the invocation's start -/
theorem tw_rebase (X : Stand p l e R s m args below meth c T locs cells slots) {R' : Room} (h1 : R'.frames ≤ R.frames) (h2 : R'.locals ≤ R.locals) (h3 : cells + R'.cells ≤ R.cells) (h4 : slots + R'.slots ≤ R.slots) : Stand p l e R' (T.setFrames (.invoking m args :: below)) m args below meth c T [] 0 0 := by
  obtain ⟨g₀, hr⟩ := X.frames_eq
  obtain ⟨th, hth, -⟩ := State.frames_cons hr
  have hcur : T.cur < T.threads.size := (Array.getElem?_eq_some_iff.mp hth).1
  have hfr : (T.setFrames (.invoking m args :: below)).frames = .invoking m args :: below := State.frames_setFrames _ hcur
  have hm' : (T.setFrames (.invoking m args :: below)).vm.method? m = some meth := X.method'
  refine ⟨X.admits, X.cas, X.clock, hfr, ?_, ?_, hm', X.code, X.here, X.tail, State.WarmedH.refl _, (State.stackLimits_setFrames _ _ _).symm, (State.stackBytes_setFrames _ _).symm, ?_⟩
  · have hb := X.book
    have hh := X.heapSize
    have hu := X.used
    have hroom := X.room
    have hlim := X.limits
    have hby := X.bytes
    simp only [State.hasRoom, Bool.and_eq_true, decide_eq_true_eq] at hroom ⊢
    rw [State.localsInUse_invoking X.frames X.method X.code, X.frames] at hroom
    rw [State.localsInUse_invoking hfr hm' X.code, hfr, State.stackLimits_setFrames, State.stackBytes_setFrames, hlim, hby]
    obtain ⟨⟨⟨⟨r1, r2, r3, r4, r5, r6⟩, r7⟩, r8⟩, r9⟩ := hroom
    refine ⟨⟨⟨⟨by omega, by omega, by omega, by omega, by omega, r6⟩, ?_⟩, ?_⟩, hb⟩
    · show T.heap.size + R'.cells ≤ _
      omega
    · show T.slotsUsed + R'.slots ≤ _
      omega
  · have hh := X.hears
    have ha : ∀ q : MethodId, (T.setFrames (.invoking m args :: below)).code? q = s.code? q := fun q => by
      rw [State.code?_eq, State.code?_eq]
      show (T.vm.method? q).bind _ = _
      rw [X.warmed.alike.method?]
    have hb : (T.setFrames (.invoking m args :: below)).vm.method? m = s.vm.method? m := by
      show T.vm.method? m = _
      rw [X.warmed.alike.method?]
    unfold State.hears at hh ⊢
    rw [hb]
    simp only [ha]
    exact hh
  · have hth' : ∃ x, (T.setFrames (.invoking m args :: below)).threads[(T.setFrames (.invoking m args :: below)).cur]? = some x := by
      obtain ⟨x, hx, -⟩ := State.frames_cons hfr
      exact ⟨x, hx⟩
    obtain ⟨x, hx⟩ := hth'
    have h := (State.sameButNew.refl (T.setFrames (.invoking m args :: below)) hx).setFrames T.frames (Array.getElem?_eq_some_iff.mp hx).1
    rw [State.setFrames_setFrames, State.setFrames_self hth] at h
    exact h
/-- what the rest did, said of the whole -/
theorem tw_back (X : Stand p l e R s m args below meth c T locs cells slots) {U : State} {k n : Nat} (hW : (T.setFrames (.invoking m args :: below)).WarmedH U.vm) (h : (T.setFrames (.invoking m args :: below)).sameButNew ({ U with vm := (T.setFrames (.invoking m args :: below)).vm } : State) [] k n) : s.WarmedH U.vm ∧ s.sameButNew ({ U with vm := s.vm } : State) locs (cells + k) (slots + n) ∧ T.heap.size ≤ U.heap.size ∧ ∀ q, q < T.heap.size → U.heap[q]? = T.heap[q]? := by
  have hW' : T.WarmedH U.vm := hW
  have h0 : T.sameButNew ({ U with vm := T.vm } : State) [] k n := by
    obtain ⟨e1, e2, e3, e4, e5, e6⟩ := h
    refine ⟨?_, e2, e3, e4, e5, e6⟩
    have e1' : ({ U with vm := T.vm } : State) = { (T.setFrames (.invoking m args :: below)).setFrames U.frames with heap := U.heap, slotsUsed := U.slotsUsed } := e1
    rw [State.setFrames_setFrames] at e1'
    exact e1'
  refine ⟨State.WarmedH.trans X.warmed hW', ?_, h0.2.1, fun q hq => ?_⟩
  · have := X.same.trans (h0.setVm s.vm)
    rw [List.append_nil] at this
    exact this
  · obtain ⟨cell, hc⟩ : ∃ cell, T.heap[q]? = some cell := ⟨_, Array.getElem?_eq_getElem hq⟩
    rw [hc]
    exact h0.old_cell hc
end
