section
variable {p : Program} {l : Launch} {e : Env} {R : Room} {s : State} {m : MethodId} {args : Array Value} {below : List Frame} {meth : Method} {c : Code} {H : Heap} {locs : List Loc} {cells slots : Nat} {Q : State → Prop} {cc : ByteArray} {pc : Nat} {ls : Array Slot} {A : Nat → Prop}
theorem tw_isRef {a' : Array Value} {U : State} {C n d : String} {t : Nat} (h : va_Z C n d (.ref t) A U U.heap) : (Cond.isRef (.static C n d)).before a' U = true := by
  obtain ⟨cf, kf, fi, f, a, cell, h1, h2, h3, h4, h5, h6, h7, h8⟩ := h
  simp [Cond.before, Cond.holds, Cond.value, Term.eval, State.fieldNamed?, h1, h2, h4, h5, h6, h7]
/-- 'throw new E()', with no trace taken: the method ends so; of what was there nothing has changed -/
theorem tw_throw (hx : p.tables.exec = Jvm.exec) (hb : c.code = cc) (htr : e.platform.stackTraces = false) {own E : String} {names : List String} {ic index t1 t2 : Nat} (hown : s.vm.findClass own = some m.cls) (hE : Bundle.fit E = true) (hn : ∀ n ∈ names, Bundle.fit n = true)
    (hw : ∀ a ∈ Bundle.ownAtoms0 own ic E names, a = .isRef (.static Bundle.tN "UNASSIGNED_STACK" Bundle.steD) ∨ a = .isRef (.static Bundle.tN "SUPPRESSED_SENTINEL" Bundle.listD) ∨ ((a.onTables && a.keeps) = true ∧ a.before args s = true))
    (hcl : (Cond.classLink own index E).before args s = true) (hins : (Cond.instantiable E 6).before args s = true) (hini : (Cond.initialized E).before args s = true)
    (hu1 : va_Z Bundle.tN "UNASSIGNED_STACK" Bundle.steD (.ref t1) A s s.heap) (hu2 : va_Z Bundle.tN "SUPPRESSED_SENTINEL" Bundle.listD (.ref t2) A s s.heap) (hS : va_S A s.heap H locs) (hsz : ls.size = c.maxLocals) (hout : c.exceptionTable.isEmpty = true) (hlocks : meth.locks = false)
    (d0 : decode cc pc = .ok (.new index, 3)) (d3 : decode cc (pc + 3) = .ok (.dup, 1)) (d4 : decode cc (pc + 4) = .ok (.invokespecial ic, 3)) (d7 : decode cc (pc + 7) = .ok (.athrow, 1))
    (hc : cells + 1 ≤ R.cells) (hs : slots + 6 ≤ R.slots) (hf : names.length + 3 < R.frames) (hl : 1 + (13 * (names.length + 1) + 41) ≤ R.locals)
    (hQ : ∀ (U : State) (a : Addr), U.status = .running → Ended U below (.threw a) → s.WarmedH U.vm → s.sameButNew ({ U with vm := s.vm } : State) locs (cells + 1) (slots + 6) → H.size ≤ U.heap.size → (∀ q, q < H.size → U.heap[q]? = H[q]?) → H.size ≤ a → (∃ ce : Cell, U.heap[a]? = some ce ∧ ce.vm = .none ∧ s.vm.findClass E = some ce.cls ∧ s.vm.assignable ce.cls ce.cls = true) → Q U) :
    W p l e R s m args below meth c H locs cells slots Q (F0 m pc ls []) := by
  intro T hT X
  have X' := tw_rebase X (R' := { frames := R.frames, locals := R.locals, cells := 1, slots := 6 }) (Nat.le_refl _) (Nat.le_refl _) hc hs
  have hW : s.WarmedH (T.setFrames (.invoking m args :: below)).vm := X.warmed
  have hvm := X.warmed.alike
  have hown' : (T.setFrames (.invoking m args :: below)).vm.findClass own = some m.cls := by
    show T.vm.findClass own = _
    rw [hvm.findClass]
    exact hown
  have hh' : (T.setFrames (.invoking m args :: below)).heap = H := hT
  have z1 : va_Z Bundle.tN "UNASSIGNED_STACK" Bundle.steD (.ref t1) A (T.setFrames (.invoking m args :: below)) (T.setFrames (.invoking m args :: below)).heap := by
    rw [hh']
    exact (hu1.kept hS.2.1).moved hvm
  have z2 : va_Z Bundle.tN "SUPPRESSED_SENTINEL" Bundle.listD (.ref t2) A (T.setFrames (.invoking m args :: below)) (T.setFrames (.invoking m args :: below)).heap := by
    rw [hh']
    exact (hu2.kept hS.2.1).moved hvm
  have hat : ∀ a ∈ Bundle.ownAtoms0 own ic E names, a.before args (T.setFrames (.invoking m args :: below)) = true := by
    intro a ha
    rcases hw a ha with rfl | rfl | ⟨h1, h2⟩
    · exact tw_isRef z1
    · exact tw_isRef z2
    · exact word_at hW (Or.inl h1) h2
  have K : W p l e { frames := R.frames, locals := R.locals, cells := 1, slots := 6 } (T.setFrames (.invoking m args :: below)) m args below meth c H [] 0 0 (fun U => ∃ a : Addr, U.status = .running ∧ Ended U below (.threw a) ∧ (T.setFrames (.invoking m args :: below)).WarmedH U.vm ∧ (T.setFrames (.invoking m args :: below)).sameButNew ({ U with vm := (T.setFrames (.invoking m args :: below)).vm } : State) [] 1 6 ∧ H.size ≤ a ∧ ∃ ce, U.heap[a]? = some ce ∧ Bundle.OwnCell args (T.setFrames (.invoking m args :: below)) E a .null ce) (F0 m pc ls []) := by
    refine W.newc hx hb (own := own) (C := E) (index := index) (n := 6) hown' (word_at hW (Or.inl (by first | rfl | simp [Cond.onTables, Cond.keeps, Cond.steady])) hcl) (word_at hW (Or.inl (by first | rfl | simp [Cond.onTables, Cond.keeps, Cond.steady])) hins) (word_at hW (Or.inl (by first | rfl | simp [Cond.onTables, Cond.keeps, Cond.steady])) hini) rfl d0 (Nat.le_refl _) (Nat.le_refl _) ?_
    intro cC kC f1 f2 f3 f4
    refine lv_dup hx hb d3 rfl ?_
    intro T2 hT2 X2
    obtain ⟨U, u1, u2, u3, u4, u5, ce, u6, u7⟩ := X2.ctorThrow0 hx htr hown' hE hn hat (fun x h => by cases h) f1 f2 (a := H.size) (by rw [hT2]; exact Array.getElem?_push_size) (by rw [hh']; exact Nat.le_refl _) (g := F0 m (pc + 4) ls [.ref H.size, .ref H.size]) rfl hsz rfl rfl (rest := []) rfl (by rw [hb]; exact d4) (by rw [hb]; exact d7) (fun x h => by
      have h9 : c.exceptionTable = #[] := Array.isEmpty_iff.mp hout
      rw [h9] at h
      cases h) hf (by
      show 2 * 0 + 1 + _ ≤ R.locals
      omega) hlocks
    exact ⟨U, u1, H.size, u2, u3, u4, u5, Nat.le_refl _, ce, u6, u7⟩
  obtain ⟨U, st, a, u1, u2, u3, u4, u5, ce, u6, u7⟩ := K T hT X'
  obtain ⟨b1, b2, b3, b4⟩ := tw_back X u3 u4
  rw [hT] at b3 b4
  have f1 : T.vm.findClass E = some ce.cls := u7.cls
  have f2 : T.vm.assignable ce.cls ce.cls = true := u7.self
  rw [hvm.findClass] at f1
  rw [hvm.assignable] at f2
  exact ⟨U, st, hQ U a u1 u2 b1 b2 b3 b4 u5 ⟨ce, u6, u7.vm, f1, f2⟩⟩
end
