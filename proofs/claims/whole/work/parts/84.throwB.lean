/-- a word that holds now, and in every later state that has kept what isn't in A -/
def tw_G (c : Cond) (A : Nat → Prop) (U : State) : Prop := ∀ (V : State) (a' : Array Value), U.WarmedH V.vm → (∀ q, q < U.heap.size → ¬ A q → V.heap[q]? = U.heap[q]?) → U.heap.size ≤ V.heap.size → c.before a' V = true
theorem tw_G.to {c : Cond} {A : Nat → Prop} {U V : State} (h : tw_G c A U) (hW : U.WarmedH V.vm) (hq : ∀ q, q < U.heap.size → ¬ A q → V.heap[q]? = U.heap[q]?) (hs : U.heap.size ≤ V.heap.size) : tw_G c A V := fun Z a' hW' hq' hs' => h Z a' (State.WarmedH.trans hW hW') (fun q h1 h2 => (hq' q (Nat.lt_of_lt_of_le h1 hs) h2).trans (hq q h1 h2)) (Nat.le_trans hs hs')
theorem tw_G.good {c : Cond} {A : Nat → Prop} {U : State} {a : Array Value} (h1 : (c.onTables && c.keepsFace) = true) (h : c.before a U = true) : tw_G c A U := by
  intro V a' hW _ _
  rw [Bool.and_eq_true] at h1
  have h2 := Cond.before_shiftedFace (State.Shifted.of_warmed hW) c h1.2 h
  rw [Cond.onTables_vm (A' := a') (U' := V) V.vm c h1.1, State.setVm_self] at h2
  exact h2
theorem tw_G.word {c : Cond} {A : Nat → Prop} {U : State} {a : Array Value} (h1 : (c.onTables && c.keeps) = true ∨ ∃ ty, c = .arrayClass ty) (h : c.before a U = true) : tw_G c A U := fun _ _ hW _ _ => word_at hW h1 h
theorem tw_isRef {A : Nat → Prop} {a' : Array Value} {U : State} {C n d : String} {t : Nat} (h : va_Z C n d (.ref t) A U U.heap) : (Cond.isRef (.static C n d)).before a' U = true := by
  obtain ⟨cf, kf, fi, f, a, cell, h1, h2, h3, h4, h5, h6, h7, h8⟩ := h
  simp [Cond.before, Cond.holds, Cond.value, Term.eval, State.fieldNamed?, h1, h2, h4, h5, h6, h7]
theorem tw_G.ref {A : Nat → Prop} {U : State} {C n d : String} {t : Nat} (h : va_Z C n d (.ref t) A U U.heap) : tw_G (.isRef (.static C n d)) A U := fun _ _ hW hq _ => tw_isRef ((h.kept hq).moved hW.alike)
theorem tw_G.lays {A : Nat → Prop} {U : State} {C n d : String} {a : Array Value} (h : (Cond.laysStatic C n d).before a U = true) (hA : ∀ q, q < U.heap.size → ¬ A q) : tw_G (.laysStatic C n d) A U := by
  intro V a' hW hq _
  obtain ⟨cc, k, i, f, b, cell, h1, h2, h3, h4, h5, h6, h7, h8, h9⟩ := Cond.laysStatic_spec h
  obtain ⟨k', hi', he⟩ := State.fieldFound?_setVm hW.alike h2
  have hb : b < U.heap.size := (Array.getElem?_eq_some_iff.mp h5).1
  have g1 : V.vm.findClass C = some cc := by rw [hW.alike.findClass]; exact h1
  have g5 : V.heap[b]? = some cell := by rw [hq b hb (hA b hb)]; exact h5
  have g2 : V.fieldFound? C n d = some (cc, k', i, f) := hi'
  have g4 : k'.statics = some b := by rw [he]; exact h4
  have g9 : k'.staticTypes[f.slot]? = some f.type := by rw [he]; exact h9
  simp [Cond.before, Cond.holds, Cond.value, g1, g2, h3, g4, g5, h6, h7, h8, g9]
section
variable {p : Program} {l : Launch} {e : Env} {R : Room} {s : State} {m : MethodId} {args : Array Value} {below : List Frame} {meth : Method} {c : Code} {H : Heap} {locs : List Loc} {cells slots : Nat} {Q : State → Prop} {cc : ByteArray} {pc : Nat} {ls : Array Slot} {A : Nat → Prop}
/-- 'throw new E()', with no trace taken: the method ends so; of what was there nothing has changed -/
theorem tw_throw (hx : p.tables.exec = Jvm.exec) (hb : c.code = cc) (htr : e.platform.stackTraces = false) {own E : String} {names : List String} {ic index : Nat} (hown : s.vm.findClass own = some m.cls) (hE : Bundle.fit E = true) (hn : ∀ n ∈ names, Bundle.fit n = true)
    (hw : ∀ a ∈ Bundle.ownAtoms0 own ic E names, tw_G a A s)
    (hcl : (Cond.classLink own index E).before args s = true) (hins : (Cond.instantiable E 6).before args s = true) (hini : (Cond.initialized E).before args s = true)
    (hS : va_S A s.heap H locs) (hsz : ls.size = c.maxLocals) (hout : c.exceptionTable.isEmpty = true) (hlocks : meth.locks = false)
    (d0 : decode cc pc = .ok (.new index, 3)) (d3 : decode cc (pc + 3) = .ok (.dup, 1)) (d4 : decode cc (pc + 4) = .ok (.invokespecial ic, 3)) (d7 : decode cc (pc + 7) = .ok (.athrow, 1))
    (hc : cells + 1 ≤ R.cells) (hs : slots + 6 ≤ R.slots) (hf : names.length + 3 < R.frames) (hl : 1 + (13 * (names.length + 1) + 41) ≤ R.locals)
    (hQ : ∀ (U : State) (a : Addr), U.status = .running → Ended U below (.threw a) → s.WarmedH U.vm → s.sameButNew ({ U with vm := s.vm } : State) locs (cells + 1) (slots + 6) → H.size ≤ U.heap.size → (∀ q, q < H.size → U.heap[q]? = H[q]?) → H.size ≤ a → (∃ ce : Cell, U.heap[a]? = some ce ∧ ce.vm = .none ∧ s.vm.findClass E = some ce.cls ∧ s.vm.assignable ce.cls ce.cls = true) → Q U) :
    W p l e R s m args below meth c H locs cells slots Q (F0 m pc ls []) := by
  intro T hT X
  have X' := tw_rebase X (R' := { frames := R.frames, locals := R.locals, cells := 1, slots := 6 }) (Nat.le_refl _) (Nat.le_refl _) hc hs
  have hW : s.WarmedH (T.setFrames (.invoking m args :: below)).vm := X.warmed
  have hvm := X.warmed.alike
  have hown' : (T.setFrames (.invoking m args :: below)).vm.findClass own = some m.cls := by
    show T.vm.findClass own = _
    rw [hvm.findClass]
    exact hown
  have hh' : (T.setFrames (.invoking m args :: below)).heap = H := hT
  have hat : ∀ a ∈ Bundle.ownAtoms0 own ic E names, a.before args (T.setFrames (.invoking m args :: below)) = true := fun a ha => hw a ha _ args hW (fun q h1 h2 => by rw [hh']; exact hS.2.1 q h1 h2) (by rw [hh']; exact hS.1)
  have K : W p l e { frames := R.frames, locals := R.locals, cells := 1, slots := 6 } (T.setFrames (.invoking m args :: below)) m args below meth c H [] 0 0 (fun U => ∃ a : Addr, U.status = .running ∧ Ended U below (.threw a) ∧ (T.setFrames (.invoking m args :: below)).WarmedH U.vm ∧ (T.setFrames (.invoking m args :: below)).sameButNew ({ U with vm := (T.setFrames (.invoking m args :: below)).vm } : State) [] 1 6 ∧ H.size ≤ a ∧ ∃ ce, U.heap[a]? = some ce ∧ Bundle.OwnCell args (T.setFrames (.invoking m args :: below)) E a .null ce) (F0 m pc ls []) := by
    refine W.newc hx hb (own := own) (C := E) (index := index) (n := 6) hown' (word_at hW (Or.inl (by first | rfl | simp [Cond.onTables, Cond.keeps, Cond.steady])) hcl) (word_at hW (Or.inl (by first | rfl | simp [Cond.onTables, Cond.keeps, Cond.steady])) hins) (word_at hW (Or.inl (by first | rfl | simp [Cond.onTables, Cond.keeps, Cond.steady])) hini) rfl d0 (Nat.le_refl _) (Nat.le_refl _) ?_
    intro cC kC f1 f2 f3 f4
    refine lv_dup hx hb d3 rfl ?_
    intro T2 hT2 X2
    obtain ⟨U, u1, u2, u3, u4, u5, ce, u6, u7⟩ := X2.ctorThrow0 hx htr hown' hE hn hat (fun x h => by cases h) f1 f2 (a := H.size) (by rw [hT2]; exact Array.getElem?_push_size) (by rw [hh']; exact Nat.le_refl _) (g := F0 m (pc + 4) ls [.ref H.size, .ref H.size]) rfl hsz rfl rfl (rest := []) rfl (by rw [hb]; exact d4) (by rw [hb]; exact d7) (fun x h => by
      have h9 : c.exceptionTable = #[] := Array.isEmpty_iff.mp hout
      rw [h9] at h
      cases h) hf (by
      show 2 * 0 + 1 + _ ≤ R.locals
      omega) hlocks
    exact ⟨U, u1, H.size, u2, u3, u4, u5, Nat.le_refl _, ce, u6, u7⟩
  obtain ⟨U, st, a, u1, u2, u3, u4, u5, ce, u6, u7⟩ := K T hT X'
  obtain ⟨b1, b2, b3, b4⟩ := tw_back X u3 u4
  rw [hT] at b3 b4
  have f1 : T.vm.findClass E = some ce.cls := u7.cls
  have f2 : T.vm.assignable ce.cls ce.cls = true := u7.self
  rw [hvm.findClass] at f1
  rw [hvm.assignable] at f2
  exact ⟨U, st, hQ U a u1 u2 b1 b2 b3 b4 u5 ⟨ce, u6, u7.vm, f1, f2⟩⟩
end
