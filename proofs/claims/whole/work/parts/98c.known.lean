theorem tw_isRef0 {A : Nat → Prop} {a' : Array Value} {U : State} {C n d : String} (h : va_Z C n d .null A U U.heap) : (Cond.isRef (.static C n d)).before a' U = true := by
  obtain ⟨cf, kf, fi, f, a, cell, h1, h2, h3, h4, h5, h6, h7, h8⟩ := h
  simp [Cond.before, Cond.holds, Cond.value, Term.eval, State.fieldNamed?, h1, h2, h4, h5, h6, h7]
theorem tw_G.ref0 {A : Nat → Prop} {U : State} {C n d : String} (h : va_Z C n d .null A U U.heap) : tw_G (.isRef (.static C n d)) A U := fun _ _ hW hq _ => tw_isRef0 ((h.kept hq).moved hW.alike)
theorem tw_G.stat {A : Nat → Prop} {U : State} {C n d : String} {a : Array Value} (hl : (Cond.laysStatic C n d).before a U = true) (hini : (Cond.initialized C).before a U = true) (hr : (Cond.isRef (.static C n d)).before a U = true) (hA : ∀ q : Nat, q < U.heap.size → ¬ A q) : tw_G (.isRef (.static C n d)) A U := by
  cases hv : (Term.static C n d).eval a U none [] U with
  | none => simp [Cond.before, Cond.holds, Cond.value, hv] at hr
  | some w =>
    cases w with
    | ref t => exact tw_G.ref (va_Zof hl hini hv hA)
    | null => exact tw_G.ref0 (va_Zof hl hini hv hA)
    | _ => simp [Cond.before, Cond.holds, Cond.value, hv] at hr
theorem lw_arr {s : State} {args : Array Value} {ty : FieldType} (h : (Cond.arrayClass ty).before args s = true) : ∃ cA : ClassId, ArrOfT s cA ty ∧ s.vm.findClass ("[" ++ ty.toString) = some cA := by
  obtain ⟨cA, k, comp, h1, h2, h3⟩ := Cond.arrayClass_spec h
  exact ⟨cA, fun n z => ⟨(fun k h => by cases h), k, h2, comp, h3⟩, h1⟩
theorem lw_known {s : State} {args : Array Value} (hA : ∀ w ∈ cd_AW, w.before args s = true) (hov : (Cond.arrayOver (.object "CoreDesk$Region")).before args s = true) : ∃ (D : va_G) (tt : Nat → ClassId), va_K D cd_cl (cd_T tt) s := by
  obtain ⟨c0, i0, k0⟩ := u_known hA in_Row (hA _ aw_63)
  obtain ⟨c1, i1, k1⟩ := u_known hA in_Reg (hA _ aw_31)
  obtain ⟨c2, i2, k2⟩ := u_known hA in_Tt (hA _ aw_50)
  obtain ⟨c3, i3, k3⟩ := u_known hA in_Mem (hA _ aw_25)
  obtain ⟨c4, i4, k4⟩ := u_known hA in_Fw (hA _ aw_73)
  obtain ⟨c5, i5, k5⟩ := u_known hA in_Tc (hA _ aw_85)
  obtain ⟨c6, i6, k6⟩ := u_known hA in_Desk (hA _ aw_17)
  obtain ⟨c7, i7, k7⟩ := u_known hA in_Mo (hA _ aw_555)
  obtain ⟨a0, p0, q0⟩ := lw_arr (hA _ aw_44)
  obtain ⟨a1, p1, q1⟩ := lw_arr (hA _ aw_61)
  obtain ⟨a2, p2, q2⟩ := lw_arr (hA _ aw_755)
  obtain ⟨comp, a3, kA, f1, f2, f3, f4, f5⟩ := Cond.arrayOver_spec hov
  refine ⟨((fun c => match c with | 0 => c0 | 1 => c1 | 2 => c2 | 3 => c3 | 4 => c4 | 5 => c5 | 6 => c6 | _ => c7), (fun c => match c with | 0 => i0 | 1 => i1 | 2 => i2 | 3 => i3 | 4 => i4 | 5 => i5 | 6 => i6 | _ => i7)), (fun k => match k with | 0 => a0 | 1 => a1 | 2 => a2 | _ => a3), ?_, ?_⟩
  · intro c q h
    have hc : c < 8 := (List.getElem?_eq_some_iff.mp h).1
    have h8 : c = 0 ∨ c = 1 ∨ c = 2 ∨ c = 3 ∨ c = 4 ∨ c = 5 ∨ c = 6 ∨ c = 7 := by omega
    rcases h8 with rfl | rfl | rfl | rfl | rfl | rfl | rfl | rfl

    · cases h; exact k0
    · cases h; exact k1
    · cases h; exact k2
    · cases h; exact k3
    · cases h; exact k4
    · cases h; exact k5
    · cases h; exact k6
    · cases h; exact k7
  · intro k q h
    have hk : k < 4 := (List.getElem?_eq_some_iff.mp h).1
    have h4 : k = 0 ∨ k = 1 ∨ k = 2 ∨ k = 3 := by omega
    rcases h4 with rfl | rfl | rfl | rfl
    · cases h; exact ⟨p0, q0⟩
    · cases h; exact ⟨p1, q1⟩
    · cases h; exact ⟨p2, q2⟩
    · cases h; exact ⟨fun N z => ⟨(fun k h => by cases h), kA, f3, comp, f4⟩, kA, comp, f3, f4, f1, f5⟩
theorem lm_0 : ∀ j, j < 29 → Cond.eq (.elem (.static "CoreDesk" "HEADER_VALUES" "[I") (.int (Int32.ofNat j))) (.int (cd_hv j)) ∈ flatC (Jvm.Cond.and given_1 narrow_1) := by decide +kernel
theorem ll_0 : Cond.eq (.length (.static "CoreDesk" "HEADER_VALUES" "[I")) (.int (Int32.ofNat 29)) ∈ flatC (Jvm.Cond.and given_1 narrow_1) := by decide +kernel
theorem la_0 : Cond.arrayOf (.static "CoreDesk" "HEADER_VALUES" "[I") .int ∈ flatC (Jvm.Cond.and given_1 narrow_1) := by decide +kernel
theorem lm_1 : ∀ j, j < 29 → Cond.eq (.elem (.static "CoreDesk" "HEADER_WIDTHS" "[I") (.int (Int32.ofNat j))) (.int (cd_hw j)) ∈ flatC (Jvm.Cond.and given_1 narrow_1) := by decide +kernel
theorem ll_1 : Cond.eq (.length (.static "CoreDesk" "HEADER_WIDTHS" "[I")) (.int (Int32.ofNat 29)) ∈ flatC (Jvm.Cond.and given_1 narrow_1) := by decide +kernel
theorem la_1 : Cond.arrayOf (.static "CoreDesk" "HEADER_WIDTHS" "[I") .int ∈ flatC (Jvm.Cond.and given_1 narrow_1) := by decide +kernel
theorem lm_2 : ∀ j, j < 8 → Cond.eq (.elem (.static "CoreDesk" "NOTE_NAME" "[I") (.int (Int32.ofNat j))) (.int (cd_nn j)) ∈ flatC (Jvm.Cond.and given_1 narrow_1) := by decide +kernel
theorem ll_2 : Cond.eq (.length (.static "CoreDesk" "NOTE_NAME" "[I")) (.int (Int32.ofNat 8)) ∈ flatC (Jvm.Cond.and given_1 narrow_1) := by decide +kernel
theorem la_2 : Cond.arrayOf (.static "CoreDesk" "NOTE_NAME" "[I") .int ∈ flatC (Jvm.Cond.and given_1 narrow_1) := by decide +kernel
theorem le_0 : Cond.isRef (.static Bundle.tN "UNASSIGNED_STACK" Bundle.steD) ∈ flatC (Jvm.Cond.and given_1 narrow_1) := by decide +kernel
theorem le_1 : Cond.isRef (.static Bundle.tN "SUPPRESSED_SENTINEL" Bundle.listD) ∈ flatC (Jvm.Cond.and given_1 narrow_1) := by decide +kernel
theorem lw_nest {s : State} {args : Array Value} (hT : ∀ w ∈ lw_tbl, w.before args s = true) : cd_N s := by
  intro t ht
  unfold cd_nest at ht
  simp only [List.mem_cons, List.not_mem_nil, or_false] at ht
  rcases ht with rfl | rfl | rfl | rfl | rfl | rfl | rfl | rfl | rfl | rfl | rfl | rfl | rfl | rfl
  · exact va_Nw.of rfl (hT _ wt_n0)
  · exact va_Nw.of rfl (hT _ wt_n1)
  · exact va_Nw.of rfl (hT _ wt_n2)
  · exact va_Nw.of rfl (hT _ wt_n3)
  · exact va_Nw.of rfl (hT _ wt_n4)
  · exact va_Nw.of rfl (hT _ wt_n5)
  · exact va_Nw.of rfl (hT _ wt_n6)
  · exact va_Nw.of rfl (hT _ wt_n7)
  · exact va_Nw.of rfl (hT _ wt_n8)
  · exact va_Nw.of rfl (hT _ wt_n9)
  · exact va_Nw.of rfl (hT _ wt_n10)
  · exact va_Nw.of rfl (hT _ wt_n11)
  · exact va_Nw.of rfl (hT _ wt_n12)
  · exact va_Nw.of rfl (hT _ wt_n13)
theorem lw_statics {s : State} {args : Array Value} {A : Nat → Prop} (hT : ∀ w ∈ lw_tbl, w.before args s = true) (hn : ∀ c ∈ flatC (Jvm.Cond.and given_1 narrow_1), c.before args s = true) (hA : ∀ a : Nat, a < s.heap.size → ¬ A a) : ∃ zs, cd_Z zs A s := by
  obtain ⟨t0, e0, z0⟩ := va_Tof (tm := .static "CoreDesk" "HEADER_VALUES" "[I") (ty := .int) (N := 29) (f := fun j => .int (cd_hv j)) (A := A) (by omega) (hn _ la_0) (va_eqt (hn _ ll_0)) (fun j hj => va_eqt (hn _ (lm_0 j hj))) hA
  obtain ⟨t1, e1, z1⟩ := va_Tof (tm := .static "CoreDesk" "HEADER_WIDTHS" "[I") (ty := .int) (N := 29) (f := fun j => .int (cd_hw j)) (A := A) (by omega) (hn _ la_1) (va_eqt (hn _ ll_1)) (fun j hj => va_eqt (hn _ (lm_1 j hj))) hA
  obtain ⟨t2, e2, z2⟩ := va_Tof (tm := .static "CoreDesk" "NOTE_NAME" "[I") (ty := .int) (N := 8) (f := fun j => .int (cd_nn j)) (A := A) (by omega) (hn _ la_2) (va_eqt (hn _ ll_2)) (fun j hj => va_eqt (hn _ (lm_2 j hj))) hA
  exact ⟨(fun k => match k with | 0 => t0 | 1 => t1 | _ => t2), va_Zref (hT _ wt_s0) (hT _ (ct_all _ aw_1)) e0 hA, z0, va_Zref (hT _ wt_s1) (hT _ (ct_all _ aw_1)) e1 hA, z1, va_Zref (hT _ wt_s2) (hT _ (ct_all _ aw_1)) e2 hA, z2, lw_nest hT⟩
theorem lw_throws {s : State} {args : Array Value} {A : Nat → Prop} (hT : ∀ w ∈ lw_tbl, w.before args s = true) (hn : ∀ c ∈ flatC (Jvm.Cond.and given_1 narrow_1), c.before args s = true) (hA : ∀ a : Nat, a < s.heap.size → ¬ A a) : tw_Y A s := by
  intro c hc
  unfold tw_X at hc
  simp only [List.mem_cons, List.not_mem_nil, or_false] at hc
  rcases hc with rfl | rfl | rfl | rfl | rfl | rfl | rfl | rfl | rfl | rfl | rfl
  · exact tw_G.good rfl (hT _ wt_x0)
  · exact tw_G.good rfl (hT _ wt_x1)
  · exact tw_G.lays (hT _ wt_x2) hA
  · exact tw_G.lays (hT _ wt_x3) hA
  · exact tw_G.good rfl (hT _ wt_x4)
  · exact tw_G.good rfl (hT _ wt_x5)
  · exact tw_G.good rfl (hT _ wt_x6)
  · exact tw_G.good rfl (hT _ wt_x7)
  · exact tw_G.good rfl (hT _ wt_x8)
  · exact tw_G.stat (hT _ wt_x2) (hT _ (ct_all _ aw_11)) (hn _ le_0) hA
  · exact tw_G.stat (hT _ wt_x3) (hT _ (ct_all _ aw_11)) (hn _ le_1) hA
