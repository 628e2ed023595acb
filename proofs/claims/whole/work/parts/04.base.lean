def cd_T (tt : Nat → ClassId) : List (ClassId × FieldType) := [(tt 0, .byte), (tt 1, .int), (tt 2, .long), (tt 3, .object "CoreDesk$Region")]
def cd_hv (j : Nat) : Int32 := [127, 69, 76, 70, 1, 1, 1, 0, 0, 0, 0, 0, 0, 0, 0, 0, 4, 8, 1, 0, 52, 0, 0, 52, 32, 0, 0, 0, 0].getD j 0
def cd_hw (j : Nat) : Int32 := [1, 1, 1, 1, 1, 1, 1, 1, 1, 1, 1, 1, 1, 1, 1, 1, 2, 2, 4, 4, 4, 4, 4, 2, 2, 2, 2, 2, 2].getD j 0
def cd_nn (j : Nat) : Int32 := [67, 79, 82, 69, 0, 0, 0, 0].getD j 0
def cd_Z (zs : Nat → Nat) (A : Nat → Prop) (U : State) : Prop := va_Z "CoreDesk" "HEADER_VALUES" "[I" (.ref (zs 0)) A U U.heap ∧ va_T .int (zs 0) 29 (fun j => .int (cd_hv j)) A U U.heap ∧ va_Z "CoreDesk" "HEADER_WIDTHS" "[I" (.ref (zs 1)) A U U.heap ∧ va_T .int (zs 1) 29 (fun j => .int (cd_hw j)) A U U.heap ∧ va_Z "CoreDesk" "NOTE_NAME" "[I" (.ref (zs 2)) A U U.heap ∧ va_T .int (zs 2) 8 (fun j => .int (cd_nn j)) A U U.heap ∧ cd_N U
-- the world as a function of places: place k lies at the address (ad k) and holds (w k); places 0 .. N-1
def cd_W (ad : Nat → Nat) (N : Nat) (w : Nat → va_E) : va_W := (List.range N).map (fun k => (ad k, w k))
theorem cd_W_at {ad : Nat → Nat} {N : Nat} {w : Nat → va_E} {k : Nat} {e : va_E} (hk : k < N) (hc : w k = e) : (cd_W ad N w)[k]? = some (ad k, e) := by
  subst hc
  simp [cd_W, hk]
theorem cd_W_no {ad : Nat → Nat} {N : Nat} {w : Nat → va_E} {k : Nat} (hk : N ≤ k) : (cd_W ad N w)[k]? = none := by
  simp [cd_W, hk]
theorem cd_up_s {α : Type} {f : Nat → α} {k : Nat} {v : α} : va_up f k v k = v := by simp [va_up]
theorem cd_up_n {α : Type} {f : Nat → α} {k : Nat} {v : α} (i : Nat) (h : i ≠ k) : va_up f k v i = f i := by simp [va_up, h]
theorem cd_W_set {ad : Nat → Nat} {N : Nat} {w : Nat → va_E} {k : Nat} {e : va_E} : (cd_W ad N w).set k (ad k, e) = cd_W ad N (va_up w k e) := by
  apply List.ext_getElem?
  intro j
  by_cases hj : j < N
  · rw [cd_W_at hj rfl]
    by_cases h : k = j
    · subst h
      rw [List.getElem?_set_self (by simpa [cd_W] using hj), cd_up_s]
    · rw [List.getElem?_set_ne h, cd_W_at hj rfl, cd_up_n j (Ne.symm h)]
  · rw [cd_W_no (by omega), List.getElem?_eq_none (by simp [cd_W]; omega)]
def cd_P (D : va_G) (ad : Nat → Nat) (N : Nat) (A : Nat → Prop) (w : Nat → va_E) (H : Heap) : Prop := va_P D cd_cl (cd_W ad N w) H ∧ va_D A (cd_W ad N w)
def cd_U (D : va_G) (tt : Nat → ClassId) (ad : Nat → Nat) (N : Nat) (A : Nat → Prop) (zs : Nat → Nat) (w : Nat → va_E) (U : State) : Prop := cd_P D ad N A w U.heap ∧ va_K D cd_cl (cd_T tt) U ∧ cd_Z zs A U
theorem cd_Z_moved {zs : Nat → Nat} {A : Nat → Prop} {u U : State} (hvm : u.vm = U.vm) (hh : U.heap = u.heap) (h : cd_Z zs A u) : cd_Z zs A U := by
  obtain ⟨h1, h2, h3, h4, h5, h6, h7⟩ := h
  have ha : u.vm.Alike U.vm := by rw [hvm]; exact Vm.Alike.refl _
  unfold cd_Z
  rw [hh]
  exact ⟨h1.moved ha, h2.moved ha, h3.moved ha, h4.moved ha, h5.moved ha, h6.moved ha, fun t ht => va_Nw.same rfl hvm (h7 t ht)⟩
theorem cd_Z_to {zs : Nat → Nat} {A : Nat → Prop} {s U : State} {H : Heap} {locs : List Loc} (h : cd_Z zs A s) (hS : va_S A s.heap H locs) (hU : U.heap = H) (hW : s.WarmedH U.vm) : cd_Z zs A U := by
  obtain ⟨h1, h2, h3, h4, h5, h6, h7⟩ := h
  have hvm := hW.alike
  unfold cd_Z
  rw [hU]
  exact ⟨(h1.kept hS.2.1).moved hvm, (h2.kept hS.2.1).moved hvm, (h3.kept hS.2.1).moved hvm, (h4.kept hS.2.1).moved hvm, (h5.kept hS.2.1).moved hvm, (h6.kept hS.2.1).moved hvm, fun t ht => va_Nw.warmF hW (h7 t ht)⟩
theorem cd_blind {D : va_G} {tt : Nat → ClassId} {ad : Nat → Nat} {N : Nat} {A : Nat → Prop} {zs : Nat → Nat} {w : Nat → va_E} {av : List Value} : FrameBlind (va_Pc av (cd_U D tt ad N A zs w)) := by
  intro a U g mk h
  obtain ⟨h1, h2, h3, h4⟩ := h
  exact ⟨h1, h2, va_K.moved (u := U) (U := U.calling g mk a) (Vm.Alike.refl U.vm) h3, cd_Z_moved (u := U) (U := U.calling g mk a) rfl rfl h4⟩
theorem cd_inc (x v : Int32) (n : Int) (h : Int32.ofInt n = v) : x + Int32.ofInt n = x + v := by rw [h]
theorem cd_out0_7 {x : Int32} (h0 : ¬ x = (0 : Int32)) (h1 : ¬ x = (1 : Int32)) (h2 : ¬ x = (2 : Int32)) (h3 : ¬ x = (3 : Int32)) (h4 : ¬ x = (4 : Int32)) (h5 : ¬ x = (5 : Int32)) (h6 : ¬ x = (6 : Int32)) (h7 : ¬ x = (7 : Int32)) : x.toInt < 0 ∨ 7 < x.toInt := by
  have a0 : x.toInt ≠ 0 := fun e => h0 (Int32.toInt_inj.mp (e.trans (by decide)))
  have a1 : x.toInt ≠ 1 := fun e => h1 (Int32.toInt_inj.mp (e.trans (by decide)))
  have a2 : x.toInt ≠ 2 := fun e => h2 (Int32.toInt_inj.mp (e.trans (by decide)))
  have a3 : x.toInt ≠ 3 := fun e => h3 (Int32.toInt_inj.mp (e.trans (by decide)))
  have a4 : x.toInt ≠ 4 := fun e => h4 (Int32.toInt_inj.mp (e.trans (by decide)))
  have a5 : x.toInt ≠ 5 := fun e => h5 (Int32.toInt_inj.mp (e.trans (by decide)))
  have a6 : x.toInt ≠ 6 := fun e => h6 (Int32.toInt_inj.mp (e.trans (by decide)))
  have a7 : x.toInt ≠ 7 := fun e => h7 (Int32.toInt_inj.mp (e.trans (by decide)))
  omega
theorem cd_nb {r : Int32} (h : r = 0 ∨ r = 1) : narrow .boolean (.int r) = .int r := by
  rcases h with rfl | rfl <;> rfl
theorem cd_good {c0 : Cond} (h : c0 ∈ cd_AW) : ∀ w ∈ c0 :: cd_AW, w ∈ cd_AW ∧ ((w.onTables && w.keeps) = true ∨ ∃ ty, w = .arrayClass ty) := by
  intro w hw
  have hm : w ∈ cd_AW := by
    rcases List.mem_cons.mp hw with rfl | h2
    · exact h
    · exact h2
  exact ⟨hm, cd_AW_ok w hm⟩
theorem cd_gV {own C : String} {idx : Nat} {y : MethodName} {b : ByteArray} {n : Nat} {r : Option FieldType} (h1 : Cond.methodLink own idx y ∈ cd_AW) (h2 : Cond.instanceMethod y ∈ cd_AW) (h3 : Cond.selects C y y ∈ cd_AW) (h4 : Cond.initialized C ∈ cd_AW) (h5 : Cond.code y b n r ∈ cd_AW) : GoodIn cd_AW (wsV own idx C y (.code y b n r :: cd_AW)) := by
  intro w hw
  unfold wsV at hw
  rcases List.mem_append.mp hw with h | h
  · have hm : w ∈ cd_AW := by
      simp only [List.mem_cons, List.not_mem_nil, or_false] at h
      rcases h with rfl | rfl | rfl | rfl <;> assumption
    exact ⟨hm, cd_AW_ok w hm⟩
  · exact cd_good h5 w h
theorem cd_gS {own : String} {idx : Nat} {y : MethodName} {b : ByteArray} {n : Nat} {r : Option FieldType} (h1 : Cond.methodLink own idx y ∈ cd_AW) (h2 : Cond.static y ∈ cd_AW) (h3 : Cond.initialized own ∈ cd_AW) (h5 : Cond.code y b n r ∈ cd_AW) : GoodIn cd_AW (wsS own idx y (.code y b n r :: cd_AW)) := by
  intro w hw
  unfold wsS at hw
  rcases List.mem_append.mp hw with h | h
  · have hm : w ∈ cd_AW := by
      simp only [List.mem_cons, List.not_mem_nil, or_false] at h
      rcases h with rfl | rfl | rfl <;> assumption
    exact ⟨hm, cd_AW_ok w hm⟩
  · exact cd_good h5 w h
theorem cd_gSx {own : String} {idx : Nat} {y : MethodName} {b : ByteArray} {n : Nat} {r : Option FieldType} (h1 : Cond.methodLink own idx y ∈ cd_AW) (h2 : Cond.static y ∈ cd_AW) (h3 : Cond.initialized y.cls ∈ cd_AW) (h5 : Cond.code y b n r ∈ cd_AW) : GoodIn cd_AW (va_wsS own idx y (.code y b n r :: cd_AW)) := by
  intro w hw
  unfold va_wsS at hw
  rcases List.mem_append.mp hw with h | h
  · have hm : w ∈ cd_AW := by
      simp only [List.mem_cons, List.not_mem_nil, or_false] at h
      rcases h with rfl | rfl | rfl <;> assumption
    exact ⟨hm, cd_AW_ok w hm⟩
  · exact cd_good h5 w h
section CDG
variable {p : Program} {l : Launch} {e : Env} {R : Room} {s : State} {m : MethodId} {args : Array Value} {below : List Frame} {meth : Method} {c : Code} {H : Heap} {locs : List Loc} {cells slots : Nat} {Q : State → Prop}
variable {cc : ByteArray} {pc : Nat} {ls : Array Slot} {rest : List Value} {D : va_G} {tt : Nat → ClassId} {ad : Nat → Nat} {N : Nat} {A : Nat → Prop} {zs : Nat → Nat} {w : Nat → va_E} {H0 : Heap} {k : Nat}
theorem cd_pre (hK : va_K D cd_cl (cd_T tt) s) (hP : cd_P D ad N A w H) (hZ : cd_Z zs A s) (hS : va_S A s.heap H locs) : ∀ U : State, U.heap = H → s.WarmedH U.vm → cd_U D tt ad N A zs w U := fun U hU hW => ⟨by rw [hU]; exact hP, va_K.moved hW.alike hK, cd_Z_to hZ hS hU hW⟩
theorem cd_Pt {U : State} (ht : U.heap = H) (h : cd_P D ad N A w H) : cd_P D ad N A w U.heap := by rw [ht]; exact h
theorem cd_Pf {U : State} (ht : U.heap = H) (h : cd_P D ad N A w U.heap) : cd_P D ad N A w H := by rw [← ht]; exact h
theorem cd_recv {ci : Nat} {q : vw_C} {fs : List Value} (hK : va_K D cd_cl (cd_T tt) s) (hP : cd_P D ad N A w H) (hk : k < N) (he : w k = .inr (ci, fs)) (hc : cd_cl[ci]? = some q) : ∃ cell : Cell, H[ad k]? = some cell ∧ cell.vm.isStatics = false ∧ s.vm.findClass q.1 = some cell.cls := va_recv hK hP.1 hc (cd_W_at hk he)
theorem g_get (hx : p.tables.exec = Jvm.exec) (hb : c.code = cc) {own ref C : String} {T : u_T} {Nf ci index : Nat} {Ts : List Cond} (hts : ∀ w ∈ Ts, w.before args s = true) (hin : ∀ w ∈ u_ws C T Nf, w ∈ Ts) (hown : s.vm.findClass own = some m.cls) (hK : va_K D cd_cl (cd_T tt) s) (hP : cd_P D ad N A w H) (hk : k < N) {fs : List Value} (he : w k = .inr (ci, fs)) (hc : cd_cl[ci]? = some (C, T, Nf)) (j : Nat) (hj : j < Nf) (hlink : (Cond.fieldLink own index ref (T j).2.1 (T j).2.2.1).before args s = true) (hsame : ∀ x, s.fieldFound? (T j).1 (T j).2.1 (T j).2.2.1 = some x → s.fieldFound? ref (T j).2.1 (T j).2.2.1 = some x) {v : Value} (hv : fs[j]? = some v) (hdg : decode cc pc = .ok (.getfield index, 3))
    (kk : W p l e R s m args below meth c H locs cells slots Q (F0 m (pc + 3) ls (v :: rest))) : W p l e R s m args below meth c H locs cells slots Q (F0 m pc ls (.ref (ad k) :: rest)) :=
  va_get hx hb hts hin hown hK hP.1 k (cd_W_at hk he) hc j hj hlink hsame hv hdg kk
theorem g_getN (hx : p.tables.exec = Jvm.exec) (hb : c.code = cc) {own ref C host : String} {T : u_T} {Nf ci index : Nat} {Ts : List Cond} (hts : ∀ w ∈ Ts, w.before args s = true) (hin : ∀ w ∈ u_ws C T Nf, w ∈ Ts) (hown : s.vm.findClass own = some m.cls) (hK : va_K D cd_cl (cd_T tt) s) (hP : cd_P D ad N A w H) (hk : k < N) {fs : List Value} (he : w k = .inr (ci, fs)) (hc : cd_cl[ci]? = some (C, T, Nf)) (j : Nat) (hj : j < Nf) (hlink : (Cond.fieldLinkNest own index ref (T j).2.1 (T j).2.2.1 host).before args s = true) (hsame : ∀ x, s.fieldFound? (T j).1 (T j).2.1 (T j).2.2.1 = some x → s.fieldFound? ref (T j).2.1 (T j).2.2.1 = some x) {v : Value} (hv : fs[j]? = some v) (hdg : decode cc pc = .ok (.getfield index, 3))
    (kk : W p l e R s m args below meth c H locs cells slots Q (F0 m (pc + 3) ls (v :: rest))) : W p l e R s m args below meth c H locs cells slots Q (F0 m pc ls (.ref (ad k) :: rest)) :=
  va_getN hx hb hts hin hown hK hP.1 k (cd_W_at hk he) hc j hj hlink hsame hv hdg kk
theorem g_put (hx : p.tables.exec = Jvm.exec) (hb : c.code = cc) {own ref C : String} {T : u_T} {Nf ci index : Nat} {Ts : List Cond} (hts : ∀ w ∈ Ts, w.before args s = true) (hin : ∀ w ∈ u_ws C T Nf, w ∈ Ts) (ty0 : Nat → FieldType) (hty : ∀ k, k < Nf → parseFieldDescriptor (T k).2.2.1 = some (ty0 k)) (hnm : ∀ a, a < Nf → ∀ b, b < Nf → a ≠ b → (T a).2.1 ≠ (T b).2.1) (hown : s.vm.findClass own = some m.cls) (hK : va_K D cd_cl (cd_T tt) s) (hP : cd_P D ad N A w H) (hS : va_S A H0 H locs) (hk : k < N) {fs : List Value} (he : w k = .inr (ci, fs)) (hc : cd_cl[ci]? = some (C, T, Nf)) (j : Nat) (hj : j < Nf) (hlink : (Cond.fieldLink own index ref (T j).2.1 (T j).2.2.1).before args s = true) (hsame : ∀ x, s.fieldFound? (T j).1 (T j).2.1 (T j).2.2.1 = some x → s.fieldFound? ref (T j).2.1 (T j).2.2.1 = some x) (hfin : (T j).2.2.2 = false) {ty : FieldType} {v : Value} (hd : parseFieldDescriptor (T j).2.2.1 = some ty) (hn : narrow ty v = v) (hfit : fits ty v = true) (hl : j < fs.length) (hdg : decode cc pc = .ok (.putfield index, 3))
    (kk : ∀ (H1 : Heap) (locs1 : List Loc) (w1 : Nat → va_E), w1 k = .inr (ci, fs.set j v) → (∀ i : Nat, i ≠ k → w1 i = w i) → cd_P D ad N A w1 H1 → va_S A H0 H1 locs1 → W p l e R s m args below meth c H1 locs1 cells slots Q (F0 m (pc + 3) ls rest)) : W p l e R s m args below meth c H locs cells slots Q (F0 m pc ls (v :: .ref (ad k) :: rest)) :=
  va_put hx hb hts hin ty0 hty hnm hown hK hP.1 hP.2 hS k (cd_W_at hk he) hc j hj hlink hsame hfin hd hn hfit hl hdg (fun H1 locs1 h1 h2 h3 => kk H1 locs1 _ cd_up_s cd_up_n ⟨by rw [cd_W_set] at h1; exact h1, by rw [cd_W_set] at h2; exact h2⟩ h3)
theorem g_iald (hx : p.tables.exec = Jvm.exec) (hb : c.code = cc) (hK : va_K D cd_cl (cd_T tt) s) (hP : cd_P D ad N A w H) (hk : k < N) {cA : ClassId} {n : Nat} {f : Nat → Int32} (he : w k = .inl (cA, n, .inl f)) (ht : (cd_T tt)[1]? = some (cA, .int)) {i : Int32} (hin : vp_in i n) (hdg : decode cc pc = .ok (.iaload, 1))
    (kk : W p l e R s m args below meth c H locs cells slots Q (F0 m (pc + 1) ls (.int (f i.toNatClampNeg) :: rest))) : W p l e R s m args below meth c H locs cells slots Q (F0 m pc ls (.int i :: .ref (ad k) :: rest)) :=
  va_iald hx hb hK hP.1 k 1 (cd_W_at hk he) ht hin hdg kk
theorem g_bald (hx : p.tables.exec = Jvm.exec) (hb : c.code = cc) (hK : va_K D cd_cl (cd_T tt) s) (hP : cd_P D ad N A w H) (hk : k < N) {cA : ClassId} {n : Nat} {f : Nat → Int32} (he : w k = .inl (cA, n, .inl f)) (ht : (cd_T tt)[0]? = some (cA, .byte)) {i : Int32} (hin : vp_in i n) (hdg : decode cc pc = .ok (.baload, 1))
    (kk : W p l e R s m args below meth c H locs cells slots Q (F0 m (pc + 1) ls (.int (f i.toNatClampNeg) :: rest))) : W p l e R s m args below meth c H locs cells slots Q (F0 m pc ls (.int i :: .ref (ad k) :: rest)) :=
  va_bald hx hb hK hP.1 k 0 (cd_W_at hk he) ht hin hdg kk
theorem g_iast (hx : p.tables.exec = Jvm.exec) (hb : c.code = cc) (hK : va_K D cd_cl (cd_T tt) s) (hP : cd_P D ad N A w H) (hS : va_S A H0 H locs) (hk : k < N) {cA : ClassId} {n : Nat} {f : Nat → Int32} (he : w k = .inl (cA, n, .inl f)) (ht : (cd_T tt)[1]? = some (cA, .int)) {i x : Int32} (hin : vp_in i n) (hdg : decode cc pc = .ok (.iastore, 1))
    (kk : ∀ (H1 : Heap) (locs1 : List Loc) (w1 : Nat → va_E), w1 k = .inl (cA, n, .inl (upd f i.toNatClampNeg x)) → (∀ i : Nat, i ≠ k → w1 i = w i) → cd_P D ad N A w1 H1 → va_S A H0 H1 locs1 → W p l e R s m args below meth c H1 locs1 cells slots Q (F0 m (pc + 1) ls rest)) : W p l e R s m args below meth c H locs cells slots Q (F0 m pc ls (.int x :: .int i :: .ref (ad k) :: rest)) :=
  va_iast hx hb hK hP.1 hP.2 hS k 1 (cd_W_at hk he) ht hin hdg (fun H1 locs1 h1 h2 h3 => kk H1 locs1 _ cd_up_s cd_up_n ⟨by rw [cd_W_set] at h1; exact h1, by rw [cd_W_set] at h2; exact h2⟩ h3)
theorem g_bast (hx : p.tables.exec = Jvm.exec) (hb : c.code = cc) (hK : va_K D cd_cl (cd_T tt) s) (hP : cd_P D ad N A w H) (hS : va_S A H0 H locs) (hk : k < N) {cA : ClassId} {n : Nat} {f : Nat → Int32} (he : w k = .inl (cA, n, .inl f)) (ht : (cd_T tt)[0]? = some (cA, .byte)) {i x : Int32} (hin : vp_in i n) (hdg : decode cc pc = .ok (.bastore, 1))
    (kk : ∀ (H1 : Heap) (locs1 : List Loc) (w1 : Nat → va_E), w1 k = .inl (cA, n, .inl (upd f i.toNatClampNeg (vp_nar .byte x))) → (∀ i : Nat, i ≠ k → w1 i = w i) → cd_P D ad N A w1 H1 → va_S A H0 H1 locs1 → W p l e R s m args below meth c H1 locs1 cells slots Q (F0 m (pc + 1) ls rest)) : W p l e R s m args below meth c H locs cells slots Q (F0 m pc ls (.int x :: .int i :: .ref (ad k) :: rest)) :=
  va_bast hx hb hK hP.1 hP.2 hS k 0 (cd_W_at hk he) ht hin hdg (fun H1 locs1 h1 h2 h3 => kk H1 locs1 _ cd_up_s cd_up_n ⟨by rw [cd_W_set] at h1; exact h1, by rw [cd_W_set] at h2; exact h2⟩ h3)
theorem g_alen (hx : p.tables.exec = Jvm.exec) (hb : c.code = cc) (hK : va_K D cd_cl (cd_T tt) s) (hP : cd_P D ad N A w H) (hk : k < N) {cA : ClassId} {x : vp_A} (he : w k = .inl (cA, x)) {t0 : Nat} {ty : FieldType} (ht : (cd_T tt)[t0]? = some (cA, ty)) {v : Int32} (hv : Int32.ofNat x.1 = v) (hdg : decode cc pc = .ok (.arraylength, 1))
    (kk : W p l e R s m args below meth c H locs cells slots Q (F0 m (pc + 1) ls (.int v :: rest))) : W p l e R s m args below meth c H locs cells slots Q (F0 m pc ls (.ref (ad k) :: rest)) :=
  va_alen hx hb hK hP.1 k t0 (cd_W_at hk he) ht hv hdg kk
theorem g_copyi (hx : p.tables.exec = Jvm.exec) (hb : c.code = cc) (hml : c.maxLocals = ls.size) {own : String} {index : Nat} (hown : s.vm.findClass own = some m.cls) (hlink : (Cond.methodLink own index arraycopyName).before args s = true) (hnat : (Cond.native arraycopyName).before args s = true) (hstat : (Cond.static arraycopyName).before args s = true) (hini : (Cond.initialized "java/lang/System").before args s = true) (hK : va_K D cd_cl (cd_T tt) s) (hP : cd_P D ad N A w H) (hS : va_S A H0 H locs) {k0 k1 : Nat} (hk0 : k0 < N) (hk1 : k1 < N) {c0 c1 : ClassId} {n0 n1 t0 t1 : Nat} {f g : Nat → Int32} {ty : FieldType} (he0 : w k0 = .inl (c0, n0, .inl f)) (he1 : w k1 = .inl (c1, n1, .inl g)) (ht0 : (cd_T tt)[t0]? = some (c0, ty)) (ht1 : (cd_T tt)[t1]? = some (c1, ty)) (hprim : refKind ty = false)
    {sp dp n : Int32} (h1 : ¬ sp < 0) (h2 : ¬ dp < 0) (h3 : ¬ n < 0) (h4 : sp.toNatClampNeg + n.toNatClampNeg ≤ n0) (h5 : dp.toNatClampNeg + n.toNatClampNeg ≤ n1) (hfit : ∀ i, i < n.toNatClampNeg → fits ty (.int (f (sp.toNatClampNeg + i))) = true)
    (hframes : 1 ≤ R.frames) (hlocals : (rest.map fun v => v.category).sum + (nativeFrameWords "java/lang/System" "arraycopy" 5 + 11) ≤ R.locals) (hdg : decode cc pc = .ok (.invokestatic index, 3))
    (kk : ∀ (H1 : Heap) (locs1 : List Loc) (w1 : Nat → va_E), w1 k1 = .inl (c1, n1, .inl (va_cpy f g sp.toNatClampNeg dp.toNatClampNeg n.toNatClampNeg)) → (∀ i : Nat, i ≠ k1 → w1 i = w i) → cd_P D ad N A w1 H1 → va_S A H0 H1 locs1 → W p l e R s m args below meth c H1 locs1 cells slots Q (F0 m (pc + 3) ls rest)) : W p l e R s m args below meth c H locs cells slots Q (F0 m pc ls (.int n :: .int dp :: .ref (ad k1) :: .int sp :: .ref (ad k0) :: rest)) :=
  va_copyi hx hb hml hown hlink hnat hstat hini hK hP.1 hP.2 hS k0 k1 t0 t1 (cd_W_at hk0 he0) (cd_W_at hk1 he1) ht0 ht1 hprim h1 h2 h3 h4 h5 hfit hframes hlocals hdg (fun H1 locs1 h1 h2 h3 => kk H1 locs1 _ cd_up_s cd_up_n ⟨by rw [cd_W_set] at h1; exact h1, by rw [cd_W_set] at h2; exact h2⟩ h3)
theorem g_aald (hx : p.tables.exec = Jvm.exec) (hb : c.code = cc) (hK : va_K D cd_cl (cd_T tt) s) (hP : cd_P D ad N A w H) (hk : k < N) {cA : ClassId} {n : Nat} {f : Nat → Option Nat} (he : w k = .inl (cA, n, .inr (.inr (.inr (.inr f))))) (ht : (cd_T tt)[3]? = some (cA, .object "CoreDesk$Region")) {i : Int32} (hin : vp_in i n) {a : Nat} (ha : f i.toNatClampNeg = some a) (hdg : decode cc pc = .ok (.aaload, 1))
    (kk : W p l e R s m args below meth c H locs cells slots Q (F0 m (pc + 1) ls (.ref a :: rest))) : W p l e R s m args below meth c H locs cells slots Q (F0 m pc ls (.int i :: .ref (ad k) :: rest)) :=
  va_aldq hx hb hK hP.1 k 3 (cd_W_at hk he) ht hin hdg (by rw [ha]; exact kk)
theorem g_aast (hx : p.tables.exec = Jvm.exec) (hb : c.code = cc) (hK : va_K D cd_cl (cd_T tt) s) (hP : cd_P D ad N A w H) (hS : va_S A H0 H locs) {kv ci : Nat} (hk : k < N) (hkv : kv < N) {cA : ClassId} {n : Nat} {r : vw_C} {vs : List Value} {f : Nat → Option Nat} (he : w k = .inl (cA, n, .inr (.inr (.inr (.inr f))))) (hv : w kv = .inr (ci, vs)) (hc : cd_cl[ci]? = some r) (ht : (cd_T tt)[3]? = some (cA, .object r.1)) {i : Int32} (hin : vp_in i n) (hdg : decode cc pc = .ok (.aastore, 1))
    (kk : ∀ (H1 : Heap) (locs1 : List Loc) (w1 : Nat → va_E), w1 k = .inl (cA, n, .inr (.inr (.inr (.inr (va_up f i.toNatClampNeg (some (ad kv))))))) → (∀ i : Nat, i ≠ k → w1 i = w i) → cd_P D ad N A w1 H1 → va_S A H0 H1 locs1 → W p l e R s m args below meth c H1 locs1 cells slots Q (F0 m (pc + 1) ls rest)) : W p l e R s m args below meth c H locs cells slots Q (F0 m pc ls (.ref (ad kv) :: .int i :: .ref (ad k) :: rest)) :=
  va_astq hx hb hK hP.1 hP.2 hS k 3 kv ci (cd_W_at hk he) ht (cd_W_at hkv hv) hc hin hdg (fun H1 locs1 h1 h2 h3 => kk H1 locs1 _ cd_up_s cd_up_n ⟨by rw [cd_W_set] at h1; exact h1, by rw [cd_W_set] at h2; exact h2⟩ h3)
theorem g_optN {r : Option Nat} {fn : Nat → Nat} (h : r = none) (k : W p l e R s m args below meth c H locs cells slots Q (F0 m pc ls (.null :: rest))) : W p l e R s m args below meth c H locs cells slots Q (F0 m pc ls (va_rf (r.map fn) :: rest)) := by
  subst h
  exact k
theorem g_optS {r : Option Nat} {fn : Nat → Nat} (h : ¬ r = none) (k : W p l e R s m args below meth c H locs cells slots Q (F0 m pc ls (.ref (fn (r.getD 0)) :: rest))) : W p l e R s m args below meth c H locs cells slots Q (F0 m pc ls (va_rf (r.map fn) :: rest)) := by
  cases r with
  | none => exact absurd rfl h
  | some x => exact k
theorem g_tabIn (hx : p.tables.exec = Jvm.exec) (hb : c.code = cc) {dflt lo hi : Int} {offs : Array Int} {len : Nat} {x y : Int32} {off : Int} {tgt : Nat} (hdg : decode cc pc = .ok (.tableswitch dflt lo hi offs, len)) (h : x = y) (h1 : ¬ y.toInt < lo) (h2 : ¬ hi < y.toInt) (ho : offs[(y.toInt - lo).toNat]? = some off) (ht : (pc : Int) + off = (tgt : Int))
    (k : W p l e R s m args below meth c H locs cells slots Q (F0 m tgt ls rest)) : W p l e R s m args below meth c H locs cells slots Q (F0 m pc ls (.int x :: rest)) := by
  subst h
  exact lv_tableIn hx hb hdg h1 h2 ho ht k
end CDG
