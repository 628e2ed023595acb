-- constructors: the world grows by one place at its end; place N lies at ad N, the next free address
def cd_UN (D : va_G) (tt : Nat → ClassId) (ad : Nat → Nat) (N : Nat) (A : Nat → Prop) (zs : Nat → Nat) (w : Nat → va_E) (U : State) : Prop := cd_U D tt ad N A zs w U ∧ U.heap.size = ad N ∧ va_AO "CoreDesk$Region" U
def cd_PN (D : va_G) (ad : Nat → Nat) (N : Nat) (A : Nat → Prop) (w : Nat → va_E) (t : State) : Prop := cd_P D ad N A w t.heap ∧ t.heap.size = ad N
theorem cd_blindN {D : va_G} {tt : Nat → ClassId} {ad : Nat → Nat} {N : Nat} {A : Nat → Prop} {zs : Nat → Nat} {w : Nat → va_E} {av : List Value} : FrameBlind (va_Pc av (cd_UN D tt ad N A zs w)) := by
  intro a U g mk h
  obtain ⟨h1, h2, h3, h4⟩ := h
  exact ⟨h1, (cd_blind (av := av) a U g mk ⟨h1, h2⟩).2, h3, va_AO.moved (u := U) (U := U.calling g mk a) (Vm.Alike.refl U.vm) h4⟩
theorem cd_W_push {ad : Nat → Nat} {N : Nat} {w : Nat → va_E} {e : va_E} : cd_W ad (N + 1) (va_up w N e) = cd_W ad N w ++ [(ad N, e)] := by
  unfold cd_W
  rw [List.range_succ, List.map_append]
  congr 1
  · apply List.map_congr_left
    intro k hk
    rw [cd_up_n k (Nat.ne_of_lt (List.mem_range.mp hk))]
  · simp [cd_up_s]
theorem cd_push {D : va_G} {ad : Nat → Nat} {N : Nat} {A : Nat → Prop} {w : Nat → va_E} {e : va_E} {H H1 : Heap} (hP : cd_P D ad N A w H) (hz : H.size = ad N) (hA : A (ad N)) (he : va_at D cd_cl (ad N, e) H1) (ho : ∀ q : Nat, q < H.size → H1[q]? = H[q]?) : cd_P D ad (N + 1) A (va_up w N e) H1 := by
  unfold cd_P
  rw [cd_W_push]
  refine ⟨(hP.1.kept (fun k q hk => ho q.1 ((hP.1 k q hk).lt))).app (fun k q hk => ?_), hP.2.push hP.1 hz.symm hA⟩
  have hz1 : k < 1 := (List.getElem?_eq_some_iff.mp hk).1
  rw [show k = 0 by omega] at hk
  cases hk
  exact he
section CDN
variable {p : Program} {l : Launch} {e : Env} {R : Room} {s : State} {m : MethodId} {args : Array Value} {below : List Frame} {meth : Method} {c : Code} {H : Heap} {locs : List Loc} {cells slots : Nat} {Q : State → Prop}
variable {cc : ByteArray} {pc : Nat} {ls : Array Slot} {rest : List Value} {D : va_G} {tt : Nat → ClassId} {ad : Nat → Nat} {N : Nat} {A : Nat → Prop} {zs : Nat → Nat} {w : Nat → va_E} {H0 : Heap} {k : Nat}
theorem cd_preN (hK : va_K D cd_cl (cd_T tt) s) (hP : cd_P D ad N A w H) (hZ : cd_Z zs A s) (hS : va_S A s.heap H locs) (hz : H.size = ad N) (hO : va_AO "CoreDesk$Region" s) : ∀ U : State, U.heap = H → s.WarmedH U.vm → cd_UN D tt ad N A zs w U := fun U hU hW => ⟨cd_pre hK hP hZ hS U hU hW, by rw [hU]; exact hz, hO.moved hW.alike⟩
theorem g_new (hx : p.tables.exec = Jvm.exec) (hb : c.code = cc) {own C : String} {T : u_T} {Nf ci index : Nat} {Ts : List Cond} (hts : ∀ w ∈ Ts, w.before args s = true) (hin : ∀ w ∈ u_ws C T Nf, w ∈ Ts) (ty : Nat → FieldType) (hty : ∀ k, k < Nf → parseFieldDescriptor (T k).2.2.1 = some (ty k)) (hown : s.vm.findClass own = some m.cls) (hcl : (Cond.classLink own index C).before args s = true) (hinst : (Cond.instantiable C Nf).before args s = true) (hini : (Cond.initialized C).before args s = true) (hK : va_K D cd_cl (cd_T tt) s) (hP : cd_P D ad N A w H) (hS : va_S A H0 H locs) (hz : H.size = ad N) (hs : ∀ k, ad (k + 1) = ad k + 1) (hA : A (ad N)) (hc : cd_cl[ci]? = some (C, T, Nf)) {fs : List Value} (hfs : ∀ j, j < Nf → defaultValue (ty j) = vp_V fs j) (hcells : cells + 1 ≤ R.cells) (hslots : slots + Nf ≤ R.slots) (hdg : decode cc pc = .ok (.new index, 3))
    (kk : ∀ (H1 : Heap) (w1 : Nat → va_E), w1 N = .inr (ci, fs) → (∀ i : Nat, i ≠ N → w1 i = w i) → cd_P D ad (N + 1) A w1 H1 → va_S A H0 H1 locs → H1.size = ad (N + 1) → W p l e R s m args below meth c H1 locs (cells + 1) (slots + Nf) Q (F0 m (pc + 3) ls (.ref (ad N) :: rest))) : W p l e R s m args below meth c H locs cells slots Q (F0 m pc ls rest) := by
  have hKn := hK.1 ci _ hc
  refine W.newcK hx hb hown hcl hinst hini rfl hdg hcells hslots hKn.2.1 hz fun H1 kC hkC e1 z1 o1 => ?_
  refine kk H1 (va_up w N (.inr (ci, fs))) cd_up_s cd_up_n (cd_push hP hz hA ⟨_, hc, (u_born ty hts hin hKn hkC e1 hty).to hfs⟩ (fun q hq => o1 q (by omega))) ⟨Nat.le_trans hS.1 (by omega), fun x h1 h2 => (o1 x (by have := hS.1; omega)).trans (hS.2.1 x h1 h2), hS.2.2⟩ (by rw [z1, hs])
theorem g_newa (hx : p.tables.exec = Jvm.exec) (hb : c.code = cc) {atype : ArrayType} (harr : (Cond.arrayClass (newarray.typeOf atype)).before args s = true) {ty : FieldType} (hty : newarray.typeOf atype = ty) (hK : va_K D cd_cl (cd_T tt) s) (hP : cd_P D ad N A w H) (hS : va_S A H0 H locs) (hz : H.size = ad N) (hs : ∀ k, ad (k + 1) = ad k + 1) (hA : A (ad N)) {t0 : Nat} {cB : ClassId} (ht : (cd_T tt)[t0]? = some (cB, ty)) (hprim : ∀ C, ty ≠ .object C) {n : Int32} {N' : Nat} {a0 : vp_A} (ha : ∀ cA : ClassId, vp_cell cA a0 = arrV cA N' (fun _ => defaultValue ty)) (hn : ¬ n < 0) (hN : n.toNatClampNeg = N') (hbytes : N' * componentBytes ty ≤ 536870912) (hcells : cells + 1 ≤ R.cells) (hslots : slots + N' ≤ R.slots) (hdg : decode cc pc = .ok (.newarray atype, 2))
    (kk : ∀ (H1 : Heap) (w1 : Nat → va_E), w1 N = .inl (cB, a0) → (∀ i : Nat, i ≠ N → w1 i = w i) → cd_P D ad (N + 1) A w1 H1 → va_S A H0 H1 locs → H1.size = ad (N + 1) → W p l e R s m args below meth c H1 locs (cells + 1) (slots + N') Q (F0 m (pc + 2) ls (.ref (ad N) :: rest))) : W p l e R s m args below meth c H locs cells slots Q (F0 m pc ls (.int n :: rest)) := by
  subst hty
  refine va_newaK hx hb harr rfl hdg rfl hn hN hbytes hcells hslots hz fun H1 cA e1 z1 o1 hAr hNm => ?_
  have hcA : cA = cB := by
    have h2 := (hK.2 t0 _ ht).2
    have h3 : s.vm.findClass ("[" ++ (newarray.typeOf atype).toString) = some cB := by
      revert h2 hprim
      cases newarray.typeOf atype with
      | object C => intro hp _; exact absurd rfl (hp C)
      | _ => intro _ h; exact h
    rw [hNm] at h3
    exact Option.some.inj h3
  subst hcA
  refine kk H1 (va_up w N (.inl (cA, a0))) cd_up_s cd_up_n (cd_push hP hz hA (by show H1[ad N]? = some (vp_cell cA a0); rw [ha]; exact e1) (fun q hq => o1 q (by omega))) ⟨Nat.le_trans hS.1 (by omega), fun x h1 h2 => (o1 x (by have := hS.1; omega)).trans (hS.2.1 x h1 h2), hS.2.2⟩ (by rw [z1, hs])
theorem g_putF (hx : p.tables.exec = Jvm.exec) (hb : c.code = cc) {own ref C : String} {T : u_T} {Nf ci index : Nat} {Ts : List Cond} (hts : ∀ w ∈ Ts, w.before args s = true) (hin : ∀ w ∈ u_ws C T Nf, w ∈ Ts) (ty0 : Nat → FieldType) (hty : ∀ k, k < Nf → parseFieldDescriptor (T k).2.2.1 = some (ty0 k)) (hnm : ∀ a, a < Nf → ∀ b, b < Nf → a ≠ b → (T a).2.1 ≠ (T b).2.1) (hown : s.vm.findClass own = some m.cls) (hK : va_K D cd_cl (cd_T tt) s) (hP : cd_P D ad N A w H) (hS : va_S A H0 H locs) (hk : k < N) {fs : List Value} (he : w k = .inr (ci, fs)) (hc : cd_cl[ci]? = some (C, T, Nf)) (j : Nat) (hj : j < Nf) (hlink : (Cond.fieldLink own index ref (T j).2.1 (T j).2.2.1).before args s = true) (hsame : ∀ x, s.fieldFound? (T j).1 (T j).2.1 (T j).2.2.1 = some x → s.fieldFound? ref (T j).2.1 (T j).2.2.1 = some x) (hfin : (T j).2.2.2 = true) (hin2 : meth.name = "<init>") (hdecl : (T j).1 = own) {ty : FieldType} {v : Value} (hd : parseFieldDescriptor (T j).2.2.1 = some ty) (hn : narrow ty v = v) (hfit : fits ty v = true) (hl : j < fs.length) (hdg : decode cc pc = .ok (.putfield index, 3))
    (kk : ∀ (H1 : Heap) (locs1 : List Loc) (w1 : Nat → va_E), w1 k = .inr (ci, fs.set j v) → (∀ i : Nat, i ≠ k → w1 i = w i) → cd_P D ad N A w1 H1 → va_S A H0 H1 locs1 → W p l e R s m args below meth c H1 locs1 cells slots Q (F0 m (pc + 3) ls rest)) : W p l e R s m args below meth c H locs cells slots Q (F0 m pc ls (v :: .ref (ad k) :: rest)) :=
  va_putF hx hb hts hin ty0 hty hnm hown hK hP.1 hP.2 hS k (cd_W_at hk he) hc j hj hlink hsame hfin hin2 hdecl hd hn hfit hl hdg (fun H1 locs1 h1 h2 h3 => kk H1 locs1 _ cd_up_s cd_up_n ⟨by rw [cd_W_set] at h1; exact h1, by rw [cd_W_set] at h2; exact h2⟩ h3)
theorem cd_le {g : JFrame} (h : H.size ≤ s.heap.size + cells → W p l e R s m args below meth c H locs cells slots Q g) : W p l e R s m args below meth c H locs cells slots Q g := fun T hT X => h (by rw [← hT]; exact X.heapSize) T hT X
theorem g_newq (hx : p.tables.exec = Jvm.exec) (hb : c.code = cc) {own C : String} {index : Nat} (hown : s.vm.findClass own = some m.cls) (hclink : (Cond.classLink own index C).before args s = true) (hover : va_AO C s) (hK : va_K D cd_cl (cd_T tt) s) (hP : cd_P D ad N A w H) (hS : va_S A H0 H locs) (hz : H.size = ad N) (hs : ∀ k, ad (k + 1) = ad k + 1) (hA : A (ad N)) {t0 : Nat} {cB : ClassId} (ht : (cd_T tt)[t0]? = some (cB, .object C)) {n : Int32} {N' : Nat} (hn : ¬ n < 0) (hN : n.toNatClampNeg = N') (hbytes : N' * 4 ≤ 536870912) (hcells : cells + 1 ≤ R.cells) (hslots : slots + N' ≤ R.slots) (hdg : decode cc pc = .ok (.anewarray index, 3))
    (kk : ∀ (H1 : Heap) (w1 : Nat → va_E), w1 N = .inl (cB, N', .inr (.inr (.inr (.inr (fun _ => none))))) → (∀ i : Nat, i ≠ N → w1 i = w i) → cd_P D ad (N + 1) A w1 H1 → va_S A H0 H1 locs → H1.size = ad (N + 1) → W p l e R s m args below meth c H1 locs (cells + 1) (slots + N') Q (F0 m (pc + 3) ls (.ref (ad N) :: rest))) : W p l e R s m args below meth c H locs cells slots Q (F0 m pc ls (.int n :: rest)) := by
  subst hN
  refine W.anew hx hb hown hclink (va_AO.use hover) rfl hdg rfl hn hbytes hcells hslots fun cA kA comp f1 f2 f3 f4 => ?_
  have z1 : (H.push ({ cls := cA, slots := Array.replicate n.toNatClampNeg .null, vm := .none } : Cell)).size = ad (N + 1) := by rw [Array.size_push, hz, hs]
  have o1 : ∀ q : Nat, q < H.size → (H.push ({ cls := cA, slots := Array.replicate n.toNatClampNeg .null, vm := .none } : Cell))[q]? = H[q]? := fun q hq => by rw [Array.getElem?_push, if_neg (Nat.ne_of_lt hq)]
  have hcA : cA = cB := by
    obtain ⟨_, _, _, _, _, h3⟩ := (hK.2 t0 _ ht).2
    exact Option.some.inj (f1.symm.trans h3)
  subst hcA
  have key : cd_P D ad (N + 1) A (va_up w N (.inl (cA, n.toNatClampNeg, .inr (.inr (.inr (.inr (fun _ => none))))))) (H.push ({ cls := cA, slots := Array.replicate n.toNatClampNeg .null, vm := .none } : Cell)) := by
    refine cd_push hP hz hA ?_ o1
    show (H.push _)[ad N]? = some (vp_cell cA (n.toNatClampNeg, .inr (.inr (.inr (.inr (fun _ => none))))))
    rw [← hz, Array.getElem?_push_size, vp_cell_q]
    exact congrArg some (arrV_new _ _ _)
  rw [hz]
  exact kk _ _ cd_up_s cd_up_n key ⟨Nat.le_trans hS.1 (by rw [Array.size_push]; omega), fun x h1 h2 => (o1 x (by have := hS.1; omega)).trans (hS.2.1 x h1 h2), hS.2.2⟩ z1
end CDN
theorem cd_adk {ad : Nat → Nat} (hs : ∀ k, ad (k + 1) = ad k + 1) (a b : Nat) : ad (a + b) = ad a + b := by
  induction b with
  | zero => rfl
  | succ b ih => rw [← Nat.add_assoc, hs, ih, Nat.add_assoc]
theorem cd_sz {D : va_G} {ad : Nat → Nat} {N N0 cells : Nat} {A : Nat → Prop} {w : Nat → va_E} {H : Heap} {s : State} (hs : ∀ k, ad (k + 1) = ad k + 1) (hP : cd_P D ad (N + 1) A w H) (h0 : s.heap.size = ad N0) (hle : H.size ≤ s.heap.size + cells) (hc : N0 + cells = N + 1) : H.size = ad (N + 1) := by
  have h1 := (hP.1 N _ (cd_W_at (Nat.lt_succ_self N) rfl)).lt
  have h2 : ad (N0 + cells) = ad N0 + cells := cd_adk hs N0 cells
  have h3 := hs N
  rw [hc] at h2
  have h4 : ad N < H.size := h1
  omega

theorem cd_adm {ad : Nat → Nat} (hs : ∀ k, ad (k + 1) = ad k + 1) {a b : Nat} (h : a ≤ b) : ad a ≤ ad b := by
  have h2 := cd_adk hs a (b - a)
  rw [show a + (b - a) = b by omega] at h2
  omega
