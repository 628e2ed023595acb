theorem pu_v0 : vp_in (0 : Int32) 3 := vp_in_nI (n := 0) (by omega) (by omega)
theorem pu_v1 : vp_in (1 : Int32) 3 := vp_in_nI (n := 1) (by omega) (by omega)
/-- core on both sides -/
theorem e_core {u : cd_Has} {vm : cd_Mem} {vt : cd_Tt} {v : cd_Mo} {ma ms mf mb mr mt mi mg : Nat → Int32} {n n' : Nat} (hu : u = v.2.2.2.1) (h : mr_rel vm ma ms mf mb mr 1 n) (ht : tt_rel vt mt mi mg 1 n') (k : Int32) : o_Mo_core v mr mt k ∧ f_Desk_core u vm vt k = (f_Mo_core v mr mt k).1 ∧ (f_Mo_core v mr mt k).2 = mo_z v := by
  refine ⟨⟨fun _ _ _ => pu_v1, fun _ _ => pu_v1⟩, ?_⟩
  unfold f_Desk_core f_Mo_core f_Mem_count f_Tt_count
  rw [pu_c1, h.1.2.1, h.2.2.1, ht.2.2.1, ht.2.2.2.1, hu]
  by_cases c : v.2.2.2.1 = 0
  · rw [if_pos c, if_pos c]
    exact ⟨rfl, rfl⟩
  · rw [if_neg c, if_neg c]
    by_cases c1 : k = 0
    · rw [if_pos c1, if_pos c1]
      exact ⟨rfl, rfl⟩
    · rw [if_neg c1, if_neg c1]
      by_cases c2 : k = 1
      · rw [if_pos c2, if_pos c2]
        exact ⟨rfl, rfl⟩
      · rw [if_neg c2, if_neg c2]
        exact ⟨rfl, rfl⟩
/-- an address and what is added to it: the class's sum may turn round, the reference's not -/
theorem mr_lookI {u : cd_Mem} {v : cd_Mo} {ma ms mf mb mr : Nat → Int32} {o n : Nat} (h : mr_rel u ma ms mf mb mr o n) (k : Int32) (i : Nat) (hi : i < 65536) : (o_Mem_indexOf u (k + nI i) ∧ o_Mo_within v ma ms mr (nI o) (k.toInt64 + (nI i).toInt64)) ∧ ((f_Mem_indexOf u (k + nI i) = -1 ∧ f_Mo_within v ma ms mr (nI o) (k.toInt64 + (nI i).toInt64) = -1) ∨ (¬ f_Mem_indexOf u (k + nI i) = -1 ∧ ¬ f_Mo_within v ma ms mr (nI o) (k.toInt64 + (nI i).toInt64) = -1 ∧ (k.toInt64 + (nI i).toInt64).toInt = (k + nI i).toInt)) := by
  have hr := pu_rng k
  have e1 : (k.toInt64 + (nI i).toInt64).toInt = k.toInt + i := by
    rw [pl_add (by rw [pl_i, pl_i, nI_toInt (by omega)]; omega) (by rw [pl_i, pl_i, nI_toInt (by omega)]; omega), pl_i, pl_i, nI_toInt (by omega)]
  by_cases c : k.toInt + i < 2147483648
  · have e2 : (k + nI i).toInt = k.toInt + i := by
      rw [pu_add (by rw [nI_toInt (by omega)]; omega) (by rw [nI_toInt (by omega)]; omega), nI_toInt (by omega)]
    obtain ⟨o1, hl⟩ := mr_look (v := v) h (k + nI i) (k.toInt64 + (nI i).toInt64) (e1.trans e2.symm)
    have hn := h.1.1
    have ho := h.2.1
    refine ⟨o1, ?_⟩
    rcases hl with ⟨a1, a2, -⟩ | ⟨x, y, hx, hy, a1, a2, -⟩
    · exact Or.inl ⟨a1, a2⟩
    · rw [a1, a2]
      exact Or.inr ⟨pu_m1 (by omega), pu_m1 (by omega), e1.trans e2.symm⟩
  · have e2 : (k + nI i).toInt < 0 := by
      rw [Int32.toInt_add, nI_toInt (by omega)]
      have : (k.toInt + (i : Int)).bmod (2 ^ 32) = k.toInt + i - 4294967296 := by
        rw [Int.bmod_def]
        omega
      rw [this]
      omega
    obtain ⟨a1, a2⟩ := pu_index h.1 (k + nI i)
    obtain ⟨b1, b2⟩ := pu_within (u := v) (mr_rm h) (k.toInt64 + (nI i).toInt64)
    refine ⟨⟨a1, b1⟩, Or.inl ⟨?_, ?_⟩⟩
    · rcases a2 with ⟨a2, -⟩ | ⟨x, hx, -, a2⟩
      · exact a2
      · have := (h.1.2.2.2.2.1 x hx).1
        have := a2.1
        omega
    · rcases b2 with ⟨b2, -⟩ | ⟨x, hx, -, b2⟩
      · exact b2
      · obtain ⟨k1, k2, k3, k4, k5, k6, -⟩ := (mr_rm h).2.2.2 x hx
        have := b2.2
        omega
/-- a byte written on both sides where there is one -/
theorem mr_write {u : cd_Mem} {v : cd_Mo} {ma ms mf mb mr : Nat → Int32} {o n : Nat} (h : mr_rel u ma ms mf mb mr o n) (k : Int32) (a : Int64) (hz : a.toInt = k.toInt) (b : Int32) (hin : ¬ f_Mo_within v ma ms mr (nI o) a = -1) : o_Mem_writeByte u k b ∧ ∃ j d, j < n ∧ d < 1024 ∧ f_Mo_within v ma ms mr (nI o) a = nI (6 * o + j) ∧ k - ma (6 * o + j) = nI d ∧ mr_rel (f_Mem_writeByte u k b).2 ma ms mf (upd mb (1024 * (6 * o + j) + d) (vp_nar .byte b.toInt8.toInt32)) mr o n := by
  obtain ⟨⟨o1, o2⟩, hl⟩ := mr_look (v := v) h k a hz
  have hn := h.1.1
  rcases hl with ⟨e1, e2, -⟩ | ⟨i, j, hi, hj, e1, e2, hn1, hsm⟩
  · exact absurd e2 hin
  · have hok := h.1.2.2.2.2.1 i hi
    obtain ⟨d, hd, ed, ez⟩ := pu_off hok hn1
    have hw := pu_wr (r := mm_rg u i) hd b
    unfold o_Mem_writeByte f_Mem_writeByte
    rw [e1, if_neg (pu_m1 (by omega)), nI_clamp (by omega)]
    have ek : k - (u.2.2 (u.2.1 i)).1 = nI d := ed
    rw [ek]
    refine ⟨⟨o1, fun _ => vp_in_nI (by omega) (by omega), fun _ => vp_in_nI (by omega) (by omega), fun _ => hw.2⟩, j, d, hj, hd, e2, ?_, ?_⟩
    · have : (mm_rg u i).1 = ma (6 * o + j) := hsm.1
      rw [← this]
      exact ek
    · show mr_rel (u.1, u.2.1, va_up u.2.2 (u.2.1 i) (f_Reg_write (mm_rg u i) (nI d) b)) ma ms mf _ mr o n
      rw [hw.1]
      exact mr_put h hi hj hsm hd (pu_fb b)
theorem pu_addsub2 (x k y a : Int32) : x + k + y - a = x + (k + y - a) := by
  rw [pu_eq]
  simp only [Int32.toInt_sub, Int32.toInt_add]
  simp [Int.sub_eq_add_neg, Int.add_assoc]
theorem pu_poke4L {um0 : cd_Mem} {S0 : cd_Mo × cd_By} {ma ms mf mr : Nat → Int32} {n : Nat} (k v : Int32) (hin : ∀ (w : cd_Mo) i, i < 4 → ¬ f_Mo_within w ma ms mr 0 (k.toInt64 + (nI i).toInt64) = -1) : ∀ (g x : Nat) (um : cd_Mem) (S : cd_Mo × cd_By), x ≤ 4 → 4 - x < g → mr_rel um ma ms mf S.2 mr 0 n → o_Mem_writeNumber_L13 um0 k v g (nI x) um ∧ o_Mo_pokeFour_L36 S0 ma ms mr k v g (nI x) S ∧ (f_Mem_writeNumber_L13 um0 k v g (nI x) um).1 = 1 ∧ (f_Mo_pokeFour_L36 S0 ma ms mr k v g (nI x) S).1 = 1 ∧ mr_rel (f_Mem_writeNumber_L13 um0 k v g (nI x) um).2 ma ms mf (f_Mo_pokeFour_L36 S0 ma ms mr k v g (nI x) S).2.2 mr 0 n ∧ (∀ y, 6144 ≤ y → (f_Mo_pokeFour_L36 S0 ma ms mr k v g (nI x) S).2.2 y = S.2 y) ∧ (f_Mo_pokeFour_L36 S0 ma ms mr k v g (nI x) S).2.1 = S.1 := by
  intro g
  induction g with
  | zero => intro x um S _ h; omega
  | succ g ih =>
    intro x um S hx hg h
    have hn := h.1.1
    unfold o_Mem_writeNumber_L13 o_Mo_pokeFour_L36 f_Mem_writeNumber_L13 f_Mo_pokeFour_L36
    by_cases c : 4 ≤ x
    · have c1 : (4 : Int32) ≤ nI x := (nI_leI (a := 4) (by omega) (by omega)).mpr c
      rw [if_pos c1, if_pos c1]
      exact ⟨⟨fun z => absurd c1 z, fun z => absurd c1 z⟩, ⟨fun z => absurd c1 z, fun z => absurd c1 z, fun z => absurd c1 z, fun z => absurd c1 z⟩, rfl, rfl, h, fun _ _ => rfl, rfl⟩
    · have c1 : ¬ (4 : Int32) ≤ nI x := fun z => c ((nI_leI (a := 4) (by omega) (by omega)).mp z)
      rw [if_neg c1, if_neg c1]
      obtain ⟨⟨l1, l2⟩, l3⟩ := mr_lookI (v := S.1) h k x (by omega)
      have hin1 := hin S.1 x (by omega)
      rcases l3 with ⟨-, l3⟩ | ⟨-, l3, l4⟩
      · exact absurd l3 hin1
      · obtain ⟨w1, j, d, hj, hd, w2, w3, w4⟩ := mr_write (v := S.1) h (k + nI x) (k.toInt64 + (nI x).toInt64) l4 (v >>> (8 * nI x &&& 31)) l3
        rw [show nI 0 = (0 : Int32) from rfl] at w2 l2
        have eix : (1024 : Int32) * nI (6 * 0 + j) + k + nI x - ma (6 * 0 + j) = nI (1024 * (6 * 0 + j) + d) := by
          rw [pu_addsub2, w3, show (1024 : Int32) = nI 1024 from rfl, pk_mul, nI_add]
        rw [w2, nI_clamp (by omega), eix, nI_clamp (by omega), nI_1]
        obtain ⟨i1, i2, i3, i4, i5, i6, i7⟩ := ih (x + 1) (f_Mem_writeByte um (k + nI x) (v >>> (8 * nI x &&& 31))).2 (S.1, upd S.2 (1024 * (6 * 0 + j) + d) (vp_nar .byte (v >>> (8 * nI x &&& 31)).toInt8.toInt32)) (by omega) (by omega) w4
        refine ⟨⟨fun _ => w1, fun _ => i1⟩, ⟨fun _ => l2, fun _ => vp_in_nI (by omega) (by omega), fun _ => vp_in_nI (by omega) (by omega), fun _ => i2⟩, i3, i4, i5, fun y hy => ?_, i7⟩
        rw [i6 y hy]
        exact pu_updn (by omega)
theorem pu_holdsL {um : cd_Mem} {S0 S : cd_Mo × cd_By} {ma ms mf mr : Nat → Int32} {n : Nat} (h : mr_rel um ma ms mf S.2 mr 0 n) (k v : Int32) : ∀ (g x : Nat), x ≤ 4 → 4 - x < g → (∀ i, i < x → ¬ f_Mo_within S.1 ma ms mr 0 (k.toInt64 + (nI i).toInt64) = -1) → o_Mem_holds_L2 um k 4 g (nI x) ∧ (o_Mo_pokeFour_L36 S0 ma ms mr k v 5 0 S → o_Mo_pokeFour_L7 S0 ma ms mr k v g (nI x) S) ∧ ((f_Mem_holds_L2 um k 4 g (nI x) = 0 ∧ o_Mo_pokeFour_L7 S0 ma ms mr k v g (nI x) S ∧ f_Mo_pokeFour_L7 S0 ma ms mr k v g (nI x) S = (0, S.1, S.2)) ∨ (f_Mem_holds_L2 um k 4 g (nI x) = 1 ∧ f_Mo_pokeFour_L7 S0 ma ms mr k v g (nI x) S = f_Mo_pokeFour_L36 S0 ma ms mr k v 5 0 S ∧ ∀ i, i < 4 → ¬ f_Mo_within S.1 ma ms mr 0 (k.toInt64 + (nI i).toInt64) = -1)) := by
  intro g
  induction g with
  | zero => intro x _ h; omega
  | succ g ih =>
    intro x hx hg hb
    unfold o_Mem_holds_L2 o_Mo_pokeFour_L7 f_Mem_holds_L2 f_Mo_pokeFour_L7
    obtain ⟨⟨l1, l2⟩, l3⟩ := mr_lookI (v := S.1) h k x (by omega)
    rw [show nI 0 = (0 : Int32) from rfl] at l2 l3
    by_cases c : 4 ≤ x
    · have c1 : (4 : Int32) ≤ nI x := (nI_leI (a := 4) (by omega) (by omega)).mpr c
      rw [if_pos c1, if_pos c1]
      exact ⟨⟨fun z => absurd c1 z, fun z => absurd c1 z⟩, fun q => ⟨fun _ => q, fun z => absurd c1 z, fun z => absurd c1 z⟩, Or.inr ⟨rfl, rfl, fun i hi => hb i (by omega)⟩⟩
    · have c1 : ¬ (4 : Int32) ≤ nI x := fun z => c ((nI_leI (a := 4) (by omega) (by omega)).mp z)
      rw [if_neg c1, if_neg c1, nI_1]
      rcases l3 with ⟨m1, m2⟩ | ⟨m1, m2, -⟩
      · rw [if_pos m1, if_pos m2]
        exact ⟨⟨fun _ => l1, fun _ z => absurd m1 z⟩, fun _ => ⟨fun z => absurd z c1, fun _ => l2, fun _ z => absurd m2 z⟩, Or.inl ⟨rfl, ⟨fun z => absurd z c1, fun _ => l2, fun _ z => absurd m2 z⟩, rfl⟩⟩
      · rw [if_neg m1, if_neg m2]
        obtain ⟨i1, i2, i3⟩ := ih (x + 1) (by omega) (by omega) (fun i hi => by
          by_cases e : i = x
          · rw [e]; exact m2
          · exact hb i (by omega))
        refine ⟨⟨fun _ => l1, fun _ _ => i1⟩, fun q => ⟨fun z => absurd z c1, fun _ => l2, fun _ _ => i2 q⟩, ?_⟩
        rcases i3 with ⟨j1, j2, j3⟩ | ⟨j1, j2, j3⟩
        · exact Or.inl ⟨j1, ⟨fun z => absurd z c1, fun _ => l2, fun _ _ => j2⟩, j3⟩
        · exact Or.inr ⟨j1, j2, j3⟩
theorem mo_within_any {v w : cd_Mo} {ma ms mr : Nat → Int32} {k : Int32} {a : Int64} : f_Mo_within v ma ms mr k a = f_Mo_within w ma ms mr k a := by
  have : ∀ (g : Nat) (x : Int32), f_Mo_within_L6 v ma ms mr k a g x = f_Mo_within_L6 w ma ms mr k a g x := by
    intro g
    induction g with
    | zero => intro x; rfl
    | succ g ih =>
      intro x
      unfold f_Mo_within_L6
      rw [ih]
  unfold f_Mo_within
  rw [this]
/-- pokeFour on both sides -/
theorem e_pokeFour (u : cd_Has) {um : cd_Mem} {S : cd_Mo × cd_By} {ma ms mf mr : Nat → Int32} {n : Nat} (h : mr_rel um ma ms mf S.2 mr 0 n) (k v : Int32) : o_Desk_pokeFour u um k v ∧ o_Mo_pokeFour S ma ms mr k v ∧ (f_Desk_pokeFour u um k v).1 = (f_Mo_pokeFour S ma ms mr k v).1 ∧ mr_rel (f_Desk_pokeFour u um k v).2 ma ms mf (f_Mo_pokeFour S ma ms mr k v).2.2 mr 0 n ∧ (∀ x, 6144 ≤ x → (f_Mo_pokeFour S ma ms mr k v).2.2 x = S.2 x) ∧ (f_Mo_pokeFour S ma ms mr k v).2.1 = mo_z S.1 := by
  obtain ⟨a1, -, -⟩ := pu_holdsL (S0 := S) (S := (mo_z S.1, S.2)) h k v 9 0 (by omega) (by omega) (fun i hi => by omega)
  obtain ⟨-, a2, a3⟩ := pu_holdsL (S0 := S) (S := (mo_z S.1, S.2)) h k v 5 0 (by omega) (by omega) (fun i hi => by omega)
  obtain ⟨-, -, a4⟩ := pu_holdsL (S0 := S) (S := (mo_z S.1, S.2)) h k v 9 0 (by omega) (by omega) (fun i hi => by omega)
  have a5 : f_Mem_holds_L2 um k 4 9 (nI 0) = f_Mem_holds_L2 um k 4 5 (nI 0) := by
    have key : ∀ (g g' x : Nat), x ≤ 4 → 4 - x < g → 4 - x < g' → f_Mem_holds_L2 um k 4 g (nI x) = f_Mem_holds_L2 um k 4 g' (nI x) := by
      intro g
      induction g with
      | zero => intro g' x _ h; omega
      | succ g ih =>
        intro g' x hx h1 h2
        cases g' with
        | zero => omega
        | succ g' =>
          unfold f_Mem_holds_L2
          by_cases c : 4 ≤ x
          · have c1 : (4 : Int32) ≤ nI x := (nI_leI (a := 4) (by omega) (by omega)).mpr c
            rw [if_pos c1, if_pos c1]
          · rw [nI_1, ih g' (x + 1) (by omega) (by omega) (by omega)]
    exact key 9 5 0 (by omega) (by omega) (by omega)
  clear a4
  unfold o_Desk_pokeFour o_Mo_pokeFour f_Desk_pokeFour f_Mo_pokeFour o_Mem_writeNumber f_Mem_writeNumber o_Mem_holds f_Mem_holds
  rw [show nI 0 = (0 : Int32) from rfl] at a1 a2 a3 a5
  rw [a5]
  rcases a3 with ⟨b1, b2, b3⟩ | ⟨b1, b2, b3⟩
  · rw [b1, if_pos rfl]
    dsimp only [mo_z] at b2 b3
    rw [b3]
    exact ⟨⟨a1, fun z => absurd rfl z⟩, b2, rfl, h, fun _ _ => rfl, rfl⟩
  · have d : ¬ (1 : Int32) = 0 := by decide
    rw [b1, if_neg d]
    obtain ⟨i1, i2, i3, i4, i5, i6, i7⟩ := pu_poke4L (um0 := um) (S0 := S) (mf := mf) (n := n) k v (fun w i hi => by rw [mo_within_any (w := mo_z S.1)]; exact b3 i hi) 5 0 um (mo_z S.1, S.2) (by omega) (by omega) h
    rw [show nI 0 = (0 : Int32) from rfl] at i1 i2 i3 i4 i5 i6 i7
    dsimp only [mo_z] at *
    rw [b2]
    exact ⟨⟨a1, fun _ => i1⟩, a2 i2, i3.trans i4.symm, i5, i6, i7⟩
