-- caller: the chain of frames
def mm_rk (u : cd_Mem) (y : Int) : Nat → Int
  | 0 => 0
  | n + 1 => mm_rk u y n + (if y ≤ (mm_rg u n).1.toInt then 0 else if (mm_rg u n).1.toInt + (mm_rg u n).2.1.toInt ≤ y then (mm_rg u n).2.1.toInt else y - (mm_rg u n).1.toInt)
theorem mm_rk_max {u : cd_Mem} (y : Int) : ∀ n, (∀ i, i < n → rg_ok (mm_rg u i)) → 0 ≤ mm_rk u y n ∧ mm_rk u y n ≤ 1024 * (n : Int) := by
  intro n
  induction n with
  | zero => intro _; exact ⟨Int.le_refl _, Int.le_refl _⟩
  | succ n ih =>
    intro h
    obtain ⟨i1, i2⟩ := ih (fun i hi => h i (by omega))
    obtain ⟨k1, k2, k3, k4, -⟩ := h n (by omega)
    unfold mm_rk
    split
    · omega
    · split <;> omega
theorem mm_rk_mono {u : cd_Mem} {y y' : Int} (hy : y ≤ y') : ∀ n, (∀ i, i < n → rg_ok (mm_rg u i)) → mm_rk u y n ≤ mm_rk u y' n := by
  intro n
  induction n with
  | zero => intro _; exact Int.le_refl _
  | succ n ih =>
    intro h
    have i1 := ih (fun i hi => h i (by omega))
    obtain ⟨k1, k2, k3, k4, -⟩ := h n (by omega)
    unfold mm_rk
    split <;> split <;> (try split) <;> (try split) <;> omega
theorem mm_rk_up {u : cd_Mem} {y y' : Int} (hy : y < y') : ∀ n, (∀ i, i < n → rg_ok (mm_rg u i)) → (∃ i, i < n ∧ rg_in (mm_rg u i) y) → mm_rk u y n + 1 ≤ mm_rk u y' n := by
  intro n
  induction n with
  | zero => rintro _ ⟨i, hi, -⟩; omega
  | succ n ih =>
    rintro h ⟨i, hi, hin⟩
    obtain ⟨k1, k2, k3, k4, -⟩ := h n (by omega)
    unfold mm_rk
    by_cases e : i = n
    · subst e
      have i1 := mm_rk_mono (u := u) (y := y) (y' := y') (by omega) i (fun i hi => h i (by omega))
      have a1 := hin.1
      have a2 := hin.2
      split <;> split <;> (try split) <;> (try split) <;> omega
    · have i1 := ih (fun i hi => h i (by omega)) ⟨i, by omega, hin⟩
      split <;> split <;> (try split) <;> (try split) <;> omega
/-- eight bytes from y on, all of them in the memory -/
def fr_ok (ma ms mr : Nat → Int32) (y : Int32) : Prop := ∀ i, i < 8 → ¬ f_Mo_within (0, 0, 0, 0, 0, 0) ma ms mr 1 (y.toInt64 + (nI i).toInt64) = -1
theorem pu_hold8 {vm : cd_Mem} {ma ms mf mb mr : Nat → Int32} {n : Nat} (h : mr_rel vm ma ms mf mb mr 1 n) (y : Int32) : ∀ (g x : Nat), x ≤ 8 → 8 - x < g → (∀ i, i < x → ¬ f_Mo_within (0, 0, 0, 0, 0, 0) ma ms mr 1 (y.toInt64 + (nI i).toInt64) = -1) → o_Mem_holds_L2 vm y 8 g (nI x) ∧ ((f_Mem_holds_L2 vm y 8 g (nI x) = 0 ∧ ¬ fr_ok ma ms mr y) ∨ (f_Mem_holds_L2 vm y 8 g (nI x) = 1 ∧ fr_ok ma ms mr y)) := by
  intro g
  induction g with
  | zero => intro x _ h; omega
  | succ g ih =>
    intro x hx hg hb
    unfold o_Mem_holds_L2 f_Mem_holds_L2
    obtain ⟨⟨l1, l2⟩, l3⟩ := mr_lookI (v := (0, 0, 0, 0, 0, 0)) h y x (by omega)
    rw [show nI 1 = (1 : Int32) from rfl] at l2 l3
    by_cases c : 8 ≤ x
    · have c1 : (8 : Int32) ≤ nI x := (nI_leI (a := 8) (by omega) (by omega)).mpr c
      rw [if_pos c1]
      exact ⟨⟨fun z => absurd c1 z, fun z => absurd c1 z⟩, Or.inr ⟨rfl, fun i hi => hb i (by omega)⟩⟩
    · have c1 : ¬ (8 : Int32) ≤ nI x := fun z => c ((nI_leI (a := 8) (by omega) (by omega)).mp z)
      rw [if_neg c1, nI_1]
      rcases l3 with ⟨m1, m2⟩ | ⟨m1, m2, -⟩
      · rw [if_pos m1]
        exact ⟨⟨fun _ => l1, fun _ z => absurd m1 z⟩, Or.inl ⟨rfl, fun q => q x (by omega) m2⟩⟩
      · rw [if_neg m1]
        obtain ⟨i1, i3⟩ := ih (x + 1) (by omega) (by omega) (fun i hi => by
          by_cases e : i = x
          · rw [e]; exact m2
          · exact hb i (by omega))
        exact ⟨⟨fun _ => l1, fun _ _ => i1⟩, i3⟩
theorem pu_frame (u : cd_Has) {vm : cd_Mem} {ma ms mf mb mr : Nat → Int32} {n : Nat} (h : mr_rel vm ma ms mf mb mr 1 n) (y z : Int32) : o_Desk_isFrame u vm y z ∧ ((f_Desk_isFrame u vm y z = 0 ∧ (y ≤ z ∨ ¬ fr_ok ma ms mr y)) ∨ (f_Desk_isFrame u vm y z = 1 ∧ ¬ y ≤ z ∧ fr_ok ma ms mr y)) := by
  obtain ⟨a1, a2⟩ := pu_hold8 h y 9 0 (by omega) (by omega) (fun i hi => by omega)
  rw [show nI 0 = (0 : Int32) from rfl] at a1 a2
  unfold o_Desk_isFrame f_Desk_isFrame o_Mem_holds f_Mem_holds
  refine ⟨fun _ => a1, ?_⟩
  by_cases c : y ≤ z
  · rw [if_pos c]
    exact Or.inl ⟨rfl, Or.inl c⟩
  · rw [if_neg c]
    rcases a2 with ⟨a2, a3⟩ | ⟨a2, a3⟩
    · rw [a2, if_pos rfl]
      exact Or.inl ⟨rfl, Or.inr a3⟩
    · rw [a2, if_neg (by decide)]
      exact Or.inr ⟨rfl, c, a3⟩
theorem fr_room {vm : cd_Mem} {ma ms mf mb mr : Nat → Int32} {n : Nat} (h : mr_rel vm ma ms mf mb mr 1 n) {y : Int32} (hf : fr_ok ma ms mr y) : y.toInt + 7 < 2147483648 ∧ ∃ i, i < n ∧ rg_in (mm_rg vm i) y.toInt := by
  have hr := pu_rng y
  constructor
  · obtain ⟨-, l3⟩ := mr_lookI (v := (0, 0, 0, 0, 0, 0)) h y 7 (by omega)
    rcases l3 with ⟨-, m2⟩ | ⟨-, -, m3⟩
    · exact absurd m2 (hf 7 (by omega))
    · rw [pl_add (by rw [pl_i, pl_i, nI_toInt (by omega)]; omega) (by rw [pl_i, pl_i, nI_toInt (by omega)]; omega), pl_i, pl_i, nI_toInt (by omega)] at m3
      have := pu_rng (y + nI 7)
      omega
  · have f0 := hf 0 (by omega)
    have e0 : (y.toInt64 + (nI 0).toInt64).toInt = y.toInt := by
      rw [pl_add (by rw [pl_i, pl_i, nI_toInt (by omega)]; omega) (by rw [pl_i, pl_i, nI_toInt (by omega)]; omega), pl_i, pl_i, nI_toInt (by omega)]
      omega
    obtain ⟨-, b2⟩ := pu_within (u := (0, 0, 0, 0, 0, 0)) (mr_rm h) (y.toInt64 + (nI 0).toInt64)
    rcases b2 with ⟨b2, -⟩ | ⟨i, hi, -, b2⟩
    · exact absurd b2 f0
    · rw [e0] at b2
      exact (mr_in h _).mp ⟨i, hi, b2⟩
theorem pu_call57 {vm : cd_Mem} {u v : cd_Mo} {ma ms mf mb mr mt mg : Nat → Int32} {n : Nat} (h : mr_rel vm ma ms mf mb mr 1 n) (k0 k1 y t : Int32) (K : Int64 → Int32 → Int32 → cd_Mo → Int32 × cd_Mo) (KO : Int64 → Int32 → Int32 → cd_Mo → Prop) (R : Int32 × cd_Mo → Prop) (HK : fr_ok ma ms mr y → ∀ x8, KO y.toInt64 t x8 v ∧ R (K y.toInt64 t x8 v)) (HN : ¬ fr_ok ma ms mr y → R (-1, v)) : ∀ (g x : Nat), x ≤ 8 → 8 - x < g → (∀ i, i < x → ¬ f_Mo_within (0, 0, 0, 0, 0, 0) ma ms mr 1 (y.toInt64 + (nI i).toInt64) = -1) → o_Mo_caller_L57 u ma ms mb mr mt mg k0 k1 KO g y.toInt64 t (nI x) v ∧ R (f_Mo_caller_L57 u ma ms mb mr mt mg k0 k1 K g y.toInt64 t (nI x) v) := by
  intro g
  induction g with
  | zero => intro x _ h; omega
  | succ g ih =>
    intro x hx hg hb
    unfold o_Mo_caller_L57 f_Mo_caller_L57
    obtain ⟨⟨-, l2⟩, -⟩ := mr_lookI (v := v) h y x (by omega)
    rw [show nI 1 = (1 : Int32) from rfl] at l2
    by_cases c : 8 ≤ x
    · have c1 : (8 : Int32) ≤ nI x := (nI_leI (a := 8) (by omega) (by omega)).mpr c
      rw [if_pos c1]
      obtain ⟨q1, q2⟩ := HK (fun i hi => hb i (by omega)) (nI x)
      exact ⟨⟨fun _ => q1, fun z => absurd c1 z, fun z => absurd c1 z⟩, q2⟩
    · have c1 : ¬ (8 : Int32) ≤ nI x := fun z => c ((nI_leI (a := 8) (by omega) (by omega)).mp z)
      rw [if_neg c1, nI_1]
      have ew : f_Mo_within v ma ms mr 1 (y.toInt64 + (nI x).toInt64) = f_Mo_within (0, 0, 0, 0, 0, 0) ma ms mr 1 (y.toInt64 + (nI x).toInt64) := mo_within_any
      rw [ew]
      by_cases c2 : f_Mo_within (0, 0, 0, 0, 0, 0) ma ms mr 1 (y.toInt64 + (nI x).toInt64) = -1
      · rw [if_pos c2]
        exact ⟨⟨fun z => absurd z c1, fun _ => l2, fun _ z => absurd c2 z⟩, HN (fun q => q x (by omega) c2)⟩
      · rw [if_neg c2]
        obtain ⟨i1, i2⟩ := ih (x + 1) (by omega) (by omega) (fun i hi => by
          by_cases e : i = x
          · rw [e]; exact c2
          · exact hb i (by omega))
        exact ⟨⟨fun z => absurd z c1, fun _ => l2, fun _ _ => i1⟩, i2⟩
theorem pl_le32 {y z : Int32} : y.toInt64 ≤ z.toInt64 ↔ y ≤ z := by
  rw [pl_le, pu_le, pl_i, pl_i]
theorem fr_num {vm : cd_Mem} {v : cd_Mo} {ma ms mf mb mr : Nat → Int32} {n : Nat} (h : mr_rel vm ma ms mf mb mr 1 n) {y : Int32} (hf : fr_ok ma ms mr y) : f_Mo_number v ma ms mb mr y.toInt64 = f_Mem_readNumber vm y ∧ f_Mo_number v ma ms mb mr (y.toInt64 + 4) = f_Mem_readNumber vm (y + 4) := by
  have hr := pu_rng y
  have h7 := (fr_room h hf).1
  have z4 : (4 : Int32).toInt = 4 := by decide
  have z4' : (4 : Int64).toInt = 4 := by decide
  have e4 : (y + 4).toInt = y.toInt + 4 := by rw [pu_add (by omega) (by omega), z4]
  constructor
  · rw [pu_rdnum, mr_num (v := v) h y _ pl_i (by omega)]
  · rw [pu_rdnum, mr_num (v := v) h (y + 4) _ (by rw [pl_add (by rw [pl_i]; omega) (by rw [pl_i]; omega), pl_i, z4', e4]) (by omega)]
/-- the chain on both sides, as far as the m-th frame -/
theorem pu_chain (u : cd_Has) {vm : cd_Mem} {vt : cd_Tt} {v0 v : cd_Mo} {ma ms mf mb mr mt mg : Nat → Int32} {n m : Nat} (h : mr_rel vm ma ms mf mb mr 1 n) (hm : m < 6144) (k : Int32) : ∀ (g g' t : Nat) (y z : Int32), t ≤ m → m - t < g → m - t < g' → o_Desk_caller_L41 u vm vt k (nI m) g y z (nI t) ∧ o_Mo_caller_L47 v0 ma ms mb mr mt mg k (nI m) g' y.toInt64 z.toInt64 (nI t) v ∧ f_Mo_caller_L47 v0 ma ms mb mr mt mg k (nI m) g' y.toInt64 z.toInt64 (nI t) v = (f_Desk_caller_L41 u vm vt k (nI m) g y z (nI t), v) := by
  have onum : ∀ x, o_Mem_readNumber vm x := fun x => pu_ordnum (n := n) (fun x => mr_ordb h x) x
  intro g
  induction g with
  | zero => intro g' t y z _ h; omega
  | succ g ih =>
    intro g' t y z ht hg hg'
    cases g' with
    | zero => omega
    | succ g' =>
      unfold o_Desk_caller_L41 o_Mo_caller_L47 f_Desk_caller_L41 f_Mo_caller_L47
      rw [nI_1]
      obtain ⟨p1, p2⟩ := pu_frame u h y z
      have cm : nI m ≤ nI t ↔ t = m := by rw [nI_leI (by omega) (by omega)]; omega
      have ce : nI t = nI m ↔ t = m := nI_eq (by omega) (by omega)
      by_cases c : y ≤ z
      · have f0 : f_Desk_isFrame u vm y z = 0 := by
          rcases p2 with ⟨p2, -⟩ | ⟨-, p2, -⟩
          · exact p2
          · exact absurd c p2
        have c' : y.toInt64 ≤ z.toInt64 := pl_le32.mpr c
        rw [if_pos c', f0, if_pos rfl]
        refine ⟨⟨fun _ => p1, fun _ q => absurd rfl q, fun _ => p1, fun _ q => absurd rfl q, fun _ q => absurd rfl q⟩, fun q => absurd c' q, ?_⟩
        rw [if_pos rfl]
        split <;> rfl
      · have c' : ¬ y.toInt64 ≤ z.toInt64 := fun q => c (pl_le32.mp q)
        rw [if_neg c']
        have key := pu_call57 (u := v0) (v := v) (mt := mt) (mg := mg) h k (nI m) y (nI t) (fun (x3' : Int64) (x7' : Int32) (x8' : Int32) (u'' : cd_Mo) => (if x7' = (nI m) then ((f_Mo_number u'' ma ms mb mr (x3' + (4 : Int64))), u'') else (f_Mo_caller_L47 v0 ma ms mb mr mt mg k (nI m) g' ((f_Mo_number u'' ma ms mb mr x3').toInt64) x3' (x7' + (1 : Int32)) u''))) (fun (x3' : Int64) (x7' : Int32) (x8' : Int32) (u'' : cd_Mo) => (¬ x7' = (nI m) → o_Mo_number u'' ma ms mb mr x3') ∧ (¬ x7' = (nI m) → o_Mo_caller_L47 v0 ma ms mb mr mt mg k (nI m) g' ((f_Mo_number u'' ma ms mb mr x3').toInt64) x3' (x7' + (1 : Int32)) u'') ∧ (x7' = (nI m) → o_Mo_number u'' ma ms mb mr (x3' + (4 : Int64)))) (fun p => p = (if nI m ≤ nI t then (if f_Desk_isFrame u vm y z = 0 then (-1 : Int32) else f_Mem_readNumber vm (y + 4)) else (if f_Desk_isFrame u vm y z = 0 then (-1 : Int32) else f_Desk_caller_L41 u vm vt k (nI m) g (f_Mem_readNumber vm y) y (nI (t + 1))), v)) (fun hf x8 => by
          have f1 : ¬ f_Desk_isFrame u vm y z = 0 := by
            rcases p2 with ⟨-, p2 | p2⟩ | ⟨p2, -, -⟩
            · exact absurd p2 c
            · exact absurd hf p2
            · rw [p2]; decide
          obtain ⟨n1, n2⟩ := fr_num (v := v) h hf
          rw [if_neg f1, if_neg f1, n1, n2, nI_1]
          by_cases e : t = m
          · rw [if_pos (ce.mpr e), if_pos (cm.mpr e)]
            exact ⟨⟨fun _ => mr_onum h _, fun q => absurd (ce.mpr e) q, fun _ => mr_onum h _⟩, rfl⟩
          · have e1 : ¬ nI t = nI m := fun q => e (ce.mp q)
            have e2 : ¬ nI m ≤ nI t := fun q => e (cm.mp q)
            obtain ⟨i1, i2, i3⟩ := ih g' (t + 1) (f_Mem_readNumber vm y) y (by omega) (by omega) (by omega)
            rw [if_neg e1, if_neg e2]
            exact ⟨⟨fun _ => mr_onum h _, fun _ => i2, fun q => absurd q e1⟩, i3⟩) (fun hf => by
          have f0 : f_Desk_isFrame u vm y z = 0 := by
            rcases p2 with ⟨p2, -⟩ | ⟨-, -, p2⟩
            · exact p2
            · exact absurd p2 hf
          rw [f0, if_pos rfl, if_pos rfl]
          split <;> rfl) 9 0 (by omega) (by omega) (fun i hi => by omega)
        refine ⟨⟨fun _ => p1, fun _ _ => onum _, fun _ => p1, fun _ _ => onum _, fun e _ => (ih (m - t) (t + 1) (f_Mem_readNumber vm y) y ?_ ?_ ?_).1⟩, fun _ => key.1, key.2⟩
        · have : ¬ t = m := fun q => e (cm.mpr q)
          omega
        · have : ¬ t = m := fun q => e (cm.mpr q)
          omega
        · have : ¬ t = m := fun q => e (cm.mpr q)
          omega
/-- no chain is longer than the bytes there are -/
theorem pu_deep {vm : cd_Mem} {v0 v : cd_Mo} {ma ms mf mb mr mt mg : Nat → Int32} {n : Nat} (h : mr_rel vm ma ms mf mb mr 1 n) (k k1 : Int32) (hk : 6144 ≤ k1.toInt) : ∀ (g t : Nat) (y z : Int32), t ≤ 6144 → 6145 - t < g → (t = 0 ∨ ((∃ i, i < n ∧ rg_in (mm_rg vm i) z.toInt) ∧ (t : Int) ≤ mm_rk vm z.toInt n + 1)) → o_Mo_caller_L47 v0 ma ms mb mr mt mg k k1 g y.toInt64 z.toInt64 (nI t) v ∧ f_Mo_caller_L47 v0 ma ms mb mr mt mg k k1 g y.toInt64 z.toInt64 (nI t) v = (-1, v) := by
  have hn := h.1.1
  have hok := h.1.2.2.2.2.1
  intro g
  induction g with
  | zero => intro t y z _ h; omega
  | succ g ih =>
    intro t y z ht hg hb
    unfold o_Mo_caller_L47 f_Mo_caller_L47
    by_cases c : y.toInt64 ≤ z.toInt64
    · rw [if_pos c]
      exact ⟨fun q => absurd c q, rfl⟩
    · rw [if_neg c]
      have c0 : ¬ y ≤ z := fun q => c (pl_le32.mpr q)
      rw [pu_le] at c0
      have key := pu_call57 (u := v0) (v := v) (mt := mt) (mg := mg) h k k1 y (nI t) (fun (x3' : Int64) (x7' : Int32) (x8' : Int32) (u'' : cd_Mo) => (if x7' = k1 then ((f_Mo_number u'' ma ms mb mr (x3' + (4 : Int64))), u'') else (f_Mo_caller_L47 v0 ma ms mb mr mt mg k k1 g ((f_Mo_number u'' ma ms mb mr x3').toInt64) x3' (x7' + (1 : Int32)) u''))) (fun (x3' : Int64) (x7' : Int32) (x8' : Int32) (u'' : cd_Mo) => (¬ x7' = k1 → o_Mo_number u'' ma ms mb mr x3') ∧ (¬ x7' = k1 → o_Mo_caller_L47 v0 ma ms mb mr mt mg k k1 g ((f_Mo_number u'' ma ms mb mr x3').toInt64) x3' (x7' + (1 : Int32)) u'') ∧ (x7' = k1 → o_Mo_number u'' ma ms mb mr (x3' + (4 : Int64)))) (fun p => p = (-1, v)) (fun hf x8 => by
        obtain ⟨r1, r2⟩ := fr_room h hf
        have q1 : (t : Int) ≤ mm_rk vm y.toInt n := by
          rcases hb with hb | ⟨hb1, hb2⟩
          · have := (mm_rk_max (u := vm) y.toInt n hok).1
            omega
          · have := mm_rk_up (u := vm) (y := z.toInt) (y' := y.toInt) (by omega) n hok hb1
            omega
        have q2 := mm_rk_up (u := vm) (y := y.toInt) (y' := y.toInt + 1) (by omega) n hok r2
        have q3 := (mm_rk_max (u := vm) (y.toInt + 1) n hok).2
        have e1 : ¬ nI t = k1 := fun q => by
          rw [← q, nI_toInt (by omega)] at hk
          omega
        obtain ⟨i1, i2⟩ := ih (t + 1) (f_Mo_number v ma ms mb mr y.toInt64) y (by omega) (by omega) (Or.inr ⟨r2, by omega⟩)
        rw [if_neg e1, nI_1]
        exact ⟨⟨fun _ => mr_onum h _, fun _ => i1, fun q => absurd q e1⟩, i2⟩) (fun _ => rfl) 9 0 (by omega) (by omega) (fun i hi => by omega)
      exact ⟨fun _ => key.1, key.2⟩
/-- caller on both sides -/
theorem e_caller (u : cd_Has) {vm : cd_Mem} {vt : cd_Tt} {v : cd_Mo} {ma ms mf mb mr mt mi mg : Nat → Int32} {n n' : Nat} (h : mr_rel vm ma ms mf mb mr 1 n) (ht : tt_rel vt mt mi mg 1 n') (k x : Int32) : o_Desk_caller u vm vt k x ∧ o_Mo_caller v ma ms mb mr mt mg k x ∧ f_Desk_caller u vm vt k x = (f_Mo_caller v ma ms mb mr mt mg k x).1 ∧ (f_Mo_caller v ma ms mb mr mt mg k x).2 = mo_z v := by
  obtain ⟨a1, a2, a3, a4, a5, a6⟩ := ht
  unfold o_Desk_caller o_Mo_caller f_Desk_caller f_Mo_caller f_Tt_has
  rw [pu_c1, a3, a4]
  rcases pu_case k with hk | ⟨i, hi, rfl⟩
  · rw [if_pos hk, if_pos hk, if_pos rfl]
    exact ⟨⟨fun q => absurd rfl q, fun q => absurd rfl q⟩, ⟨fun q => absurd hk q, fun q => absurd hk q, fun q => absurd hk q⟩, rfl, rfl⟩
  · have k0 : ¬ nI i < 0 := nI_pos (by omega)
    rw [if_neg k0, if_neg k0]
    by_cases c : n' ≤ i
    · have c1 : nI n' ≤ nI i := (nI_leI (by omega) (by omega)).mpr c
      rw [if_pos c1, if_pos c1, if_pos rfl]
      exact ⟨⟨fun q => absurd rfl q, fun q => absurd rfl q⟩, ⟨fun _ => pu_v1, fun _ q => absurd c1 q, fun _ q => absurd c1 q⟩, rfl, rfl⟩
    · have c1 : ¬ nI n' ≤ nI i := fun q => c ((nI_leI (by omega) (by omega)).mp q)
      have d : ¬ (1 : Int32) = 0 := by decide
      rw [if_neg c1, if_neg c1, if_neg d]
      have e3 : (3 : Int32) + nI i = nI (3 + i) := nI_add 3 i
      have e8 : (8 : Int32) * nI (3 + i) + 7 = nI (8 * (3 + i) + 7) := by rw [show (8 : Int32) = nI 8 from rfl, show (7 : Int32) = nI 7 from rfl, pk_mul, nI_add]
      rw [e3, e8, nI_clamp (by omega)]
      have v72 : vp_in (nI (8 * (3 + i) + 7)) 72 := vp_in_nI (by omega) (by omega)
      obtain ⟨oR, eR⟩ : o_Tt_read vt (nI i) 7 ∧ f_Tt_read vt (nI i) 7 = mg (8 * (3 + i) + 7) := by
        have e7 : nI i * (8 : Int32) + 7 = nI (8 * i + 7) := by rw [show (8 : Int32) = nI 8 from rfl, show (7 : Int32) = nI 7 from rfl, pk_mul, nI_add, Nat.mul_comm]
        unfold o_Tt_read f_Tt_read
        rw [e7]
        refine ⟨fun _ => vp_in_nI (by omega) (by omega), ?_⟩
        rcases pu_ttv a1 a3 (nI i) 7 with ⟨q1, q2⟩ | ⟨q1, q2⟩
        · exfalso
          apply q2
          rw [nI_toInt (by omega)]
          have z7 : (7 : Int32).toInt = 7 := by decide
          omega
        · rw [q1, if_neg d, nI_clamp (by omega)]
          exact a6 i (by omega) 7 (by omega)
      rw [eR]
      rcases pu_case x with hx | ⟨m, hm, rfl⟩
      · have x0 : ¬ 0 ≤ x := fun q => by
          rw [pu_lt] at hx
          rw [pu_le] at q
          omega
        rw [if_pos hx, if_neg x0]
        exact ⟨⟨fun _ q => absurd hx q, fun _ q => absurd hx q⟩, ⟨fun _ => pu_v1, fun _ _ q => absurd q x0, fun _ _ q => absurd q x0⟩, rfl, rfl⟩
      · have x0 : (0 : Int32) ≤ nI m := nI_pos' (by omega)
        have x1 : ¬ nI m < 0 := nI_pos (by omega)
        rw [if_neg x1, if_pos x0]
        have ez : (0 : Int64) = (0 : Int32).toInt64 := by decide
        by_cases c2 : m < 6144
        · have c3 : nI m < (6144 : Int32) := (nI_ltI (b := 6144) (by omega) (by omega)).mpr c2
          rw [if_pos c3]
          obtain ⟨i1, i2, i3⟩ := pu_chain u (vt := vt) (v0 := v) (v := mo_z v) (mt := mt) (mg := mg) h c2 (nI i) 6145 6146 0 (mg (8 * (3 + i) + 7)) 0 (by omega) (by omega) (by omega)
          rw [← ez, show nI 0 = (0 : Int32) from rfl] at i2 i3
          rw [show nI 0 = (0 : Int32) from rfl] at i1
          dsimp only [mo_z] at i2 i3 ⊢
          rw [i3]
          exact ⟨⟨fun _ _ _ => oR, fun _ _ _ => i1⟩, ⟨fun _ => pu_v1, fun _ _ _ => v72, fun _ _ _ => i2⟩, rfl, rfl⟩
        · have c3 : ¬ nI m < (6144 : Int32) := fun q => c2 ((nI_ltI (b := 6144) (by omega) (by omega)).mp q)
          rw [if_neg c3]
          obtain ⟨i2, i3⟩ := pu_deep (v0 := v) (v := mo_z v) (mt := mt) (mg := mg) h (nI i) (nI m) (by rw [nI_toInt (by omega)]; omega) 6146 0 (mg (8 * (3 + i) + 7)) 0 (by omega) (by omega) (Or.inl rfl)
          rw [← ez, show nI 0 = (0 : Int32) from rfl] at i2 i3
          dsimp only [mo_z] at i2 i3 ⊢
          rw [i3]
          exact ⟨⟨fun _ _ q => absurd q c3, fun _ _ q => absurd q c3⟩, ⟨fun _ => pu_v1, fun _ _ _ => v72, fun _ _ _ => i2⟩, rfl, rfl⟩
