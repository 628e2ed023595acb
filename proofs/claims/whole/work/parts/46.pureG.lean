-- threads
def tt_rel (t : cd_Tt) (mt mi mg : Nat → Int32) (o n : Nat) : Prop := n ≤ 3 ∧ o < 3 ∧ t.1 = nI n ∧ mt o = nI n ∧ (∀ i, i < n → t.2.1 i = mi (3 * o + i)) ∧ (∀ i, i < n → ∀ r, r < 8 → t.2.2 (8 * i + r) = mg (8 * (3 * o + i) + r))
def tt_z (t : cd_Tt) (n : Nat) : Prop := ∀ x, 8 * n ≤ x → x < 24 → t.2.2 x = 0
theorem tt_keep {t : cd_Tt} {mt mi mg mt' mi' mg' : Nat → Int32} {o n : Nat} (h : tt_rel t mt mi mg o n) (h1 : mt' o = mt o) (h2 : ∀ x, 3 * o ≤ x → x < 3 * o + 3 → mi' x = mi x) (h3 : ∀ x, 24 * o ≤ x → x < 24 * o + 24 → mg' x = mg x) : tt_rel t mt' mi' mg' o n := by
  obtain ⟨a1, a2, a3, a4, a5, a6⟩ := h
  refine ⟨a1, a2, a3, h1.trans a4, fun i hi => (a5 i hi).trans (h2 _ (by omega) (by omega)).symm, fun i hi r hr => (a6 i hi r hr).trans (h3 _ (by omega) (by omega)).symm⟩
theorem pu_hasIdL {t : cd_Tt} {n : Nat} (hn : n ≤ 3) (hc : t.1 = nI n) (k : Int32) : ∀ (g x : Nat), x ≤ n → n - x < g → (∀ i, i < x → ¬ t.2.1 i = k) → o_Tt_hasId_L2 t k g (nI x) ∧ ((f_Tt_hasId_L2 t k g (nI x) = 0 ∧ ∀ i, i < n → ¬ t.2.1 i = k) ∨ (f_Tt_hasId_L2 t k g (nI x) = 1 ∧ ∃ i, i < n ∧ t.2.1 i = k)) := by
  intro g
  induction g with
  | zero => intro x _ h; omega
  | succ g ih =>
    intro x hx hg hb
    unfold o_Tt_hasId_L2 f_Tt_hasId_L2
    rw [hc, nI_clamp (by omega), nI_1]
    by_cases c : n ≤ x
    · have c1 : nI n ≤ nI x := (nI_leI (by omega) (by omega)).mpr c
      rw [if_pos c1]
      exact ⟨⟨fun z => absurd c1 z, fun z => absurd c1 z⟩, Or.inl ⟨rfl, fun i hi => hb i (by omega)⟩⟩
    · have c1 : ¬ nI n ≤ nI x := fun z => c ((nI_leI (by omega) (by omega)).mp z)
      rw [if_neg c1]
      by_cases c2 : t.2.1 x = k
      · rw [if_pos c2]
        exact ⟨⟨fun _ => vp_in_nI (by omega) (by omega), fun _ z => absurd c2 z⟩, Or.inr ⟨rfl, x, by omega, c2⟩⟩
      · rw [if_neg c2]
        obtain ⟨i1, i2⟩ := ih (x + 1) (by omega) (by omega) (fun i hi => by
          by_cases e : i = x
          · rw [e]; exact c2
          · exact hb i (by omega))
        exact ⟨⟨fun _ => vp_in_nI (by omega) (by omega), fun _ _ => i1⟩, i2⟩
theorem pu_mhasIdL {u : cd_Mo} {mt mi : Nat → Int32} {o n : Nat} (ho : o < 3) (hn : n ≤ 3) (hc : mt o = nI n) (k : Int32) : ∀ (g x : Nat) (b : Int32), x ≤ n → n - x < g → ((b = 0 ∧ ∀ i, i < x → ¬ mi (3 * o + i) = k) ∨ (b = 1 ∧ ∃ i, i < x ∧ mi (3 * o + i) = k)) → o_Mo_hasId_L7 u mt mi (nI o) k g b (nI (3 * o + x)) ∧ ((f_Mo_hasId_L7 u mt mi (nI o) k g b (nI (3 * o + x)) = 0 ∧ ∀ i, i < n → ¬ mi (3 * o + i) = k) ∨ (f_Mo_hasId_L7 u mt mi (nI o) k g b (nI (3 * o + x)) = 1 ∧ ∃ i, i < n ∧ mi (3 * o + i) = k)) := by
  intro g
  induction g with
  | zero => intro x b _ h; omega
  | succ g ih =>
    intro x b hx hg hb
    have e6 : (3 : Int32) * nI o + nI n = nI (3 * o + n) := by rw [show (3 : Int32) = nI 3 from rfl, pk_mul, nI_add]
    unfold o_Mo_hasId_L7 f_Mo_hasId_L7
    rw [nI_clamp (by omega), nI_clamp (by omega), hc, e6, nI_1]
    have v3 : vp_in (nI o) 3 := vp_in_nI ho (by omega)
    by_cases c : n ≤ x
    · have c1 : nI (3 * o + n) ≤ nI (3 * o + x) := (nI_leI (by omega) (by omega)).mpr (by omega)
      have ex : x = n := by omega
      rw [if_pos c1]
      rw [ex] at hb
      exact ⟨⟨v3, fun z => absurd c1 z, fun z => absurd c1 z, fun z => absurd c1 z, fun z => absurd c1 z⟩, hb⟩
    · have c1 : ¬ nI (3 * o + n) ≤ nI (3 * o + x) := fun z => c (by have := (nI_leI (by omega) (by omega)).mp z; omega)
      rw [if_neg c1]
      have v9 : vp_in (nI (3 * o + x)) 9 := vp_in_nI (by omega) (by omega)
      rcases hb with ⟨rfl, hb⟩ | ⟨rfl, i, hi, hb⟩
      · rw [if_pos rfl]
        by_cases c2 : mi (3 * o + x) = k
        · obtain ⟨i1, i2⟩ := ih (x + 1) 1 (by omega) (by omega) (Or.inr ⟨rfl, x, by omega, c2⟩)
          rw [if_pos c2]
          exact ⟨⟨v3, fun _ z => absurd rfl z, fun _ _ => v9, fun _ _ z => absurd c2 z, fun _ _ _ => i1⟩, i2⟩
        · obtain ⟨i1, i2⟩ := ih (x + 1) 0 (by omega) (by omega) (Or.inl ⟨rfl, fun i hi => by
            by_cases e : i = x
            · rw [e]; exact c2
            · exact hb i (by omega)⟩)
          rw [if_neg c2]
          exact ⟨⟨v3, fun _ z => absurd rfl z, fun _ _ => v9, fun _ _ _ => i1, fun _ _ z => absurd z c2⟩, i2⟩
      · have d : ¬ (1 : Int32) = 0 := by decide
        obtain ⟨i1, i2⟩ := ih (x + 1) 1 (by omega) (by omega) (Or.inr ⟨rfl, i, by omega, hb⟩)
        rw [if_neg d]
        exact ⟨⟨v3, fun _ _ => i1, fun _ z => absurd z d, fun _ z => absurd z d, fun _ z => absurd z d⟩, i2⟩
theorem pu_hasId {t : cd_Tt} {u : cd_Mo} {mt mi mg : Nat → Int32} {o n : Nat} (h : tt_rel t mt mi mg o n) (k : Int32) : o_Tt_hasId t k ∧ o_Mo_hasId u mt mi (nI o) k ∧ ((f_Tt_hasId t k = 0 ∧ f_Mo_hasId u mt mi (nI o) k = 0 ∧ (∀ i, i < n → ¬ t.2.1 i = k)) ∨ (f_Tt_hasId t k = 1 ∧ f_Mo_hasId u mt mi (nI o) k = 1 ∧ ∃ i, i < n ∧ t.2.1 i = k)) := by
  obtain ⟨a1, a2, a3, a4, a5, a6⟩ := h
  obtain ⟨b1, b2⟩ := pu_hasIdL a1 a3 k 4 0 (by omega) (by omega) (fun i hi => by omega)
  obtain ⟨c1, c2⟩ := pu_mhasIdL (u := u) (mi := mi) a2 a1 a4 k 4 0 0 (by omega) (by omega) (Or.inl ⟨rfl, fun i hi => by omega⟩)
  have e : (3 : Int32) * nI o = nI (3 * o + 0) := by rw [show (3 : Int32) = nI 3 from rfl, pk_mul]; rfl
  unfold o_Tt_hasId o_Mo_hasId f_Tt_hasId f_Mo_hasId
  rw [e]
  refine ⟨b1, c1, ?_⟩
  rcases b2 with ⟨b2, b3⟩ | ⟨b2, i, hi, b3⟩
  · rcases c2 with ⟨c2, c3⟩ | ⟨c2, i, hi, c3⟩
    · exact Or.inl ⟨b2, c2, b3⟩
    · exact absurd ((a5 i hi).trans c3) (b3 i hi)
  · rcases c2 with ⟨c2, c3⟩ | ⟨c2, i, hi, c3⟩
    · exact absurd ((a5 i hi).symm.trans b3) (c3 i hi)
    · exact Or.inr ⟨b2, c2, i, hi, (a5 i hi).trans c3⟩
theorem pu_threadL {S : cd_Mo × cd_Ia × cd_Ia × cd_Ia} {k : Int32} {n : Nat} (hn : n < 3) : ∀ (g x : Nat) (S' : cd_Mo × cd_Ia × cd_Ia × cd_Ia), S'.2.1 0 = nI n → x ≤ 8 → 8 - x < g → (∀ r, r < x → S'.2.2.2 (8 * n + r) = 0) → o_Mo_thread_L40 S k g (nI x) S' ∧ ∃ mg, f_Mo_thread_L40 S k g (nI x) S' = (nI n, S'.1, upd S'.2.1 0 (nI (n + 1)), S'.2.2.1, mg) ∧ (∀ r, r < 8 → mg (8 * n + r) = 0) ∧ ∀ y, (y < 8 * n ∨ 8 * n + 8 ≤ y) → mg y = S'.2.2.2 y := by
  intro g
  induction g with
  | zero => intro x S' _ _ h; omega
  | succ g ih =>
    intro x S' h1 hx hg hb
    unfold o_Mo_thread_L40 f_Mo_thread_L40
    have e6 : (8 : Int32) * nI n + nI x = nI (8 * n + x) := by rw [show (8 : Int32) = nI 8 from rfl, pk_mul, nI_add]
    rw [pu_cz, h1, e6, nI_1, nI_1, nI_clamp (by omega)]
    have v3 : vp_in (0 : Int32) 3 := vp_in_nI (n := 0) (by omega) (by omega)
    by_cases c : 8 ≤ x
    · have c1 : (8 : Int32) ≤ nI x := (nI_leI (a := 8) (by omega) (by omega)).mpr c
      rw [if_pos c1]
      refine ⟨⟨fun _ => v3, fun _ => v3, fun _ => v3, fun z => absurd c1 z, fun z => absurd c1 z, fun z => absurd c1 z⟩, S'.2.2.2, ?_, fun r hr => hb r (by omega), fun _ _ => rfl⟩
      rw [pu_upds]
      have : nI (n + 1) - (1 : Int32) = nI n := nI_pred n
      rw [this]
    · have c1 : ¬ (8 : Int32) ≤ nI x := fun z => c ((nI_leI (a := 8) (by omega) (by omega)).mp z)
      rw [if_neg c1]
      obtain ⟨i1, mg, i2, i3, i4⟩ := ih (x + 1) (S'.1, S'.2.1, S'.2.2.1, upd S'.2.2.2 (8 * n + x) 0) h1 (by omega) (by omega) (fun r hr => by
        show upd S'.2.2.2 (8 * n + x) 0 (8 * n + r) = 0
        by_cases e : r = x
        · rw [e, pu_upds]
        · rw [pu_updn (by omega)]; exact hb r (by omega))
      refine ⟨⟨fun z => absurd z c1, fun z => absurd z c1, fun z => absurd z c1, fun _ => v3, fun _ => vp_in_nI (by omega) (by omega), fun _ => i1⟩, mg, i2, i3, fun y hy => ?_⟩
      rw [i4 y hy]
      show upd S'.2.2.2 (8 * n + x) 0 y = S'.2.2.2 y
      rw [pu_updn (by omega)]
/-- thread on both sides -/
theorem e_thread (u : cd_Has) {ut : cd_Tt} {S : cd_Mo × cd_Ia × cd_Ia × cd_Ia} {n : Nat} (h : tt_rel ut S.2.1 S.2.2.1 S.2.2.2 0 n) (hz : tt_z ut n) (k : Int32) : o_Desk_thread u ut k ∧ o_Mo_thread S k ∧ (f_Desk_thread u ut k).1 = (f_Mo_thread S k).1 ∧ (∃ n', tt_rel (f_Desk_thread u ut k).2 (f_Mo_thread S k).2.2.1 (f_Mo_thread S k).2.2.2.1 (f_Mo_thread S k).2.2.2.2 0 n' ∧ tt_z (f_Desk_thread u ut k).2 n') ∧ (∀ x, 1 ≤ x → (f_Mo_thread S k).2.2.1 x = S.2.1 x) ∧ (∀ x, 3 ≤ x → (f_Mo_thread S k).2.2.2.1 x = S.2.2.1 x) ∧ (∀ x, 24 ≤ x → (f_Mo_thread S k).2.2.2.2 x = S.2.2.2 x) ∧ (f_Mo_thread S k).2.1 = mo_z S.1 := by
  have hh := pu_hasId (u := mo_z S.1) h k
  obtain ⟨a1, a2, a3, a4, a5, a6⟩ := h
  have v3 : vp_in (0 : Int32) 3 := vp_in_nI (n := 0) (by omega) (by omega)
  unfold o_Desk_thread f_Desk_thread o_Mo_thread f_Mo_thread o_Tt_add f_Tt_add
  rw [pu_cz, a3, a4]
  obtain ⟨p1, p2, p3⟩ := hh
  rw [show nI 0 = (0 : Int32) from rfl] at p2 p3
  dsimp only [mo_z] at p2 p3
  by_cases c : n = 3
  · subst c
    have c1 : (3 : Int32) ≤ nI 3 := by decide
    have c2 : nI 3 = (3 : Int32) := rfl
    rw [if_pos c1, if_pos c2]
    exact ⟨⟨fun z => absurd c1 z, fun z => absurd c1 z⟩, ⟨v3, fun z => absurd c2 z, fun z => absurd c2 z, fun z => absurd c2 z, fun z => absurd c2 z⟩, rfl, ⟨3, ⟨a1, a2, a3, a4, a5, a6⟩, hz⟩, fun _ _ => rfl, fun _ _ => rfl, fun _ _ => rfl, rfl⟩
  · have c1 : ¬ (3 : Int32) ≤ nI n := fun z => c (by have := (nI_leI (a := 3) (by omega) (by omega)).mp z; omega)
    have c2 : ¬ nI n = (3 : Int32) := fun z => c ((nI_eq (b := 3) (by omega) (by omega)).mp z)
    rw [if_neg c1, if_neg c2]
    rcases p3 with ⟨q1, q2, q3⟩ | ⟨q1, q2, i, hi, q3⟩
    · rw [if_pos q1, if_pos q2, nI_clamp (by omega), nI_1]
      obtain ⟨j1, mg, j2, j3, j4⟩ := pu_threadL (S := S) (k := k) (n := n) (by omega) 9 0 (((0 : Int32), S.1.2.1, S.1.2.2.1, S.1.2.2.2.1, S.1.2.2.2.2.1, S.1.2.2.2.2.2), S.2.1, upd S.2.2.1 n k, S.2.2.2) a4 (by omega) (by omega) (fun r hr => by omega)
      rw [show (0 : Int32) = nI 0 from rfl] at *
      rw [j2]
      refine ⟨⟨fun _ => p1, fun _ _ => vp_in_nI (by omega) (by omega)⟩, ⟨v3, fun _ => p2, fun _ _ => v3, fun _ _ => vp_in_nI (by omega) (by omega), fun _ _ => j1⟩, nI_pred n, ⟨n + 1, ⟨by omega, by omega, rfl, ?_, fun i hi => ?_, fun i hi r hr => ?_⟩, fun x h1 h2 => hz x (by omega) h2⟩, fun x hx => ?_, fun x hx => ?_, fun x hx => ?_, rfl⟩
      · show upd S.2.1 0 (nI (n + 1)) 0 = nI (n + 1)
        exact pu_upds
      · show upd ut.2.1 n k i = upd S.2.2.1 n k (3 * 0 + i)
        by_cases e : i = n
        · rw [e, pu_upds, show 3 * 0 + n = n by omega, pu_upds]
        · rw [pu_updn e, pu_updn (by omega)]
          exact a5 i (by omega)
      · show ut.2.2 (8 * i + r) = mg (8 * (3 * 0 + i) + r)
        by_cases e : i = n
        · subst e
          rw [show 8 * (3 * 0 + i) + r = 8 * i + r by omega, j3 r hr]
          exact hz _ (by omega) (by omega)
        · rw [j4 _ (by omega)]
          exact a6 i (by omega) r hr
      · exact pu_updn (by omega)
      · exact pu_updn (by omega)
      · exact j4 x (by omega)
    · have d : ¬ (1 : Int32) = 0 := by decide
      rw [q1, q2, if_neg d, if_neg d]
      exact ⟨⟨fun _ => p1, fun _ z => absurd z d⟩, ⟨v3, fun _ => p2, fun _ z => absurd z d, fun _ z => absurd z d, fun _ z => absurd z d⟩, rfl, ⟨n, ⟨a1, a2, a3, a4, a5, a6⟩, hz⟩, fun _ _ => rfl, fun _ _ => rfl, fun _ _ => rfl, rfl⟩
/-- a register's value, kept twice: which thread and which register there is -/
theorem pu_ttv {t : cd_Tt} {n : Nat} (hn : n ≤ 3) (hc : t.1 = nI n) (k x : Int32) : (f_Tt_hasValue t k x = 0 ∧ ¬ (0 ≤ k.toInt ∧ k.toInt < n ∧ 0 ≤ x.toInt ∧ x.toInt < 8)) ∨ (f_Tt_hasValue t k x = 1 ∧ ∃ i r : Nat, i < n ∧ r < 8 ∧ k = nI i ∧ x = nI r) := by
  unfold f_Tt_hasValue f_Tt_has
  rw [hc]
  have z0 : (0 : Int32).toInt = 0 := by decide
  rcases pu_case k with hk | ⟨i, hi, rfl⟩
  · rw [if_pos hk, if_pos rfl]
    rw [pu_lt] at hk
    exact Or.inl ⟨rfl, by omega⟩
  · rw [if_neg (nI_pos (by omega)), nI_toInt (by omega)]
    by_cases c : n ≤ i
    · rw [if_pos ((nI_leI (by omega) (by omega)).mpr c), if_pos rfl]
      exact Or.inl ⟨rfl, by omega⟩
    · rw [if_neg (fun z => c ((nI_leI (by omega) (by omega)).mp z)), if_neg (by decide)]
      rcases pu_case x with hx | ⟨r, hr, rfl⟩
      · rw [if_pos hx]
        rw [pu_lt] at hx
        exact Or.inl ⟨rfl, by omega⟩
      · rw [if_neg (nI_pos (by omega)), nI_toInt (by omega)]
        by_cases c2 : 8 ≤ r
        · rw [if_pos (show (8 : Int32) ≤ nI r from (nI_leI (a := 8) (by omega) (by omega)).mpr c2)]
          exact Or.inl ⟨rfl, by omega⟩
        · rw [if_neg (show ¬ (8 : Int32) ≤ nI r from fun z => c2 ((nI_leI (a := 8) (by omega) (by omega)).mp z))]
          exact Or.inr ⟨rfl, i, r, by omega, by omega, rfl, rfl⟩
theorem e_set (u : cd_Has) {ut : cd_Tt} {S : cd_Mo × cd_Ia} {mt mi : Nat → Int32} {n : Nat} (h : tt_rel ut mt mi S.2 0 n) (hz : tt_z ut n) (k x v : Int32) : o_Desk_set u ut k x v ∧ o_Mo_set S mt k x v ∧ (f_Desk_set u ut k x v).1 = (f_Mo_set S mt k x v).1 ∧ tt_rel (f_Desk_set u ut k x v).2 mt mi (f_Mo_set S mt k x v).2.2 0 n ∧ tt_z (f_Desk_set u ut k x v).2 n ∧ (∀ x', 24 ≤ x' → (f_Mo_set S mt k x v).2.2 x' = S.2 x') ∧ (f_Mo_set S mt k x v).2.1 = mo_z S.1 := by
  obtain ⟨a1, a2, a3, a4, a5, a6⟩ := h
  have v3 : vp_in (0 : Int32) 3 := vp_in_nI (n := 0) (by omega) (by omega)
  have z0 : (0 : Int32).toInt = 0 := by decide
  have z7 : (7 : Int32).toInt = 7 := by decide
  unfold o_Desk_set f_Desk_set o_Mo_set f_Mo_set o_Tt_write f_Tt_write
  rw [pu_cz, a4]
  rcases pu_ttv a1 a3 k x with ⟨e1, e2⟩ | ⟨e1, i, r, hi, hr, rfl, rfl⟩
  · rw [e1, if_pos rfl]
    have d : ¬ ¬ (0 : Int32) = 0 := fun z => z rfl
    have hm : ∀ {α : Type} (A B : α), (if k < 0 then A else if nI n ≤ k then A else if x < 0 then A else if x ≤ 7 then B else A) = A := by
      intro α A B
      by_cases c1 : k < 0
      · rw [if_pos c1]
      · rw [if_neg c1]
        by_cases c2 : nI n ≤ k
        · rw [if_pos c2]
        · rw [if_neg c2]
          by_cases c3 : x < 0
          · rw [if_pos c3]
          · rw [if_neg c3]
            by_cases c4 : x ≤ 7
            · exfalso
              rw [pu_lt] at c1 c3
              rw [pu_le] at c2 c4
              rw [nI_toInt (by omega)] at c2
              omega
            · rw [if_neg c4]
    rw [hm]
    refine ⟨fun z => absurd rfl z, ⟨fun _ => v3, fun c1 c2 c3 c4 => ?_⟩, rfl, ⟨a1, a2, a3, a4, a5, a6⟩, hz, fun _ _ => rfl, rfl⟩
    exfalso
    rw [pu_lt] at c1 c3
    rw [pu_le] at c2 c4
    rw [nI_toInt (by omega)] at c2
    omega
  · have d : ¬ (1 : Int32) = 0 := by decide
    have k0 : ¬ nI i < 0 := nI_pos (by omega)
    have k1 : ¬ nI n ≤ nI i := fun z => by have := (nI_leI (by omega) (by omega)).mp z; omega
    have k2 : ¬ nI r < 0 := nI_pos (by omega)
    have k3 : nI r ≤ (7 : Int32) := (nI_leI (b := 7) (by omega) (by omega)).mpr (by omega)
    have e6 : (8 : Int32) * nI i + nI r = nI (8 * i + r) := by rw [show (8 : Int32) = nI 8 from rfl, pk_mul, nI_add]
    have e7 : nI i * (8 : Int32) + nI r = nI (8 * i + r) := by rw [show (8 : Int32) = nI 8 from rfl, pk_mul, nI_add, Nat.mul_comm]
    rw [e1, if_neg d, if_neg k0, if_neg k1, if_neg k2, if_pos k3, e6, e7, nI_clamp (by omega)]
    refine ⟨fun _ => vp_in_nI (by omega) (by omega), ⟨fun _ => v3, fun _ _ _ _ => vp_in_nI (by omega) (by omega)⟩, rfl, ⟨a1, a2, a3, a4, a5, fun i' hi' r' hr' => ?_⟩, fun y h1 h2 => ?_, fun y hy => ?_, rfl⟩
    · show upd ut.2.2 (8 * i + r) v (8 * i' + r') = upd S.2 (8 * i + r) v (8 * (3 * 0 + i') + r')
      rw [pu_upd, pu_upd]
      by_cases e : 8 * i' + r' = 8 * i + r
      · rw [if_pos e, if_pos (by omega)]
      · rw [if_neg e, if_neg (by omega)]
        exact a6 i' hi' r' hr'
    · show upd ut.2.2 (8 * i + r) v y = 0
      rw [pu_updn (by omega)]
      exact hz y h1 h2
    · exact pu_updn (by omega)
