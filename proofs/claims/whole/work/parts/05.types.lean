abbrev cd_Row : Type := Int32 × (Nat → Int32)
def cd_RowAt (N : Nat) (tt : Nat → ClassId) (ad : Nat → Nat) (w : Nat → va_E) (q : Nat) (n : Nat) (u : cd_Row) : Prop := q + 2 ≤ N ∧ w q = .inr (0, [.ref (ad (q + 1)), .int u.1]) ∧ w (q + 1) = .inl (tt 0, n, .inl u.2)
theorem cd_RowAt_keep {N : Nat} {tt : Nat → ClassId} {ad : Nat → Nat} {w w' : Nat → va_E} {q n : Nat} {u : cd_Row} (h : cd_RowAt N tt ad w q n u) (hk : ∀ k : Nat, q ≤ k → k < q + 2 → w' k = w k) : cd_RowAt N tt ad w' q n u := by
  obtain ⟨hn, h0, h1⟩ := h
  exact ⟨hn, (hk q (by omega) (by omega)).trans h0, (hk (q + 1) (by omega) (by omega)).trans h1⟩
abbrev cd_Reg : Type := Int32 × Int32 × Int32 × (Nat → Int32)
def cd_RegAt (N : Nat) (tt : Nat → ClassId) (ad : Nat → Nat) (w : Nat → va_E) (q : Nat) (u : cd_Reg) : Prop := q + 2 ≤ N ∧ w q = .inr (1, [.ref (ad (q + 1)), .int u.1, .int u.2.1, .int u.2.2.1]) ∧ w (q + 1) = .inl (tt 0, 1024, .inl u.2.2.2)
theorem cd_RegAt_keep {N : Nat} {tt : Nat → ClassId} {ad : Nat → Nat} {w w' : Nat → va_E} {q : Nat} {u : cd_Reg} (h : cd_RegAt N tt ad w q u) (hk : ∀ k : Nat, q ≤ k → k < q + 2 → w' k = w k) : cd_RegAt N tt ad w' q u := by
  obtain ⟨hn, h0, h1⟩ := h
  exact ⟨hn, (hk q (by omega) (by omega)).trans h0, (hk (q + 1) (by omega) (by omega)).trans h1⟩
abbrev cd_Tt : Type := Int32 × (Nat → Int32) × (Nat → Int32)
def cd_TtAt (N : Nat) (tt : Nat → ClassId) (ad : Nat → Nat) (w : Nat → va_E) (q : Nat) (u : cd_Tt) : Prop := q + 3 ≤ N ∧ w q = .inr (2, [.ref (ad (q + 1)), .ref (ad (q + 2)), .int u.1]) ∧ w (q + 1) = .inl (tt 1, 3, .inl u.2.1) ∧ w (q + 2) = .inl (tt 1, 24, .inl u.2.2)
theorem cd_TtAt_keep {N : Nat} {tt : Nat → ClassId} {ad : Nat → Nat} {w w' : Nat → va_E} {q : Nat} {u : cd_Tt} (h : cd_TtAt N tt ad w q u) (hk : ∀ k : Nat, q ≤ k → k < q + 3 → w' k = w k) : cd_TtAt N tt ad w' q u := by
  obtain ⟨hn, h0, h1, h2⟩ := h
  exact ⟨hn, (hk q (by omega) (by omega)).trans h0, (hk (q + 1) (by omega) (by omega)).trans h1, (hk (q + 2) (by omega) (by omega)).trans h2⟩
abbrev cd_By : Type := Nat → Int32
def cd_ByAt (N : Nat) (tt : Nat → ClassId) (ad : Nat → Nat) (w : Nat → va_E) (q : Nat) (n : Nat) (u : cd_By) : Prop := q + 1 ≤ N ∧ w q = .inl (tt 0, n, .inl u)
theorem cd_ByAt_keep {N : Nat} {tt : Nat → ClassId} {ad : Nat → Nat} {w w' : Nat → va_E} {q n : Nat} {u : cd_By} (h : cd_ByAt N tt ad w q n u) (hk : ∀ k : Nat, q ≤ k → k < q + 1 → w' k = w k) : cd_ByAt N tt ad w' q n u := by
  obtain ⟨hn, h0⟩ := h
  exact ⟨hn, (hk q (by omega) (by omega)).trans h0⟩
abbrev cd_Ia : Type := Nat → Int32
def cd_IaAt (N : Nat) (tt : Nat → ClassId) (ad : Nat → Nat) (w : Nat → va_E) (q : Nat) (n : Nat) (u : cd_Ia) : Prop := q + 1 ≤ N ∧ w q = .inl (tt 1, n, .inl u)
theorem cd_IaAt_keep {N : Nat} {tt : Nat → ClassId} {ad : Nat → Nat} {w w' : Nat → va_E} {q n : Nat} {u : cd_Ia} (h : cd_IaAt N tt ad w q n u) (hk : ∀ k : Nat, q ≤ k → k < q + 1 → w' k = w k) : cd_IaAt N tt ad w' q n u := by
  obtain ⟨hn, h0⟩ := h
  exact ⟨hn, (hk q (by omega) (by omega)).trans h0⟩
abbrev cd_Mem : Type := Int32 × (Nat → Nat) × (Nat → cd_Reg)
def cd_MemAt (N : Nat) (tt : Nat → ClassId) (ad : Nat → Nat) (w : Nat → va_E) (q : Nat) (u : cd_Mem) : Prop := q + 14 ≤ N ∧ w q = .inr (3, [.ref (ad (q + 1)), .int u.1]) ∧ (∃ rf : Nat → Option Nat, w (q + 1) = .inl (tt 3, 6, .inr (.inr (.inr (.inr rf)))) ∧ ∀ i : Nat, i < 6 → u.2.1 i < 6 ∧ rf i = some (ad ((q + 2) + 2 * u.2.1 i))) ∧ ∀ j : Nat, j < 6 → cd_RegAt N tt ad w ((q + 2) + 2 * j) (u.2.2 j)
theorem cd_pool_keep {N : Nat} {tt : Nat → ClassId} {ad : Nat → Nat} {w w' : Nat → va_E} {q : Nat} {P : Nat → cd_Reg} (h : ∀ j : Nat, j < 6 → cd_RegAt N tt ad w (q + 2 * j) (P j)) (hk : ∀ k : Nat, q ≤ k → k < q + 12 → w' k = w k) : ∀ j : Nat, j < 6 → cd_RegAt N tt ad w' (q + 2 * j) (P j) := fun j hj => cd_RegAt_keep (h j hj) (fun k h1 h2 => hk k (by omega) (by omega))
theorem cd_pool_put {N : Nat} {tt : Nat → ClassId} {ad : Nat → Nat} {w w' : Nat → va_E} {q : Nat} {P : Nat → cd_Reg} {i : Nat} {r : cd_Reg} (h : ∀ j : Nat, j < 6 → cd_RegAt N tt ad w (q + 2 * j) (P j)) (_ : i < 6) (hr : cd_RegAt N tt ad w' (q + 2 * i) r) (hk : ∀ k : Nat, (k < q + 2 * i ∨ q + 2 * i + 2 ≤ k) → w' k = w k) : ∀ j : Nat, j < 6 → cd_RegAt N tt ad w' (q + 2 * j) (va_up P i r j) := by
  intro j hj
  by_cases hji : j = i
  · subst hji
    rw [cd_up_s]
    exact hr
  · rw [cd_up_n j hji]
    exact cd_RegAt_keep (h j hj) (fun k h1 h2 => hk k (by omega))
theorem cd_refs_put {ad : Nat → Nat} {q i t : Nat} {pi : Nat → Nat} {rf : Nat → Option Nat} (h : ∀ i : Nat, i < 6 → pi i < 6 ∧ rf i = some (ad (q + 2 * pi i))) (ht : t < 6) : ∀ j : Nat, j < 6 → va_up pi i t j < 6 ∧ va_up rf i (some (ad (q + 2 * t))) j = some (ad (q + 2 * va_up pi i t j)) := by
  intro j hj
  by_cases hji : j = i
  · subst hji
    rw [cd_up_s, cd_up_s]
    exact ⟨ht, rfl⟩
  · rw [cd_up_n j hji, cd_up_n j hji]
    exact h j hj
theorem cd_MemAt_keep {N : Nat} {tt : Nat → ClassId} {ad : Nat → Nat} {w w' : Nat → va_E} {q : Nat} {u : cd_Mem} (h : cd_MemAt N tt ad w q u) (hk : ∀ k : Nat, q ≤ k → k < q + 14 → w' k = w k) : cd_MemAt N tt ad w' q u := by
  obtain ⟨hn, h0, ⟨rf, h1, h2⟩, h3⟩ := h
  exact ⟨hn, (hk q (by omega) (by omega)).trans h0, ⟨rf, (hk (q + 1) (by omega) (by omega)).trans h1, h2⟩, cd_pool_keep h3 (fun k h1 h2 => hk k (by omega) (by omega))⟩
theorem cd_in6 {i : Int32} (h : vp_in i 6) : i.toNatClampNeg < 6 := by
  unfold vp_in at h
  omega
def cd_FwAt (N : Nat) (tt : Nat → ClassId) (ad : Nat → Nat) (w : Nat → va_E) (q : Nat) (qf : Nat) (qm : Nat) (qt : Nat) : Prop := q + 1 ≤ N ∧ w q = .inr (4, [.ref (ad qf), .ref (ad qm), .ref (ad qt)])
theorem cd_FwAt_keep {N : Nat} {tt : Nat → ClassId} {ad : Nat → Nat} {w w' : Nat → va_E} {q qf qm qt : Nat} (h : cd_FwAt N tt ad w q qf qm qt) (hk : ∀ k : Nat, q ≤ k → k < q + 1 → w' k = w k) : cd_FwAt N tt ad w' q qf qm qt := ⟨h.1, (hk q (by omega) (by omega)).trans h.2⟩
abbrev cd_Tc : Type := Int32 × Int32
def cd_TcAt (N : Nat) (tt : Nat → ClassId) (ad : Nat → Nat) (w : Nat → va_E) (q : Nat) (qp : Nat) (u : cd_Tc) : Prop := q + 1 ≤ N ∧ w q = .inr (5, [.ref (ad qp), .ref (ad (q + 1)), .int u.1, .int u.2])
theorem cd_TcAt_keep {N : Nat} {tt : Nat → ClassId} {ad : Nat → Nat} {w w' : Nat → va_E} {q qp : Nat} {u : cd_Tc} (h : cd_TcAt N tt ad w q qp u) (hk : ∀ k : Nat, q ≤ k → k < q + 1 → w' k = w k) : cd_TcAt N tt ad w' q qp u := by
  obtain ⟨hn, h0⟩ := h
  exact ⟨hn, (hk q (by omega) (by omega)).trans h0⟩
abbrev cd_Has : Type := Int32
def cd_DeskAt (N : Nat) (tt : Nat → ClassId) (ad : Nat → Nat) (w : Nat → va_E) (q : Nat) (u : cd_Has) : Prop := q + 1 ≤ N ∧ w q = .inr (6, [.ref (ad (q + 1)), .ref (ad (q + 15)), .ref (ad (q + 18)), .ref (ad (q + 20)), .ref (ad (q + 21)), .ref (ad (q + 23)), .ref (ad (q + 27)), .ref (ad (q + 41)), .int u])
theorem cd_DeskAt_keep {N : Nat} {tt : Nat → ClassId} {ad : Nat → Nat} {w w' : Nat → va_E} {q : Nat} {u : cd_Has} (h : cd_DeskAt N tt ad w q u) (hk : ∀ k : Nat, q ≤ k → k < q + 1 → w' k = w k) : cd_DeskAt N tt ad w' q u := by
  obtain ⟨hn, h0⟩ := h
  exact ⟨hn, (hk q (by omega) (by omega)).trans h0⟩
