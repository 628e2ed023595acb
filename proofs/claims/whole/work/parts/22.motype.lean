abbrev cd_Mo : Type := Int32 × Int32 × Int32 × Int32 × Int32 × Int32
def cd_MoAt (N : Nat) (tt : Nat → ClassId) (ad : Nat → Nat) (w : Nat → va_E) (q : Nat) (u : cd_Mo) : Prop := q + 1 ≤ N ∧ w q = .inr (7, [.int u.1, .ref (ad (q + 1)), .ref (ad (q + 2)), .ref (ad (q + 3)), .ref (ad (q + 4)), .ref (ad (q + 5)), .ref (ad (q + 6)), .ref (ad (q + 7)), .ref (ad (q + 8)), .ref (ad (q + 9)), .int u.2.1, .ref (ad (q + 10)), .int u.2.2.1, .int u.2.2.2.1, .int u.2.2.2.2.1, .int u.2.2.2.2.2])
theorem cd_MoAt_keep {N : Nat} {tt : Nat → ClassId} {ad : Nat → Nat} {w w' : Nat → va_E} {q : Nat} {u : cd_Mo} (h : cd_MoAt N tt ad w q u) (hk : ∀ k : Nat, q ≤ k → k < q + 1 → w' k = w k) : cd_MoAt N tt ad w' q u := by
  obtain ⟨hn, h0⟩ := h
  exact ⟨hn, (hk q (by omega) (by omega)).trans h0⟩
