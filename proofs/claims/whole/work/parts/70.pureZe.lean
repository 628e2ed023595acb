section
variable {up : cd_Row} {sz : Int32} {mp : Nat → Int32} {L : Nat}
/-- the fixed bytes of a note, looked at by the reference -/
theorem nt_run (h : rw_rel up 8192 sz mp L) {S0 S : cd_Mo × cd_Ia × cd_Ia × cd_Ia} {p : Nat} (hp : p + 20 ≤ L) (ke : Int32) : ∀ (g x : Nat), x + g = 20 → (o_Mo_note_L23 S0 mp (nI p) ke 1 (nI 20) S → o_Mo_note_L23 S0 mp (nI p) ke (g + 1) (nI x) S) ∧ ((f_Mo_note_L23 S0 mp (nI p) ke (g + 1) (nI x) S = f_Mo_note_L23 S0 mp (nI p) ke 1 (nI 20) S ∧ ∀ k, x ≤ k → k < 20 → nt_m mp p k) ∨ (o_Mo_note_L23 S0 mp (nI p) ke (g + 1) (nI x) S ∧ ∃ k0, x ≤ k0 ∧ k0 < 20 ∧ (∀ k, x ≤ k → k < k0 → nt_m mp p k) ∧ ¬ nt_m mp p k0 ∧ f_Mo_note_L23 S0 mp (nI p) ke (g + 1) (nI x) S = (-1, mo_w S.1 6 (nI (if 4 ≤ k0 then p + k0 else p)), S.2))) := by
  have hL8 := h.1
  intro g
  induction g with
  | zero =>
    intro x hx
    have e : x = 20 := by omega
    subst e
    exact ⟨fun q => q, Or.inl ⟨rfl, fun k h1 h2 => by omega⟩⟩
  | succ g ih =>
    intro x hx
    have c1 : ¬ (20 : Int32) ≤ nI x := fun q => by have := (nI_leI (a := 20) (by omega) (by omega)).mp q; omega
    have oS : (nt_m mp p x → o_Mo_note_L23 S0 mp (nI p) ke (g + 1) (nI (x + 1)) S) → o_Mo_note_L23 S0 mp (nI p) ke (g + 1 + 1) (nI x) S := by
      intro q
      rw [o_Mo_note_L23, nI_add p x, nI_1 x, nI_clamp (n := p + x) (by omega)]
      exact ⟨fun q => absurd q c1, fun q => absurd q c1, fun q => absurd q c1, fun q => absurd q c1, fun q => absurd q c1, fun q => absurd q c1, fun q => absurd q c1, fun q => absurd q c1, fun q => absurd q c1, fun q => absurd q c1, fun q => absurd q c1, fun q => absurd q c1, fun q => absurd q c1, fun q => absurd q c1, fun q => absurd q c1, fun q => absurd q c1, fun q => absurd q c1, fun q => absurd q c1, fun q => absurd q c1, fun q => absurd q c1, fun q => absurd q c1, fun q => absurd q c1, fun q => absurd q c1, fun q => absurd q c1, fun q => absurd q c1, fun q => absurd q c1, fun q => absurd q c1, fun q => absurd q c1, fun q => absurd q c1, fun q => absurd q c1, fun q => absurd q c1, fun q => absurd q c1, fun q => absurd q c1, fun q => absurd q c1, fun q => absurd q c1, fun q => absurd q c1, fun _ z => q (Or.inl z), fun _ _ => vp_in_nI (by omega) (by omega), fun _ _ z => q (Or.inr z)⟩
    have fS : f_Mo_note_L23 S0 mp (nI p) ke (g + 1 + 1) (nI x) S = if f_Mo_noteByte (nI x) = -1 then f_Mo_note_L23 S0 mp (nI p) ke (g + 1) (nI (x + 1)) S else if f_Mo_noteByte (nI x) = mp (p + x) &&& 255 then f_Mo_note_L23 S0 mp (nI p) ke (g + 1) (nI (x + 1)) S else if (4 : Int32) ≤ nI x then (-1, mo_w S.1 6 (nI (p + x)), S.2) else (-1, mo_w S.1 6 (nI p), S.2) := by
      rw [f_Mo_note_L23, if_neg c1, nI_add p x, nI_1 x, nI_clamp (n := p + x) (by omega)]
    obtain ⟨i1, i2⟩ := ih (x + 1) (by omega)
    refine ⟨fun q => oS (fun _ => i1 q), ?_⟩
    rw [fS]
    by_cases c : nt_m mp p x
    · have e : (if f_Mo_noteByte (nI x) = -1 then f_Mo_note_L23 S0 mp (nI p) ke (g + 1) (nI (x + 1)) S else if f_Mo_noteByte (nI x) = mp (p + x) &&& 255 then f_Mo_note_L23 S0 mp (nI p) ke (g + 1) (nI (x + 1)) S else if (4 : Int32) ≤ nI x then (-1, mo_w S.1 6 (nI (p + x)), S.2) else (-1, mo_w S.1 6 (nI p), S.2)) = f_Mo_note_L23 S0 mp (nI p) ke (g + 1) (nI (x + 1)) S := by
        by_cases k1 : f_Mo_noteByte (nI x) = -1
        · rw [if_pos k1]
        · rw [if_neg k1]
          rcases c with c | c
          · exact absurd c k1
          · rw [if_pos c]
      rw [e]
      rcases i2 with ⟨j1, j2⟩ | ⟨j1, k0, j2, j3, j4, j5, j6⟩
      · refine Or.inl ⟨j1, fun k h1 h2 => ?_⟩
        by_cases e : k = x
        · rw [e]; exact c
        · exact j2 k (by omega) h2
      · refine Or.inr ⟨oS (fun _ => j1), k0, by omega, j3, fun k h1 h2 => ?_, j5, j6⟩
        by_cases e : k = x
        · rw [e]; exact c
        · exact j4 k (by omega) h2
    · rw [if_neg (fun z => c (Or.inl z)), if_neg (fun z => c (Or.inr z))]
      refine Or.inr ⟨oS (fun q => absurd q c), x, Nat.le_refl _, by omega, fun k h1 h2 => by omega, c, ?_⟩
      by_cases k4 : 4 ≤ x
      · rw [if_pos (show (4 : Int32) ≤ nI x from (nI_leI (a := 4) (by omega) (by omega)).mpr k4), if_pos k4]
      · rw [if_neg (show ¬ (4 : Int32) ≤ nI x from fun q => k4 ((nI_leI (a := 4) (by omega) (by omega)).mp q)), if_neg k4]
end
