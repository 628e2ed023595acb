section
variable {up : cd_Row} {sz : Int32} {mp : Nat → Int32} {L c : Nat}
/-- all entries on both sides -/
theorem e_ents (h : rw_rel up 8192 sz mp L) (hc : tp_n mp L c) (u0 u : cd_Tc) {S0 S : cd_Mo × cd_Ia × cd_Ia × cd_Ia × cd_By × cd_Ia × cd_Ia × cd_Ia × cd_Ia} (hv : S.1.2.2.1 = nI L) : ∀ (F g i : Nat), i + g = c → g < F → (∀ j, j < i → en_ok mp L c j) → o_Tc_entriesPass_L7 u0 8192 up F (nI c) (nI i) u ∧ ((f_Tc_entriesPass_L7 u0 8192 up F (nI c) (nI i) u = (1, u) ∧ (∀ j, j < c → en_ok mp L c j) ∧ (o_Mo_reads_L18 S0 mp 1 (nI c) (nI c) S → o_Mo_reads_L18 S0 mp F (nI c) (nI i) S) ∧ f_Mo_reads_L18 S0 mp F (nI c) (nI i) S = f_Mo_reads_L18 S0 mp 1 (nI c) (nI c) S) ∨ ∃ k x, f_Tc_entriesPass_L7 u0 8192 up F (nI c) (nI i) u = (0, (k, x)) ∧ o_Mo_reads_L18 S0 mp F (nI c) (nI i) S ∧ f_Mo_reads_L18 S0 mp F (nI c) (nI i) S = (0, mo_w S.1 k x, S.2)) := by
  have hc2 := hc.2.2.1
  have ep : (52 : Int32) + 32 * nI c = nI (52 + 32 * c) := by
    rw [show (52 : Int32) = nI 52 from rfl, show (32 : Int32) = nI 32 from rfl, pk_mul, nI_add]
  intro F
  induction F with
  | zero => intro g i _ h; omega
  | succ F ih =>
    intro g i hi hg hb
    cases g with
    | zero =>
      have e : i = c := by omega
      subst e
      have c1 : nI i ≤ nI i := (nI_leI (by omega) (by omega)).mpr (Nat.le_refl _)
      unfold o_Tc_entriesPass_L7 f_Tc_entriesPass_L7
      rw [if_pos c1]
      refine ⟨⟨fun q => absurd c1 q, fun q => absurd c1 q, fun q => absurd c1 q, fun q => absurd c1 q⟩, Or.inl ⟨rfl, hb, fun q => ?_, ?_⟩⟩
      · rw [o_Mo_reads_L18] at q ⊢
        exact ⟨q.1, q.2.1, fun z => absurd c1 z, fun z => absurd c1 z⟩
      · rw [f_Mo_reads_L18, f_Mo_reads_L18, if_pos c1, if_pos c1]
    | succ g =>
      have c1 : ¬ nI c ≤ nI i := fun q => by have := (nI_leI (by omega) (by omega)).mp q; omega
      obtain ⟨a1, a2, a3⟩ := e_entry h hc u S.1 hv (i := i) (by omega) hb
      have d : ¬ (1 : Int32) = 0 := by decide
      have oS : (¬ (f_Mo_entryFits S.1 mp (nI i) (nI (52 + 32 * c))).1 = 0 → o_Mo_reads_L18 S0 mp F (nI c) (nI (i + 1)) ((f_Mo_entryFits S.1 mp (nI i) (nI (52 + 32 * c))).2, S.2)) → o_Mo_reads_L18 S0 mp (F + 1) (nI c) (nI i) S := by
        intro q
        rw [o_Mo_reads_L18, ep, nI_1]
        exact ⟨fun z => absurd z c1, fun z => absurd z c1, fun _ => a2, fun _ z => q z⟩
      have fS : f_Mo_reads_L18 S0 mp (F + 1) (nI c) (nI i) S = if (f_Mo_entryFits S.1 mp (nI i) (nI (52 + 32 * c))).1 = 0 then (0, (f_Mo_entryFits S.1 mp (nI i) (nI (52 + 32 * c))).2, S.2) else f_Mo_reads_L18 S0 mp F (nI c) (nI (i + 1)) ((f_Mo_entryFits S.1 mp (nI i) (nI (52 + 32 * c))).2, S.2) := by
        rw [f_Mo_reads_L18, if_neg c1, ep, nI_1]
      rw [fS, o_Tc_entriesPass_L7, f_Tc_entriesPass_L7, if_neg c1, nI_1]
      have oNo : ∀ {k x : Int32}, f_Mo_entryFits S.1 mp (nI i) (nI (52 + 32 * c)) = (0, mo_w S.1 k x) → (f_Mo_entryFits S.1 mp (nI i) (nI (52 + 32 * c))).1 = 0 := fun q => by rw [q]
      rcases a3 with ⟨k, x, b1, b2⟩ | ⟨b1, b2, b3⟩
      · have z := oNo b2
        rw [b1, if_pos rfl, if_pos z]
        refine ⟨⟨fun _ => a1, fun _ q => absurd rfl q, fun _ q => absurd rfl q, fun _ q => absurd rfl q⟩, Or.inr ⟨k, x, rfl, oS (fun q => absurd z q), ?_⟩⟩
        rw [b2]
      · rw [b1, if_neg d]
        rcases b3 with ⟨k, x, b3, b4⟩ | ⟨b3, b4, b5⟩
        · have z := oNo b4
          rw [b3, if_pos rfl, if_pos z]
          refine ⟨⟨fun _ => a1, fun _ _ => b2, fun _ _ q => absurd rfl q, fun _ _ q => absurd rfl q⟩, Or.inr ⟨k, x, rfl, oS (fun q => absurd z q), ?_⟩⟩
          rw [b4]
        · rw [b3, if_neg d]
          rcases b5 with ⟨k, x, b5, b6⟩ | ⟨b5, b6, b7⟩
          · have z := oNo b6
            rw [b5, if_pos rfl, if_pos z]
            refine ⟨⟨fun _ => a1, fun _ _ => b2, fun _ _ _ => b4, fun _ _ _ q => absurd rfl q⟩, Or.inr ⟨k, x, rfl, oS (fun q => absurd z q), ?_⟩⟩
            rw [b6]
          · rw [b6] at oS
            rw [b5, if_neg d, b6, if_neg d]
            obtain ⟨i1, i2⟩ := ih g (i + 1) (by omega) (by omega) (fun j hj => by
              by_cases e : j = i
              · rw [e]; exact b7
              · exact hb j (by omega))
            refine ⟨⟨fun _ => a1, fun _ _ => b2, fun _ _ _ => b4, fun _ _ _ _ => i1⟩, ?_⟩
            rcases i2 with ⟨j1, j2, j3, j4⟩ | ⟨k, x, j1, j2, j3⟩
            · exact Or.inl ⟨j1, j2, fun q => oS (fun _ => j3 q), j4⟩
            · exact Or.inr ⟨k, x, j1, oS (fun _ => j2), j3⟩
end
