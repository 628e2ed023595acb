section
variable {up : cd_Row} {sz : Int32} {mp : Nat → Int32} {L : Nat}
/-- all notes on both sides -/
theorem e_notesL (h : rw_rel up 8192 sz mp L) (u : cd_Tc) {Sc0 : cd_Tc × cd_Tt} {S0 : cd_Mo × cd_Ia × cd_Ia × cd_Ia} {e : Nat} (he : e ≤ L) (v : cd_Mo) : ∀ (F p j m : Nat) (ut : cd_Tt) (mt mi mg : Nat → Int32), p ≤ e → e - p < 20 * F → 20 * j ≤ p → tt_rel ut mt mi mg 2 m → o_Tc_notesPass_L18 Sc0 8192 up F (nI p) (nI e) (nI j) (u, ut) ∧ o_Mo_notesFit_L16 S0 mp F (nI p) (nI e) (v, mt, mi, mg) ∧ ∃ mt' mi' mg', (∀ x, x < 2 → mt' x = mt x) ∧ (∀ x, x < 6 → mi' x = mi x) ∧ (∀ x, x < 48 → mg' x = mg x) ∧ ((∃ x ut', f_Tc_notesPass_L18 Sc0 8192 up F (nI p) (nI e) (nI j) (u, ut) = (0, (6, x), ut') ∧ f_Mo_notesFit_L16 S0 mp F (nI p) (nI e) (v, mt, mi, mg) = (0, mo_w v 6 x, mt', mi', mg')) ∨ ∃ ut' m', f_Tc_notesPass_L18 Sc0 8192 up F (nI p) (nI e) (nI j) (u, ut) = (1, u, ut') ∧ f_Mo_notesFit_L16 S0 mp F (nI p) (nI e) (v, mt, mi, mg) = (1, v, mt', mi', mg') ∧ tt_rel ut' mt' mi' mg' 2 m') := by
  have hL8 := h.1
  intro F
  induction F with
  | zero => intro p j m ut mt mi mg _ h; omega
  | succ F ih =>
    intro p j m ut mt mi mg hp hg hj ht
    rw [o_Tc_notesPass_L18, o_Mo_notesFit_L16, f_Tc_notesPass_L18, f_Mo_notesFit_L16]
    have cj : ¬ (8192 : Int32) ≤ nI j := fun q => by have := (nI_leI (a := 8192) (by omega) (by omega)).mp q; omega
    rw [if_neg cj]
    dsimp only
    by_cases c : e ≤ p
    · have c1 : nI e ≤ nI p := (nI_leI (by omega) (by omega)).mpr c
      rw [if_pos c1, if_pos c1]
      exact ⟨⟨fun _ q => absurd c1 q, fun _ q => absurd c1 q, fun _ q => absurd c1 q, fun _ q => absurd c1 q⟩, ⟨fun q => absurd c1 q, fun q => absurd c1 q⟩, mt, mi, mg, fun _ _ => rfl, fun _ _ => rfl, fun _ _ => rfl, Or.inr ⟨ut, m, rfl, rfl, ht⟩⟩
    · have c1 : ¬ nI e ≤ nI p := fun q => c ((nI_leI (by omega) (by omega)).mp q)
      rw [if_neg c1, if_neg c1]
      have d : ¬ (1 : Int32) = 0 := by decide
      obtain ⟨a1, a2⟩ := e_nhead h u (S := (v, mt, mi, mg)) (p := p) (e := e) (by omega) he
      have a3 : (∃ x, f_Tc_noteHeadPasses u 8192 up (nI p) (nI e) = (0, (6, x)) ∧ f_Mo_note (v, mt, mi, mg) mp (nI p) (nI e) = (-1, mo_w v 6 x, mt, mi, mg) ∧ o_Mo_note (v, mt, mi, mg) mp (nI p) (nI e)) ∨ (f_Tc_noteHeadPasses u 8192 up (nI p) (nI e) = (1, u) ∧ o_Tc_threadPasses (u, ut) 8192 up (nI p) ∧ o_Mo_note (v, mt, mi, mg) mp (nI p) (nI e) ∧ ((∃ x ut', f_Tc_threadPasses (u, ut) 8192 up (nI p) = (0, (6, x), ut') ∧ f_Mo_note (v, mt, mi, mg) mp (nI p) (nI e) = (-1, mo_w v 6 x, mt, mi, mg)) ∨ ∃ a ut' mt' mi' mg' m', p + (20 + (a + 3) / 4 * 4) ≤ e ∧ f_Tc_noteSize u 8192 up (nI p) = nI a ∧ f_Tc_padded u (nI a) = nI ((a + 3) / 4 * 4) ∧ f_Tc_threadPasses (u, ut) 8192 up (nI p) = (1, u, ut') ∧ f_Mo_note (v, mt, mi, mg) mp (nI p) (nI e) = (nI (20 + (a + 3) / 4 * 4), v, mt', mi', mg') ∧ tt_rel ut' mt' mi' mg' 2 m' ∧ (∀ x, x < 2 → mt' x = mt x) ∧ (∀ x, x < 6 → mi' x = mi x) ∧ ∀ x, x < 48 → mg' x = mg x)) := by
        rcases a2 with ⟨x, b1, b2, b3⟩ | ⟨b1, b2, b3, b4⟩
        · exact Or.inl ⟨x, b1, b3, b2⟩
        · rw [b2, b3]
          rcases e_nsize h u (S0 := (v, mt, mi, mg)) (S := (v, mt, mi, mg)) b1 he with ⟨s1, s2, s3⟩ | ⟨s1, a, s2, s3, s4, s5, s6, s7, s8⟩
          · exact Or.inl ⟨_, s1, s3, b4 s2⟩
          · obtain ⟨t1, t2, t3⟩ := e_nthread h u (S0 := (v, mt, mi, mg)) (S := (v, mt, mi, mg)) ht b1 he s2 s3 s4 s5 s6 s7
            refine Or.inr ⟨s1, t1, b4 t2, ?_⟩
            rcases t3 with ⟨x, ut', t3, t4⟩ | ⟨ut', mt', mi', mg', m', t3, t4, t5, t6, t7, t8⟩
            · exact Or.inl ⟨x, ut', t3, t4⟩
            · exact Or.inr ⟨a, ut', mt', mi', mg', m', s4, s7, s8, t3, t4, t5, t6, t7, t8⟩
      clear a2
      rcases a3 with ⟨x, b1, b2, b3⟩ | ⟨b1, b2, b3, b4⟩
      · rw [b1, b2, if_pos rfl, if_pos rfl]
        exact ⟨⟨fun _ _ => a1, fun _ _ q => absurd rfl q, fun _ _ q => absurd rfl q, fun _ _ q => absurd rfl q⟩, ⟨fun _ => b3, fun _ q => absurd rfl q⟩, mt, mi, mg, fun _ _ => rfl, fun _ _ => rfl, fun _ _ => rfl, Or.inl ⟨x, ut, rfl, rfl⟩⟩
      · rw [b1, if_neg d]
        dsimp only
        rcases b4 with ⟨x, ut', b4, b5⟩ | ⟨a, ut', mt', mi', mg', m', b4, b5, b6, b7, b8', b9, ba, bb, bc⟩
        · rw [b4, b5, if_pos rfl, if_pos rfl]
          exact ⟨⟨fun _ _ => a1, fun _ _ _ => b2, fun _ _ _ q => absurd rfl q, fun _ _ _ q => absurd rfl q⟩, ⟨fun _ => b3, fun _ q => absurd rfl q⟩, mt, mi, mg, fun _ _ => rfl, fun _ _ => rfl, fun _ _ => rfl, Or.inl ⟨x, ut', rfl, rfl⟩⟩
        · have dm : ¬ nI (20 + (a + 3) / 4 * 4) = -1 := pu_m1 (by omega)
          obtain ⟨n1, -, -, -⟩ := tp_4 h v (p := p + 4) (by omega)
          have oN : o_Tc_noteSize u 8192 up (nI p) := by
            unfold o_Tc_noteSize
            rw [show nI p + 4 = nI (p + 4) from nI_add p 4]
            exact n1
          rw [b7, b8', if_neg d, if_neg dm]
          dsimp only
          rw [b5, b6, show (20 : Int32) = nI 20 from rfl, nI_add 20, nI_add p, nI_1]
          obtain ⟨i1, i2, mt2, mi2, mg2, i3, i4, i5, i6⟩ := ih (p + (20 + (a + 3) / 4 * 4)) (j + 1) m' ut' mt' mi' mg' (by omega) (by omega) (by omega) b9
          exact ⟨⟨fun _ _ => a1, fun _ _ _ => b2, fun _ _ _ _ => oN, fun _ _ _ _ => i1⟩, ⟨fun _ => b3, fun _ _ => i2⟩, mt2, mi2, mg2, fun x hx => (i3 x hx).trans (ba x hx), fun x hx => (i4 x hx).trans (bb x hx), fun x hx => (i5 x hx).trans (bc x hx), i6⟩
end
