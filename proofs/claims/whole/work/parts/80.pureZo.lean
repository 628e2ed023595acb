section
variable {up : cd_Row} {sz : Int32} {mp : Nat → Int32} {L c : Nat}
/-- all regions of the core taken, on both sides -/
theorem e_takeL (h : rw_rel up 8192 sz mp L) (hc : tp_n mp L c) (he : ∀ j, j < c → en_ok mp L c j) {Sc : cd_Has × cd_Mem × cd_Tt} (uc : cd_Tc) (uh : cd_Tt) (v : cd_Mo) {S0 : cd_Ia × cd_Ia × cd_Ia × cd_By × cd_Ia} (hob : o_Tt_become Sc.2.2 uh) : ∀ (F n : Nat) (vm : cd_Mem) (ma ms mf mb mr : Nat → Int32), n + 1 ≤ c → c - (n + 1) < F → mr_rel vm ma ms mf mb mr 2 n → (∀ j, j < n → ma (12 + j) = tp_E mp (j + 1) 2 ∧ ms (12 + j) = tp_E mp (j + 1) 5) → o_Desk_takeCore_L17 Sc up uc uh F (nI c) (nI (n + 1)) vm ∧ o_Mo_readRegions_L2 v S0 mp (nI c) F (nI (n + 1)) (ma, ms, mf, mb, mr) ∧ ∃ vm' ma' ms' mf' mb' mr', f_Desk_takeCore_L17 Sc up uc uh F (nI c) (nI (n + 1)) vm = (1, vm', f_Tt_become Sc.2.2 uh) ∧ f_Mo_readRegions_L2 v S0 mp (nI c) F (nI (n + 1)) (ma, ms, mf, mb, mr) = (ma', ms', mf', mb', mr') ∧ mr_rel vm' ma' ms' mf' mb' mr' 2 (c - 1) ∧ (∀ k, k < 12 → ma' k = ma k ∧ ms' k = ms k ∧ mf' k = mf k) ∧ (∀ x, x < 12288 → mb' x = mb x) ∧ ∀ k, k < 2 → mr' k = mr k := by
  have hc7 : c ≤ 7 := hc.2.2.1
  have hL := h.1
  intro F
  induction F with
  | zero => intro n vm ma ms mf mb mr _ h; omega
  | succ F ih =>
    intro n vm ma ms mf mb mr hn hg hr hs
    have hr2 : mr 2 = nI n := hr.2.2.1
    rw [o_Desk_takeCore_L17, f_Desk_takeCore_L17, o_Mo_readRegions_L2, f_Mo_readRegions_L2]
    by_cases q : c ≤ n + 1
    · have c1 : nI c ≤ nI (n + 1) := (nI_leI (by omega) (by omega)).mpr q
      have en : c - 1 = n := by omega
      rw [if_pos c1, if_pos c1, en]
      exact ⟨⟨fun _ => hob, fun q => absurd c1 q, fun q => absurd c1 q, fun q => absurd c1 q, fun q => absurd c1 q, fun q => absurd c1 q, fun q => absurd c1 q, fun q => absurd c1 q, fun q => absurd c1 q⟩, ⟨fun q => absurd c1 q, fun q => absurd c1 q, fun q => absurd c1 q, fun q => absurd c1 q, fun q => absurd c1 q, fun q => absurd c1 q, fun q => absurd c1 q, fun q => absurd c1 q, fun q => absurd c1 q⟩, vm, ma, ms, mf, mb, mr, rfl, rfl, hr, fun _ _ => ⟨rfl, rfl, rfl⟩, fun _ _ => rfl, fun _ _ => rfl⟩
    · have c1 : ¬ nI c ≤ nI (n + 1) := fun z => q ((nI_leI (by omega) (by omega)).mp z)
      have hi : n + 1 < c := by omega
      rw [if_neg c1, if_neg c1]
      obtain ⟨k1, k2, k3⟩ := he (n + 1) hi
      have en : ∀ r, r < 8 → en_r (tp_E mp (n + 1)) c r := fun r hr => by
        have := k1 r hr
        unfold enf at this
        rw [if_neg (by omega)] at this
        exact this
      have e1 : ((52 + 32 * c : Nat) : Int) ≤ (tp_E mp (n + 1) 1).toInt := en 1 (by omega)
      have e2 : 0 ≤ (tp_E mp (n + 1) 2).toInt ∧ (tp_E mp (n + 1) 2).toInt % 64 = 0 := en 2 (by omega)
      have e4 : 0 ≤ (tp_E mp (n + 1) 4).toInt ∧ (tp_E mp (n + 1) 4).toInt ≤ 1024 ∧ (tp_E mp (n + 1) 4).toInt % 64 = 0 := en 4 (by omega)
      have e5 : 64 ≤ (tp_E mp (n + 1) 5).toInt ∧ (tp_E mp (n + 1) 5).toInt ≤ 1024 ∧ (tp_E mp (n + 1) 5).toInt % 64 = 0 ∧ (tp_E mp (n + 1) 2).toInt + (tp_E mp (n + 1) 5).toInt ≤ 2147483648 ∧ (tp_E mp (n + 1) 4).toInt ≤ (tp_E mp (n + 1) 5).toInt := en 5 (by omega)
      have e6 : 0 ≤ (tp_E mp (n + 1) 6).toInt ∧ (tp_E mp (n + 1) 6).toInt ≤ 7 := en 6 (by omega)
      obtain ⟨w, hw, ew, ew'⟩ := pu_of (x := tp_E mp (n + 1) 1) (by omega)
      obtain ⟨z, hz, ez, ez'⟩ := pu_of (x := tp_E mp (n + 1) 4) (by omega)
      have ff : ∀ r, r < 8 → o_Tc_entryField uc 8192 up (nI (n + 1)) (nI r) ∧ f_Tc_entryField uc 8192 up (nI (n + 1)) (nI r) = tp_E mp (n + 1) r := fun r hr => ⟨(tp_f h hc uc hi hr).1, (tp_f h hc uc hi hr).2.1⟩
      have f1 : f_Tc_entryField uc 8192 up (nI (n + 1)) 1 = nI w := (ff 1 (by omega)).2.trans ew
      have f2 : f_Tc_entryField uc 8192 up (nI (n + 1)) 2 = tp_E mp (n + 1) 2 := (ff 2 (by omega)).2
      have f4 : f_Tc_entryField uc 8192 up (nI (n + 1)) 4 = nI z := (ff 4 (by omega)).2.trans ez
      have f5 : f_Tc_entryField uc 8192 up (nI (n + 1)) 5 = tp_E mp (n + 1) 5 := (ff 5 (by omega)).2
      have f6 : f_Tc_entryField uc 8192 up (nI (n + 1)) 6 = tp_E mp (n + 1) 6 := (ff 6 (by omega)).2
      have gg : ∀ r, r < 8 → o_Mo_fourAt v mp (nI (52 + 32 * (n + 1)) + nI (4 * r)) ∧ f_Mo_fourAt v mp (nI (52 + 32 * (n + 1)) + nI (4 * r)) = tp_E mp (n + 1) r := fun r hr => by
        rw [nI_add]
        exact tp_m h hc v hi r hr
      have p0 : (52 : Int32) + (32 : Int32) * nI (n + 1) = nI (52 + 32 * (n + 1)) := by rw [show (32 : Int32) = nI 32 from rfl, pk_mul, show (52 : Int32) = nI 52 from rfl, nI_add]
      have p1 : (12 : Int32) + nI n = nI (12 + n) := by rw [show (12 : Int32) = nI 12 from rfl, nI_add]
      have g1 : f_Mo_fourAt v mp (nI (52 + 32 * (n + 1)) + 4) = nI w := (gg 1 (by omega)).2.trans ew
      have g2 : f_Mo_fourAt v mp (nI (52 + 32 * (n + 1)) + 8) = tp_E mp (n + 1) 2 := (gg 2 (by omega)).2
      have g4 : f_Mo_fourAt v mp (nI (52 + 32 * (n + 1)) + 16) = nI z := (gg 4 (by omega)).2.trans ez
      have g5 : f_Mo_fourAt v mp (nI (52 + 32 * (n + 1)) + 20) = tp_E mp (n + 1) 5 := (gg 5 (by omega)).2
      have g6 : f_Mo_fourAt v mp (nI (52 + 32 * (n + 1)) + 24) = tp_E mp (n + 1) 6 := (gg 6 (by omega)).2
      dsimp only
      rw [f1, f2, f4, f5, f6, pu_c2, hr2, p0, p1, g2, g4, g5, g6, nI_1, nI_clamp (n := 12 + n) (by omega)]
      have hok : rg_ok (tp_E mp (n + 1) 2, tp_E mp (n + 1) 5, tp_E mp (n + 1) 6, fun _ => 0) := by
        unfold rg_ok
        dsimp only
        omega
      have hh : ∀ j, j < n → ¬ rg_hit (rr_rg ma ms mf mb (6 * 2 + j)) (tp_E mp (n + 1) 2).toInt (tp_E mp (n + 1) 5).toInt := by
        intro j hj hit
        obtain ⟨s1, s2⟩ := hs j hj
        unfold rg_hit at hit
        rw [show 6 * 2 + j = 12 + j by omega] at hit
        dsimp only at hit
        rw [s1, s2] at hit
        obtain ⟨j1, -, -⟩ := he (j + 1) (by omega)
        have j5 := (enf_pos j1).2.2 (by omega)
        refine k3 (j + 1) (by omega) (by omega) ?_
        unfold sp_ov
        omega
      obtain ⟨mb', m1, m2, m3⟩ := pu_rr84 h (v := v) (S := S0) (k0 := nI c) (x2 := nI (n + 1)) (x3 := nI (52 + 32 * (n + 1))) (a := 12 + n) (w := w) (z := z) (by omega) (by omega) (by omega) (gg 1 (by omega)).1 g1 1025 0 (upd ma (12 + n) (tp_E mp (n + 1) 2)) (upd ms (12 + n) (tp_E mp (n + 1) 5)) (upd mf (12 + n) (tp_E mp (n + 1) 6)) mb mr (by omega) (by omega) (fun j hj => by omega)
      obtain ⟨t1, t2, t3⟩ := mr_take h hr (by omega) hok hh (w := w) (z := z) (ma' := upd ma (12 + n) (tp_E mp (n + 1) 2)) (ms' := upd ms (12 + n) (tp_E mp (n + 1) 5)) (mf' := upd mf (12 + n) (tp_E mp (n + 1) 6)) (mb' := mb') (mr' := upd mr 2 (nI (n + 1))) (by omega) (by omega) pu_upds pu_upds pu_upds m1 (fun i hi => ⟨pu_updn (by omega), pu_updn (by omega), pu_updn (by omega)⟩) m2 pu_upds
      obtain ⟨i1, i2, vm', ma2, ms2, mf2, mb2, mr2, i3, i4, i5, i6, i7, i8⟩ := ih (n + 1) _ _ _ _ _ _ (by omega) (by omega) t3 (fun j hj => by
        by_cases e : j = n
        · rw [e, pu_upds, pu_upds]
          exact ⟨rfl, rfl⟩
        · rw [pu_updn (by omega), pu_updn (by omega)]
          exact hs j (by omega))
      have vi : vp_in (nI (12 + n)) 18 := vp_in_nI (by omega) (by omega)
      refine ⟨⟨fun z => absurd z c1, fun _ => (ff 2 (by omega)).1, fun _ => (ff 5 (by omega)).1, fun _ => (ff 6 (by omega)).1, fun _ => t1, fun _ => (ff 1 (by omega)).1, fun _ => (ff 4 (by omega)).1, fun _ => t2, fun _ => i1⟩, ⟨fun _ => pu_v2, fun _ => (gg 2 (by omega)).1, fun _ => vi, fun _ => (gg 5 (by omega)).1, fun _ => vi, fun _ => (gg 6 (by omega)).1, fun _ => vi, fun _ => (gg 4 (by omega)).1, fun _ => (m3 (fun _ _ _ _ _ S => S) _).2 ?_⟩, vm', ma2, ms2, mf2, mb2, mr2, i3, ?_, i5, fun k hk => ?_, fun x hx => ?_, fun k hk => ?_⟩
      · dsimp only
        rw [hr2, nI_1, nI_1]
        exact ⟨pu_v2, pu_v2, i2⟩
      · refine Eq.trans ((m3 _ (fun _ _ _ _ _ _ => True)).1) ?_
        dsimp only
        rw [hr2, nI_1, nI_1]
        exact i4
      · obtain ⟨b1, b2, b3⟩ := i6 k hk
        exact ⟨b1.trans (pu_updn (by omega)), b2.trans (pu_updn (by omega)), b3.trans (pu_updn (by omega))⟩
      · exact (i7 x hx).trans (m2 x (by omega))
      · exact (i8 k hk).trans (pu_updn (by omega))
end
