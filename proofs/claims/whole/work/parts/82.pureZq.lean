theorem pu_fillIL {n : Nat} {f : Nat → Int32} {v : Int32} (hn : n ≤ 24) : ∀ (g x : Nat) (f' : Nat → Int32), x ≤ n → n - x < g → (∀ j, j < x → f' j = v) → o_Arr_fillI_L5 n f v g (nI x) (nI n) f' ∧ ∀ j, j < n → f_Arr_fillI_L5 n f v g (nI x) (nI n) f' j = v := by
  intro g
  induction g with
  | zero => intro x f' _ h; omega
  | succ g ih =>
    intro x f' hx hg hb
    rw [o_Arr_fillI_L5, f_Arr_fillI_L5, nI_1, nI_clamp (by omega)]
    by_cases c : n ≤ x
    · have c1 : nI n ≤ nI x := (nI_leI (by omega) (by omega)).mpr c
      rw [if_pos c1]
      exact ⟨⟨fun q => absurd c1 q, fun q => absurd c1 q⟩, fun j hj => hb j (by omega)⟩
    · have c1 : ¬ nI n ≤ nI x := fun q => c ((nI_leI (by omega) (by omega)).mp q)
      rw [if_neg c1]
      obtain ⟨i1, i2⟩ := ih (x + 1) (upd f' x v) (by omega) (by omega) (fun j hj => by
        by_cases e : j = x
        · rw [e, pu_upds]
        · rw [pu_updn e]; exact hb j (by omega))
      exact ⟨⟨fun _ => vp_in_nI (by omega) (by omega), fun _ => i1⟩, i2⟩
theorem pu_ttclear (t : cd_Tt) : o_Tt_clear t ∧ ∃ g, f_Tt_clear t = (0, t.2.1, g) ∧ ∀ j, j < 24 → g j = 0 := by
  obtain ⟨a1, a2⟩ := pu_fillIL (n := 24) (f := t.2.2) (v := 0) (by omega) 25 0 t.2.2 (by omega) (by omega) (fun j hj => by omega)
  exact ⟨a1, _, rfl, a2⟩
section
variable {up : cd_Row} {sz : Int32} {mp : Nat → Int32} {L c : Nat}
/-- the notes read on both sides -/
theorem e_notes (h : rw_rel up 8192 sz mp L) (hc : tp_n mp L c) (he : en_ok mp L c 0) (u : cd_Tc) (v : cd_Mo) {m : Nat} {ut : cd_Tt} {mt mi mg : Nat → Int32} (ht : tt_rel ut mt mi mg 2 m) : o_Tc_notesPass (u, ut) 8192 up ∧ o_Mo_notesFit (v, mt, mi, mg) mp ∧ ∃ mt' mi' mg', (∀ x, x < 2 → mt' x = mt x) ∧ (∀ x, x < 6 → mi' x = mi x) ∧ (∀ x, x < 48 → mg' x = mg x) ∧ ((∃ x ut', f_Tc_notesPass (u, ut) 8192 up = (0, (6, x), ut') ∧ f_Mo_notesFit (v, mt, mi, mg) mp = (0, mo_w v 6 x, mt', mi', mg')) ∨ ∃ ut' m', f_Tc_notesPass (u, ut) 8192 up = (1, u, ut') ∧ f_Mo_notesFit (v, mt, mi, mg) mp = (1, v, mt', mi', mg') ∧ tt_rel ut' mt' mi' mg' 2 m') := by
  have hL := h.1
  have hc1 := hc.2.1
  obtain ⟨k1, k2, -⟩ := he
  obtain ⟨p1, p2, -⟩ := enf_pos k1
  obtain ⟨w, hw, ew, ew'⟩ := pu_of (x := tp_E mp 0 1) (by omega)
  obtain ⟨z, hz, ez, ez'⟩ := pu_of (x := tp_E mp 0 4) (by omega)
  have a1 : o_Tc_entryField u 8192 up 0 1 ∧ f_Tc_entryField u 8192 up 0 1 = nI w := ⟨(tp_f h hc u (i := 0) (r := 1) (by omega) (by omega)).1, (tp_f h hc u (i := 0) (r := 1) (by omega) (by omega)).2.1.trans ew⟩
  have a4 : o_Tc_entryField u 8192 up 0 4 ∧ f_Tc_entryField u 8192 up 0 4 = nI z := ⟨(tp_f h hc u (i := 0) (r := 4) (by omega) (by omega)).1, (tp_f h hc u (i := 0) (r := 4) (by omega) (by omega)).2.1.trans ez⟩
  have b1 : o_Mo_fourAt v mp 56 ∧ f_Mo_fourAt v mp 56 = nI w := by
    rw [show (56 : Int32) = nI (52 + 32 * 0 + 4 * 1) from rfl, ← ew]
    exact tp_m h hc v (i := 0) (by omega) 1 (by omega)
  have b4 : o_Mo_fourAt v mp 68 ∧ f_Mo_fourAt v mp 68 = nI z := by
    rw [show (68 : Int32) = nI (52 + 32 * 0 + 4 * 4) from rfl, ← ez]
    exact tp_m h hc v (i := 0) (by omega) 4 (by omega)
  unfold o_Tc_notesPass f_Tc_notesPass o_Mo_notesFit f_Mo_notesFit
  dsimp only
  rw [a1.2, a4.2, b1.2, b4.2, nI_add]
  obtain ⟨i1, i2, i3⟩ := e_notesL h u (Sc0 := (u, ut)) (S0 := (v, mt, mi, mg)) (e := w + z) (by omega) v 500 w 0 m ut mt mi mg (by omega) (by omega) (by omega) ht
  exact ⟨⟨a1.1, a4.1, i1⟩, ⟨b1.1, b4.1, i2⟩, i3⟩
/-- an empty memory on both sides -/
theorem mr_nil {u : cd_Mem} {n : Nat} (h : mm_ok u n) (ma ms mf mb : Nat → Int32) {mr : Nat → Int32} (hr : mr 2 = 0) : mr_rel (f_Mem_clear u) ma ms mf mb mr 2 0 := by
  obtain ⟨m1, m2, m3, m4, m5, m6, m7⟩ := h
  exact ⟨⟨by omega, rfl, m3, m4, fun i hi => by omega, fun i j _ hj => by omega, m7⟩, by omega, hr, id, id, fun i hi => by omega, fun i hi => by omega, fun i hi => by omega⟩
/-- the whole of a tape looked at, and the core taken, on both sides -/
theorem e_reads (h : rw_rel up 8192 sz mp L) {n : Nat} {vm : cd_Mem} (hm : mm_ok vm n) (has : cd_Has) (vt : cd_Tt) (uc : cd_Tc) (uh : cd_Tt) {v : cd_Mo} (hv : v.2.2.1 = nI L) {ma ms mf mb mr mt mi mg : Nat → Int32} (hr : mr 2 = 0) (ht : mt 2 = 0) : o_Tc_passes (uc, uh) 8192 up ∧ o_Mo_reads (v, ma, ms, mf, mb, mr, mt, mi, mg) mp ∧ ((∃ k x uh' mt' mi' mg', f_Tc_passes (uc, uh) 8192 up = (0, (k, x), uh') ∧ f_Mo_reads (v, ma, ms, mf, mb, mr, mt, mi, mg) mp = (0, mo_w v k x, ma, ms, mf, mb, mr, mt', mi', mg') ∧ (∀ x, x < 2 → mt' x = mt x) ∧ (∀ x, x < 6 → mi' x = mi x) ∧ ∀ x, x < 48 → mg' x = mg x) ∨ ∃ uh' vm' n' m' ma' ms' mf' mb' mr' mt' mi' mg', f_Tc_passes (uc, uh) 8192 up = (1, (0, 0), uh') ∧ o_Desk_takeCore (has, vm, vt) up (0, 0) uh' ∧ f_Desk_takeCore (has, vm, vt) up (0, 0) uh' = (1, vm', f_Tt_become vt uh') ∧ f_Mo_reads (v, ma, ms, mf, mb, mr, mt, mi, mg) mp = (1, v, ma', ms', mf', mb', mr', mt', mi', mg') ∧ mr_rel vm' ma' ms' mf' mb' mr' 2 n' ∧ tt_rel uh' mt' mi' mg' 2 m' ∧ (∀ k, k < 12 → ma' k = ma k ∧ ms' k = ms k ∧ mf' k = mf k) ∧ (∀ x, x < 12288 → mb' x = mb x) ∧ (∀ k, k < 2 → mr' k = mr k) ∧ (∀ x, x < 2 → mt' x = mt x) ∧ (∀ x, x < 6 → mi' x = mi x) ∧ ∀ x, x < 48 → mg' x = mg x) := by
  have d : ¬ (1 : Int32) = 0 := by decide
  obtain ⟨t1, g, t2, t3⟩ := pu_ttclear uh
  obtain ⟨h1, h2, h3⟩ := e_head h (u := (0, 0)) (v := v) hv
  unfold o_Tc_passes f_Tc_passes o_Mo_reads f_Mo_reads
  dsimp only
  rcases h3 with ⟨h3, h4, c, hc⟩ | ⟨k, x, h3, h4⟩
  · obtain ⟨q1, q2, -⟩ := tp_p h hc (0, 0)
    have hc7 := hc.2.2.1
    have hc1 := hc.2.1
    have hcL := hc.2.2.2
    have two : o_Mo_twoAt v mp 44 := (tp_2 h v (p := 44) (by omega)).2.1
    have two' : f_Mo_twoAt v mp 44 = nI c := hc.1
    rw [h3, h4, if_neg d, if_neg d]
    dsimp only
    rw [two']
    unfold o_Tc_entriesPass f_Tc_entriesPass
    rw [q2]
    obtain ⟨e1, e2⟩ := e_ents h hc (0, 0) (0, 0) (S0 := (v, ma, ms, mf, mb, mr, mt, mi, mg)) (S := (v, ma, ms, mf, mb, mr, mt, mi, mg)) hv 8 c 0 (by omega) (by omega) (fun j hj => by omega)
    rw [show nI 0 = (0 : Int32) from rfl] at e1 e2
    rcases e2 with ⟨e2, e3, e4, e5⟩ | ⟨k, x, e2, e3, e4⟩
    · rw [e2, if_neg d]
      dsimp only
      have tt0 : tt_rel (f_Tt_clear uh) mt mi mg 2 0 := by
        rw [t2]
        exact ⟨by omega, by omega, rfl, ht, fun i hi => by omega, fun i hi => by omega⟩
      obtain ⟨n1, n2, mt', mi', mg', n3, n4, n5, n6⟩ := e_notes h hc (e3 0 hc.2.1) (0, 0) v tt0
      have c1 : nI c ≤ nI c := (nI_leI (by omega) (by omega)).mpr (Nat.le_refl c)
      rw [o_Mo_reads_L18] at e4
      rw [e5, f_Mo_reads_L18, if_pos c1]
      dsimp only at e4 ⊢
      rcases n6 with ⟨x, ut', n6, n7⟩ | ⟨ut', m', n6, n7, n8⟩
      · rw [n7] at e4
        rw [n6, n7, if_pos rfl, if_pos rfl]
        exact ⟨⟨t1, h1, fun _ => ⟨q1, e1⟩, fun _ _ => n1⟩, ⟨h2, fun _ => two, fun _ => e4 ⟨fun _ => n2, fun _ q => absurd rfl q, fun q => absurd c1 q, fun q => absurd c1 q⟩⟩, Or.inl ⟨6, x, ut', mt', mi', mg', rfl, rfl, n3, n4, n5⟩⟩
      · rw [n7] at e4
        rw [n6, n7, if_neg d, if_neg d]
        obtain ⟨b1, -⟩ := tt_shift (t' := vt) (mi' := fun x => mi' (x + 3)) (mg' := fun x => mg' (x + 24)) (mt' := fun _ => nI m') n8 (fun i hi => ⟨by rw [show 3 + i + 3 = 6 + i by omega], fun r hr => by rw [show 8 * (3 + i) + r + 24 = 8 * (6 + i) + r by omega]⟩) rfl
        obtain ⟨k1, k2, vm', ma', ms', mf', mb', mr', k3, k4, k5, k6, k7, k8⟩ := e_takeL h hc e3 (Sc := (has, vm, vt)) (0, 0) ut' v (S0 := (ma, ms, mf, mb, mr)) b1 8 0 (f_Mem_clear vm) ma ms mf mb mr (by omega) (by omega) (mr_nil hm ma ms mf mb hr) (fun j hj => by omega)
        rw [show nI (0 + 1) = (1 : Int32) from rfl] at k1 k2 k3 k4
        have rr : f_Mo_readRegions v (ma, ms, mf, mb, mr) mp (nI c) = (ma', ms', mf', mb', mr') := k4
        dsimp only at e4 ⊢
        rw [rr]
        refine ⟨⟨t1, h1, fun _ => ⟨q1, e1⟩, fun _ _ => n1⟩, ⟨h2, fun _ => two, fun _ => e4 ⟨fun _ => n2, fun _ _ => k2, fun q => absurd c1 q, fun q => absurd c1 q⟩⟩, Or.inr ⟨ut', vm', c - 1, m', ma', ms', mf', mb', mr', mt', mi', mg', rfl, ?_, ?_, rfl, k5, n8, k6, k7, k8, n3, n4, n5⟩⟩
        · unfold o_Desk_takeCore
          rw [q2]
          exact ⟨q1, k1⟩
        · unfold f_Desk_takeCore
          rw [q2]
          exact k3
    · rw [e2, e4, if_pos rfl]
      exact ⟨⟨t1, h1, fun _ => ⟨q1, e1⟩, fun _ q => absurd rfl q⟩, ⟨h2, fun _ => two, fun _ => e3⟩, Or.inl ⟨k, x, _, mt, mi, mg, rfl, rfl, fun _ _ => rfl, fun _ _ => rfl, fun _ _ => rfl⟩⟩
  · rw [h3, h4, if_pos rfl, if_pos rfl]
    exact ⟨⟨t1, h1, fun q => absurd rfl q, fun q => absurd rfl q⟩, ⟨h2, fun q => absurd rfl q, fun q => absurd rfl q⟩, Or.inl ⟨k, x, _, mt, mi, mg, rfl, rfl, fun _ _ => rfl, fun _ _ => rfl, fun _ _ => rfl⟩⟩
/-- load on both sides: both refuse, or both take the core -/
theorem e_load (h : rw_rel up 8192 sz mp L) {n : Nat} {vm : cd_Mem} (hm : mm_ok vm n) (has : cd_Has) (vt : cd_Tt) (uc : cd_Tc) (uh : cd_Tt) {v : cd_Mo} (hv : v.2.2.1 = nI L) {ma ms mf mb mr mt mi mg : Nat → Int32} : o_Tc_passes (uc, uh) 8192 up ∧ o_Mo_load (v, ma, ms, mf, mb, mr, mt, mi, mg) mp ∧ ((∃ k x uh' mr' mt' mi' mg', f_Tc_passes (uc, uh) 8192 up = (0, (k, x), uh') ∧ f_Mo_load (v, ma, ms, mf, mb, mr, mt, mi, mg) mp = (0, (1, v.2.1, v.2.2.1, v.2.2.2.1, k, x), ma, ms, mf, mb, mr', mt', mi', mg') ∧ (∀ x, x < 2 → mr' x = mr x) ∧ (∀ x, x < 2 → mt' x = mt x) ∧ (∀ x, x < 6 → mi' x = mi x) ∧ ∀ x, x < 48 → mg' x = mg x) ∨ ∃ uh' vm' vt' n' m' ma' ms' mf' mb' mr' mt' mi' mg', f_Tc_passes (uc, uh) 8192 up = (1, (0, 0), uh') ∧ o_Desk_takeCore (has, vm, vt) up (0, 0) uh' ∧ f_Desk_takeCore (has, vm, vt) up (0, 0) uh' = (1, vm', vt') ∧ f_Mo_load (v, ma, ms, mf, mb, mr, mt, mi, mg) mp = (nI n', (0, v.2.1, v.2.2.1, 1, 0, 0), ma', ms', mf', mb', mr', mt', mi', mg') ∧ mr_rel vm' ma' ms' mf' mb' mr' 1 n' ∧ tt_rel vt' mt' mi' mg' 1 m' ∧ (∀ k, k < 6 → ma' k = ma k ∧ ms' k = ms k ∧ mf' k = mf k) ∧ (∀ x, x < 6144 → mb' x = mb x) ∧ mr' 0 = mr 0 ∧ mt' 0 = mt 0 ∧ (∀ x, x < 3 → mi' x = mi x) ∧ ∀ x, x < 24 → mg' x = mg x) := by
  have d : ¬ (1 : Int32) = 0 := by decide
  obtain ⟨a1, a2, a3⟩ := e_reads h hm has vt uc uh (v := (0, v.2.1, v.2.2.1, v.2.2.2.1, 0, 0)) hv (ma := ma) (ms := ms) (mf := mf) (mb := mb) (mr := upd mr 2 0) (mt := upd mt 2 0) (mi := mi) (mg := mg) pu_upds pu_upds
  unfold o_Mo_load f_Mo_load
  dsimp only
  rw [pu_c2, show (1 : Int32).toNatClampNeg = 1 from rfl]
  rcases a3 with ⟨k, x, uh', mt', mi', mg', a3, a4, a5, a6, a7⟩ | ⟨uh', vm', n', m', ma', ms', mf', mb', mr', mt', mi', mg', a3, a4, a5, a6, a7, a8, a9, b1, b2, b3, b4, b5⟩
  · rw [a4, if_pos rfl]
    exact ⟨a1, ⟨pu_v2, pu_v2, a2, fun q => absurd rfl q, fun q => absurd rfl q, fun q => absurd rfl q, fun q => absurd rfl q, fun q => absurd rfl q⟩, Or.inl ⟨k, x, uh', _, mt', mi', mg', a3, rfl, fun x hx => pu_updn (by omega), fun x hx => (a5 x hx).trans (pu_updn (by omega)), a6, a7⟩⟩
  · rw [a6, if_neg d]
    dsimp only
    obtain ⟨c1, ma2, ms2, mf2, mb2, mi2, mg2, c2, c3, c4, c5, c6, c7, c8⟩ := pu_l69 (S0 := (v, ma, ms, mf, mb, mr, mt, mi, mg)) (mp := mp) (v := (0, v.2.1, v.2.2.1, v.2.2.2.1, 0, 0)) (ma := ma') (ms := ms') (mf := mf') (mb := mb') (mr := upd mr' 1 (mr' 2)) (mt := upd mt' 1 (mt' 2)) (mi := mi') (mg := mg') 7 0 ma' ms' mf' mb' (by omega) (by omega) (fun i hi => by omega) (fun _ _ => ⟨rfl, rfl, rfl⟩) (fun _ _ => rfl)
    rw [show nI 0 = (0 : Int32) from rfl] at c1 c2
    have r2 : mr' 2 = nI n' := a7.2.2.1
    have t2 : mt' 2 = nI m' := a8.2.2.2.1
    obtain ⟨-, s2⟩ := tt_shift (t' := vt) (mt' := upd mt' 1 (mt' 2)) a8 c6 (pu_upds.trans t2)
    refine ⟨a1, ⟨pu_v2, pu_v2, a2, fun _ => pu_v2, fun _ => pu_v1, fun _ => pu_v2, fun _ => pu_v1, fun _ => c1⟩, Or.inr ⟨uh', vm', f_Tt_become vt uh', n', m', ma2, ms2, mf2, mb2, upd mr' 1 (mr' 2), upd mt' 1 (mt' 2), mi2, mg2, a3, a4, a5, ?_, mr_shift a7 c3 (pu_upds.trans r2), s2, fun k hk => ?_, fun x hx => (c5 x (by omega)).trans (b1 x (by omega)), ?_, ?_, fun x hx => (c7 x (by omega)).trans (b4 x (by omega)), fun x hx => (c8 x (by omega)).trans (b5 x (by omega))⟩⟩
    · rw [c2, pu_upds, r2]
    · obtain ⟨e1, e2, e3⟩ := c4 k (by omega)
      obtain ⟨f1, f2, f3⟩ := a9 k (by omega)
      exact ⟨e1.trans f1, e2.trans f2, e3.trans f3⟩
    · exact (pu_updn (by omega)).trans ((b2 0 (by omega)).trans (pu_updn (by omega)))
    · exact (pu_updn (by omega)).trans ((b3 0 (by omega)).trans (pu_updn (by omega)))
end
