-- find: the least address at which a number stands
def fd_min (r : Int32) (Q : Int → Prop) : Prop := (r = -1 ∧ ∀ A, ¬ Q A) ∨ (0 ≤ r.toInt ∧ Q r.toInt ∧ ∀ A, Q A → r.toInt ≤ A)
theorem pu_nm1 {r : Int32} (h : 0 ≤ r.toInt) : ¬ r = -1 := fun q => by
  rw [q] at h
  exact absurd h (by decide)
theorem fd_uniq {r r' : Int32} {Q Q' : Int → Prop} (h : fd_min r Q) (h' : fd_min r' Q') (e : ∀ A, Q A ↔ Q' A) : r = r' := by
  rcases h with ⟨a1, a2⟩ | ⟨a1, a2, a3⟩
  · rcases h' with ⟨b1, b2⟩ | ⟨b1, b2, b3⟩
    · rw [a1, b1]
    · exact absurd ((e _).mpr b2) (a2 _)
  · rcases h' with ⟨b1, b2⟩ | ⟨b1, b2, b3⟩
    · exact absurd ((e _).mp a2) (b2 _)
    · rw [pu_eq]
      have := a3 _ ((e _).mpr b2)
      have := b3 _ ((e _).mp a2)
      omega
theorem fd_no {r : Int32} {Q Q' : Int → Prop} (h : fd_min r Q) (e : ∀ A, Q' A ↔ Q A) : fd_min r Q' := by
  rcases h with ⟨a1, a2⟩ | ⟨a1, a2, a3⟩
  · exact Or.inl ⟨a1, fun A q => a2 A ((e A).mp q)⟩
  · exact Or.inr ⟨a1, (e _).mpr a2, fun A q => a3 A ((e A).mp q)⟩
theorem fd_new {r b : Int32} {Q Q' : Int → Prop} (h : fd_min r Q) (e : ∀ A, Q' A ↔ Q A ∨ A = b.toInt) (hb : 0 ≤ b.toInt) (hr : r = -1 ∨ b.toInt < r.toInt) : fd_min b Q' := by
  refine Or.inr ⟨hb, (e _).mpr (Or.inr rfl), fun A q => ?_⟩
  rcases (e A).mp q with q | q
  · rcases h with ⟨a1, a2⟩ | ⟨a1, a2, a3⟩
    · exact absurd q (a2 A)
    · rcases hr with hr | hr
      · exact absurd hr (pu_nm1 a1)
      · have := a3 A q
        omega
  · omega
theorem fd_old {r b : Int32} {Q Q' : Int → Prop} (h : fd_min r Q) (e1 : ∀ A, Q A → Q' A) (e2 : ∀ A, Q' A → Q A ∨ A = b.toInt) (hr : ¬ r = -1) (hb : r.toInt ≤ b.toInt) : fd_min r Q' := by
  rcases h with ⟨a1, a2⟩ | ⟨a1, a2, a3⟩
  · exact absurd a1 hr
  · refine Or.inr ⟨a1, e1 _ a2, fun A q => ?_⟩
    rcases e2 A q with q | q
    · exact a3 A q
    · omega
def cf_hit (u : cd_Mem) (n : Nat) (v x : Int32) (i d : Nat) : Prop := i < n ∧ (d : Int) + 4 ≤ (mm_rg u i).2.1.toInt ∧ x.toInt ≤ (mm_rg u i).1.toInt + d ∧ f_Reg_numberAt (mm_rg u i) (nI d) = v
theorem pu_search22 {u : cd_Mem} {i s : Nat} (v x : Int32) (hs : (mm_rg u i).2.1 = nI s) (h1 : 64 ≤ s) (h2 : s ≤ 1024) : ∀ (g d : Nat), d < 2147483648 → s - d < g → o_Reg_search_L22 (mm_rg u i) v x g (nI d) ∧ ((f_Reg_search_L22 (mm_rg u i) v x g (nI d) = -1 ∧ ∀ d', d ≤ d' → d' + 4 ≤ s → ¬ f_Reg_numberAt (mm_rg u i) (nI d') = v) ∨ ∃ d', d ≤ d' ∧ d' + 4 ≤ s ∧ f_Reg_search_L22 (mm_rg u i) v x g (nI d) = (mm_rg u i).1 + nI d' ∧ f_Reg_numberAt (mm_rg u i) (nI d') = v ∧ ∀ d'', d ≤ d'' → d'' < d' → ¬ f_Reg_numberAt (mm_rg u i) (nI d'') = v) := by
  intro g
  induction g with
  | zero => intro d _ h; omega
  | succ g ih =>
    intro d hd hg
    unfold o_Reg_search_L22 f_Reg_search_L22
    have e4 : (mm_rg u i).2.1 - 4 = nI (s - 4) := by
      rw [hs, pu_eq, show (4 : Int32) = nI 4 from rfl, pu_sub (by rw [nI_toInt (by omega), nI_toInt (by omega)]; omega) (by rw [nI_toInt (by omega), nI_toInt (by omega)]; omega), nI_toInt (by omega), nI_toInt (by omega), nI_toInt (by omega)]
      omega
    rw [e4]
    by_cases c : s - 4 < d
    · have c1 : nI (s - 4) < nI d := (nI_ltI (by omega) (by omega)).mpr c
      rw [if_pos c1]
      exact ⟨⟨fun q => absurd c1 q, fun q => absurd c1 q⟩, Or.inl ⟨rfl, fun d' a b => by omega⟩⟩
    · have c1 : ¬ nI (s - 4) < nI d := fun q => c ((nI_ltI (by omega) (by omega)).mp q)
      rw [if_neg c1, nI_1]
      have o1 : o_Reg_numberAt (mm_rg u i) (nI d) := mm_read (by omega)
      by_cases c2 : f_Reg_numberAt (mm_rg u i) (nI d) = v
      · rw [if_pos c2]
        exact ⟨⟨fun _ => o1, fun _ q => absurd c2 q⟩, Or.inr ⟨d, Nat.le_refl _, by omega, rfl, c2, fun d'' a b => by omega⟩⟩
      · rw [if_neg c2]
        obtain ⟨i1, i2⟩ := ih (d + 1) (by omega) (by omega)
        refine ⟨⟨fun _ => o1, fun _ _ => i1⟩, ?_⟩
        rcases i2 with ⟨j1, j2⟩ | ⟨d', j1, j2, j3, j4, j5⟩
        · refine Or.inl ⟨j1, fun d' a b => ?_⟩
          by_cases e : d' = d
          · rw [e]; exact c2
          · exact j2 d' (by omega) b
        · refine Or.inr ⟨d', by omega, j2, j3, j4, fun d'' a b => ?_⟩
          by_cases e : d'' = d
          · rw [e]; exact c2
          · exact j5 d'' (by omega) b
theorem pu_search {u : cd_Mem} {n i : Nat} (h : mm_ok u n) (hi : i < n) (v x : Int32) : o_Reg_search (mm_rg u i) v x ∧ ((f_Reg_search (mm_rg u i) v x = -1 ∧ ∀ d, ¬ cf_hit u n v x i d) ∨ ∃ d, f_Reg_search (mm_rg u i) v x = (mm_rg u i).1 + nI d ∧ cf_hit u n v x i d ∧ ∀ d', d' < d → ¬ cf_hit u n v x i d') := by
  obtain ⟨k1, k2, k3, k4, k5, k6, -⟩ := h.2.2.2.2.1 i hi
  obtain ⟨s, hs0, hs, hs1⟩ := pu_of (x := (mm_rg u i).2.1) (by omega)
  unfold o_Reg_search f_Reg_search
  by_cases c : x ≤ (mm_rg u i).1
  · rw [if_pos c]
    obtain ⟨a1, a2⟩ := pu_search22 (u := u) (i := i) v x hs (by omega) (by omega) 1025 0 (by omega) (by omega)
    rw [show nI 0 = (0 : Int32) from rfl] at a1 a2
    rw [pu_le] at c
    refine ⟨⟨fun _ => a1, fun q => absurd (pu_le.mpr c) q⟩, ?_⟩
    rcases a2 with ⟨j1, j2⟩ | ⟨d', j1, j2, j3, j4, j5⟩
    · exact Or.inl ⟨j1, fun d q => j2 d (by omega) (by have := q.2.1; omega) q.2.2.2⟩
    · exact Or.inr ⟨d', j3, ⟨hi, by omega, by omega, j4⟩, fun d q r => j5 d (by omega) q r.2.2.2⟩
  · rw [if_neg c]
    have c0 := c
    rw [pu_le] at c
    have hr := pu_rng x
    obtain ⟨d0, hd0, ed0, ed1⟩ := pu_of (x := x - (mm_rg u i).1) (by rw [pu_sub (by omega) (by omega)]; omega)
    rw [pu_sub (by omega) (by omega)] at ed1
    rw [ed0]
    obtain ⟨a1, a2⟩ := pu_search22 (u := u) (i := i) v x hs (by omega) (by omega) 1025 d0 (by omega) (by omega)
    refine ⟨⟨fun q => absurd q c0, fun _ => a1⟩, ?_⟩
    rcases a2 with ⟨j1, j2⟩ | ⟨d', j1, j2, j3, j4, j5⟩
    · exact Or.inl ⟨j1, fun d q => j2 d (by have := q.2.2.1; omega) (by have := q.2.1; omega) q.2.2.2⟩
    · exact Or.inr ⟨d', j3, ⟨hi, by omega, by omega, j4⟩, fun d q r => j5 d (by have := r.2.2.1; omega) q r.2.2.2⟩
def cf_Q (u : cd_Mem) (n : Nat) (v x : Int32) (A : Int) : Prop := ∃ i d, cf_hit u n v x i d ∧ A = (mm_rg u i).1.toInt + d
theorem pu_ad {u : cd_Mem} {n i d : Nat} (h : mm_ok u n) (hi : i < n) (hd : (d : Int) + 4 ≤ (mm_rg u i).2.1.toInt) : ((mm_rg u i).1 + nI d).toInt = (mm_rg u i).1.toInt + d := by
  obtain ⟨k1, k2, k3, k4, k5, k6, -⟩ := h.2.2.2.2.1 i hi
  rw [pu_add (by rw [nI_toInt (by omega)]; omega) (by rw [nI_toInt (by omega)]; omega), nI_toInt (by omega)]
theorem pu_msearch {u : cd_Mem} {n : Nat} (h : mm_ok u n) (v x : Int32) : ∀ (g i : Nat), i ≤ n → n - i < g → (∀ i', i' < i → ∀ d, ¬ cf_hit u n v x i' d) → o_Mem_search_L2 u v x g (nI i) ∧ fd_min (f_Mem_search_L2 u v x g (nI i)) (cf_Q u n v x) := by
  have hn := h.1
  have hc := h.2.1
  intro g
  induction g with
  | zero => intro i _ h; omega
  | succ g ih =>
    intro i hi hg hb
    unfold o_Mem_search_L2 f_Mem_search_L2
    rw [hc, nI_clamp (by omega), nI_1]
    by_cases c : n ≤ i
    · have c1 : nI n ≤ nI i := (nI_leI (by omega) (by omega)).mpr c
      rw [if_pos c1]
      refine ⟨⟨fun q => absurd c1 q, fun q => absurd c1 q, fun q => absurd c1 q⟩, Or.inl ⟨rfl, fun A q => ?_⟩⟩
      obtain ⟨i', d', q, -⟩ := q
      exact hb i' (by have := q.1; omega) d' q
    · have c1 : ¬ nI n ≤ nI i := fun q => c ((nI_leI (by omega) (by omega)).mp q)
      rw [if_neg c1]
      obtain ⟨s1, s2⟩ := pu_search h (i := i) (by omega) v x
      have v6 : vp_in (nI i) 6 := vp_in_nI (by omega) (by omega)
      rcases s2 with ⟨s2, s3⟩ | ⟨d, s2, s3, s4⟩
      · have s2' : f_Reg_search (u.2.2 (u.2.1 i)) v x = -1 := s2
        rw [if_pos s2']
        obtain ⟨i1, i2⟩ := ih (i + 1) (by omega) (by omega) (fun i' hi' d => by
          by_cases e : i' = i
          · rw [e]; exact s3 d
          · exact hb i' (by omega) d)
        exact ⟨⟨fun _ => v6, fun _ => s1, fun _ _ => i1⟩, i2⟩
      · have ea := pu_ad h (i := i) (d := d) (by omega) s3.2.1
        have ka := (h.2.2.2.2.1 i (by omega)).1
        have s2' : f_Reg_search (u.2.2 (u.2.1 i)) v x = (mm_rg u i).1 + nI d := s2
        have d1 : ¬ (mm_rg u i).1 + nI d = -1 := pu_nm1 (by rw [ea]; omega)
        rw [s2', if_neg d1]
        refine ⟨⟨fun _ => v6, fun _ => s1, fun _ q => absurd q d1⟩, Or.inr ⟨by rw [ea]; omega, ⟨i, d, s3, ea⟩, fun A q => ?_⟩⟩
        obtain ⟨i', d', q, rfl⟩ := q
        rw [ea]
        rcases Nat.lt_trichotomy i' i with e | e | e
        · exact absurd q (hb i' e d')
        · subst e
          have : ¬ d' < d := fun z => s4 d' z q
          omega
        · have := h.2.2.2.2.2.1 i i' e q.1
          have := s3.2.1
          omega
def rf_Q (u : cd_Mem) (n : Nat) (v x : Int32) (ta : Nat → Nat) (s d : Nat) (A : Int) : Prop := ∃ s' d', (s' < s ∨ (s' = s ∧ d' < d)) ∧ s' < n ∧ cf_hit u n v x (ta s') d' ∧ A = (mm_rg u (ta s')).1.toInt + d'
theorem rf_Q1 {u : cd_Mem} {n : Nat} {v x : Int32} {ta : Nat → Nat} {s d : Nat} (hs : s < n) (A : Int) : rf_Q u n v x ta s (d + 1) A ↔ (rf_Q u n v x ta s d A ∨ (cf_hit u n v x (ta s) d ∧ A = (mm_rg u (ta s)).1.toInt + d)) := by
  constructor
  · rintro ⟨s', d', h1, h2, h3, h4⟩
    by_cases e : s' = s ∧ d' = d
    · obtain ⟨e1, e2⟩ := e
      subst e1; subst e2
      exact Or.inr ⟨h3, h4⟩
    · exact Or.inl ⟨s', d', by omega, h2, h3, h4⟩
  · rintro (⟨s', d', h1, h2, h3, h4⟩ | ⟨h3, h4⟩)
    · exact ⟨s', d', by omega, h2, h3, h4⟩
    · exact ⟨s, d, by omega, hs, h3, h4⟩
theorem pu_find28 {vm : cd_Mem} {u v : cd_Mo} {ma ms mf mb mr : Nat → Int32} {n : Nat} (h : mr_rel vm ma ms mf mb mr 1 n) {ta : Nat → Nat} {s : Nat} (hs : s < n) (ht : ta s < n) (hsm : rg_sm (mm_rg vm (ta s)) (rr_rg ma ms mf mb (6 + s))) (w x : Int32) (K : Int32 → Int32 → Int32 → cd_Mo → Int32 × cd_Mo) (KO : Int32 → Int32 → Int32 → cd_Mo → Prop) (R : Int32 × cd_Mo → Prop) (HK : ∀ r y, fd_min r (rf_Q vm n w x ta (s + 1) 0) → KO r (nI (6 + s)) y v ∧ R (K r (nI (6 + s)) y v)) {z : Nat} (hz : ms (6 + s) = nI z) (hz1 : z ≤ 1024) : ∀ (g d : Nat) (r : Int32), d ≤ z → z - d < g → fd_min r (rf_Q vm n w x ta s d) → o_Mo_find_L28 u ma ms mb mr w x KO g r (nI (6 + s)) (nI d) v ∧ R (f_Mo_find_L28 u ma ms mb mr w x K g r (nI (6 + s)) (nI d) v) := by
  have hn := h.1.1
  have ea : ma (6 + s) = (mm_rg vm (ta s)).1 := hsm.1.symm
  have ez : (mm_rg vm (ta s)).2.1 = nI z := hsm.2.1.trans hz
  have ez2 : (mm_rg vm (ta s)).2.1.toInt = z := by rw [ez, nI_toInt (by omega)]
  obtain ⟨k1, k2, k3, k4, k5, k6, -⟩ := h.1.2.2.2.2.1 (ta s) ht
  have v18 : vp_in (nI (6 + s)) 18 := vp_in_nI (by omega) (by omega)
  intro g
  induction g with
  | zero => intro d r _ h; omega
  | succ g ih =>
    intro d r hd hg hr
    unfold o_Mo_find_L28 f_Mo_find_L28
    have e4 : nI d + (4 : Int32) = nI (d + 4) := nI_add d 4
    rw [nI_clamp (by omega), hz, e4, nI_1, ea]
    by_cases c : z < d + 4
    · have c1 : nI z < nI (d + 4) := (nI_ltI (by omega) (by omega)).mpr c
      rw [if_pos c1]
      obtain ⟨q1, q2⟩ := HK r (nI d) (fd_no hr (fun A => by
        constructor
        · rintro ⟨s', d', h1, h2, h3, h4⟩
          refine ⟨s', d', ?_, h2, h3, h4⟩
          by_cases e : s' = s
          · subst e
            have := h3.2.1
            omega
          · omega
        · rintro ⟨s', d', h1, h2, h3, h4⟩
          exact ⟨s', d', by omega, h2, h3, h4⟩))
      exact ⟨⟨v18, fun _ => q1, fun q => absurd c1 q, fun q => absurd c1 q, fun q => absurd c1 q, fun q => absurd c1 q, fun q => absurd c1 q, fun q => absurd c1 q, fun q => absurd c1 q, fun q => absurd c1 q, fun q => absurd c1 q⟩, q2⟩
    · have c1 : ¬ nI z < nI (d + 4) := fun q => c ((nI_ltI (by omega) (by omega)).mp q)
      rw [if_neg c1]
      have eA := pu_ad h.1 (i := ta s) (d := d) ht (by omega)
      have hA0 : 0 ≤ ((mm_rg vm (ta s)).1 + nI d).toInt := by rw [eA]; omega
      have eN : f_Mo_number v ma ms mb mr ((mm_rg vm (ta s)).1 + nI d).toInt64 = f_Reg_numberAt (mm_rg vm (ta s)) (nI d) := by
        rw [mr_num (v := v) h ((mm_rg vm (ta s)).1 + nI d) _ pl_i (by rw [eA]; omega), pu_numAt h.1 ht (by omega)]
      have oN : o_Mo_number v ma ms mb mr ((mm_rg vm (ta s)).1 + nI d).toInt64 := mr_onum h _
      rw [eN]
      have noHit : ¬ cf_hit vm n w x (ta s) d → o_Mo_find_L28 u ma ms mb mr w x KO g r (nI (6 + s)) (nI (d + 1)) v ∧ R (f_Mo_find_L28 u ma ms mb mr w x K g r (nI (6 + s)) (nI (d + 1)) v) := fun hh => ih (d + 1) r (by omega) (by omega) (fd_no hr (fun A => by
        rw [rf_Q1 hs]
        constructor
        · rintro (q | q)
          · exact q
          · exact absurd q.1 hh
        · exact Or.inl))
      by_cases c2 : (mm_rg vm (ta s)).1 + nI d < x
      · rw [if_pos c2]
        obtain ⟨i1, i2⟩ := noHit (fun q => by
          have := q.2.2.1
          rw [pu_lt, eA] at c2
          omega)
        exact ⟨⟨v18, fun q => absurd q c1, fun _ => v18, fun _ _ => i1, fun _ q => absurd c2 q, fun _ q => absurd c2 q, fun _ q => absurd c2 q, fun _ q => absurd c2 q, fun _ q => absurd c2 q, fun _ q => absurd c2 q, fun _ q => absurd c2 q⟩, i2⟩
      · rw [if_neg c2]
        have c2' := c2
        rw [pu_lt, eA] at c2'
        have yesHit : f_Reg_numberAt (mm_rg vm (ta s)) (nI d) = w → (r = -1 ∨ ((mm_rg vm (ta s)).1 + nI d).toInt < r.toInt) → o_Mo_find_L28 u ma ms mb mr w x KO g ((mm_rg vm (ta s)).1 + nI d) (nI (6 + s)) (nI (d + 1)) v ∧ R (f_Mo_find_L28 u ma ms mb mr w x K g ((mm_rg vm (ta s)).1 + nI d) (nI (6 + s)) (nI (d + 1)) v) := fun hw hh => ih (d + 1) _ (by omega) (by omega) (fd_new hr (fun A => by
          rw [rf_Q1 hs, eA]
          constructor
          · rintro (q | q)
            · exact Or.inl q
            · exact Or.inr q.2
          · rintro (q | q)
            · exact Or.inl q
            · exact Or.inr ⟨⟨ht, by omega, by omega, hw⟩, q⟩) hA0 hh)
        by_cases c3 : r = -1
        · rw [if_pos c3]
          by_cases c4 : f_Reg_numberAt (mm_rg vm (ta s)) (nI d) = w
          · rw [if_pos c4]
            obtain ⟨i1, i2⟩ := yesHit c4 (Or.inl c3)
            exact ⟨⟨v18, fun q => absurd q c1, fun _ => v18, fun _ q => absurd q c2, fun _ _ _ => oN, fun _ _ _ q => absurd c4 q, fun _ _ _ _ => i1, fun _ _ q => absurd c3 q, fun _ _ q => absurd c3 q, fun _ _ q => absurd c3 q, fun _ _ q => absurd c3 q⟩, i2⟩
          · rw [if_neg c4]
            obtain ⟨i1, i2⟩ := noHit (fun q => c4 q.2.2.2)
            exact ⟨⟨v18, fun q => absurd q c1, fun _ => v18, fun _ q => absurd q c2, fun _ _ _ => oN, fun _ _ _ _ => i1, fun _ _ _ q => absurd q c4, fun _ _ q => absurd c3 q, fun _ _ q => absurd c3 q, fun _ _ q => absurd c3 q, fun _ _ q => absurd c3 q⟩, i2⟩
        · rw [if_neg c3]
          by_cases c4 : r ≤ (mm_rg vm (ta s)).1 + nI d
          · rw [if_pos c4]
            have c4' := c4
            rw [pu_le] at c4'
            obtain ⟨i1, i2⟩ := ih (d + 1) r (by omega) (by omega) (fd_old (b := (mm_rg vm (ta s)).1 + nI d) hr (fun A q => (rf_Q1 hs A).mpr (Or.inl q)) (fun A q => by
              rcases (rf_Q1 hs A).mp q with q | q
              · exact Or.inl q
              · exact Or.inr (q.2.trans eA.symm)) c3 c4')
            exact ⟨⟨v18, fun q => absurd q c1, fun _ => v18, fun _ q => absurd q c2, fun _ _ q => absurd q c3, fun _ _ q => absurd q c3, fun _ _ q => absurd q c3, fun _ _ _ _ => i1, fun _ _ _ q => absurd c4 q, fun _ _ _ q => absurd c4 q, fun _ _ _ q => absurd c4 q⟩, i2⟩
          · rw [if_neg c4]
            have c4' := c4
            rw [pu_le] at c4'
            by_cases c5 : f_Reg_numberAt (mm_rg vm (ta s)) (nI d) = w
            · rw [if_pos c5]
              obtain ⟨i1, i2⟩ := yesHit c5 (Or.inr (by omega))
              exact ⟨⟨v18, fun q => absurd q c1, fun _ => v18, fun _ q => absurd q c2, fun _ _ q => absurd q c3, fun _ _ q => absurd q c3, fun _ _ q => absurd q c3, fun _ _ _ q => absurd q c4, fun _ _ _ _ => oN, fun _ _ _ _ q => absurd c5 q, fun _ _ _ _ _ => i1⟩, i2⟩
            · rw [if_neg c5]
              obtain ⟨i1, i2⟩ := noHit (fun q => c5 q.2.2.2)
              exact ⟨⟨v18, fun q => absurd q c1, fun _ => v18, fun _ q => absurd q c2, fun _ _ q => absurd q c3, fun _ _ q => absurd q c3, fun _ _ q => absurd q c3, fun _ _ _ q => absurd q c4, fun _ _ _ _ => oN, fun _ _ _ _ _ => i1, fun _ _ _ _ q => absurd q c5⟩, i2⟩
theorem pu_find11 {vm : cd_Mem} {u v : cd_Mo} {ma ms mf mb mr : Nat → Int32} {n : Nat} (h : mr_rel vm ma ms mf mb mr 1 n) {si ta : Nat → Nat} (s2 : ∀ k, k < n → ta k < n ∧ si (ta k) = k) (s3 : ∀ i, i < n → rg_sm (mm_rg vm i) (rr_rg ma ms mf mb (6 * 1 + si i))) (w x : Int32) : ∀ (g s : Nat) (r : Int32), s ≤ n → n - s < g → fd_min r (rf_Q vm n w x ta s 0) → o_Mo_find_L11 u ma ms mb mr w x g r (nI (6 + s)) v ∧ (f_Mo_find_L11 u ma ms mb mr w x g r (nI (6 + s)) v).2 = v ∧ fd_min (f_Mo_find_L11 u ma ms mb mr w x g r (nI (6 + s)) v).1 (rf_Q vm n w x ta n 0) := by
  have hn := h.1.1
  have hr1 : mr 1 = nI n := h.2.2.1
  intro g
  induction g with
  | zero => intro s r _ h; omega
  | succ g ih =>
    intro s r hs hg hr
    unfold o_Mo_find_L11 f_Mo_find_L11
    have e6 : (6 : Int32) + nI n = nI (6 + n) := nI_add 6 n
    rw [pu_c1, hr1, e6]
    by_cases c : n ≤ s
    · have c1 : nI (6 + n) ≤ nI (6 + s) := (nI_leI (by omega) (by omega)).mpr (by omega)
      have e : s = n := by omega
      subst e
      rw [if_pos c1]
      exact ⟨⟨pu_v1, fun q => absurd c1 q⟩, rfl, hr⟩
    · have c1 : ¬ nI (6 + n) ≤ nI (6 + s) := fun q => c (by have := (nI_leI (by omega) (by omega)).mp q; omega)
      rw [if_neg c1]
      obtain ⟨t1, t2⟩ := s2 s (by omega)
      have hsm := s3 (ta s) t1
      rw [t2] at hsm
      obtain ⟨k1, k2, k3, k4, k5, k6, -⟩ := h.1.2.2.2.2.1 (ta s) t1
      have e1 : (mm_rg vm (ta s)).2.1 = ms (6 + s) := hsm.2.1
      obtain ⟨z, hz0, hz, hz1⟩ := pu_of (x := ms (6 + s)) (by rw [← e1]; omega)
      have hz2 : z ≤ 1024 := by
        rw [← e1] at hz1
        omega
      have en : ∀ m : Nat, nI (6 + m) + 1 = nI (6 + (m + 1)) := fun m => nI_1 (6 + m)
      have key := pu_find28 (u := u) (v := v) h (s := s) (by omega) t1 hsm w x (fun (x3' : Int32) (x4' : Int32) (x5' : Int32) (u'' : cd_Mo) => f_Mo_find_L11 u ma ms mb mr w x g x3' (x4' + (1 : Int32)) u'') (fun (x3' : Int32) (x4' : Int32) (x5' : Int32) (u'' : cd_Mo) => o_Mo_find_L11 u ma ms mb mr w x g x3' (x4' + (1 : Int32)) u'') (fun p => p.2 = v ∧ fd_min p.1 (rf_Q vm n w x ta n 0)) (fun r y hr => by
        rw [en]
        exact ih (s + 1) r (by omega) (by omega) hr) hz hz2 1025 0 r (by omega) (by omega) hr
      exact ⟨⟨pu_v1, fun _ => key.1⟩, key.2⟩
/-- find on both sides -/
theorem e_find (u : cd_Has) {vm : cd_Mem} {v : cd_Mo} {ma ms mf mb mr : Nat → Int32} {n : Nat} (h : mr_rel vm ma ms mf mb mr 1 n) (w x : Int32) : o_Desk_find u vm w x ∧ o_Mo_find v ma ms mb mr w x ∧ f_Desk_find u vm w x = (f_Mo_find v ma ms mb mr w x).1 ∧ (f_Mo_find v ma ms mb mr w x).2 = mo_z v := by
  have hn := h.1.1
  have h0 := h
  obtain ⟨hm, ho, hr, si, ta, s1, s2, s3⟩ := h
  obtain ⟨a1, a2⟩ := pu_msearch hm w x 7 0 (by omega) (by omega) (fun i hi => by omega)
  obtain ⟨b1, b2, b3⟩ := pu_find11 (u := v) (v := mo_z v) h0 s2 s3 w x 7 0 (-1) (by omega) (by omega) (Or.inl ⟨rfl, fun A q => by
    obtain ⟨s', d', q, -⟩ := q
    omega⟩)
  refine ⟨a1, b1, fd_uniq a2 b3 (fun A => ?_), b2⟩
  constructor
  · rintro ⟨i, d, q, e⟩
    refine ⟨si i, d, Or.inl (s1 i q.1).1, (s1 i q.1).1, ?_, ?_⟩
    · rw [(s1 i q.1).2]
      exact q
    · rw [(s1 i q.1).2]
      exact e
  · rintro ⟨s', d', -, h2, h3, h4⟩
    exact ⟨ta s', d', h3, h4⟩
