theorem b8_fit {x : Int32} (h : fits .byte (.int x) = true) : b8 x = x := by
  have e := pu_nar h
  rw [vp_nar_byte] at e
  show vp_nar .byte x.toInt8.toInt32 = x
  rw [e]
  exact pu_nar h
abbrev rw_out := Int32 × cd_Mo × cd_By
section
variable {S0 : cd_Mo × cd_By} {um : cd_Mem} {ut : cd_Tt} {ma ms mf mb mr mt mi mg : Nat → Int32} {b : cd_Mo} {n t : Nat}
theorem fm_254 {K : Int32 → Int32 → Int32 → (cd_Mo × cd_By) → rw_out} {KO : Int32 → Int32 → Int32 → (cd_Mo × cd_By) → Prop} {R : rw_out → Prop} {L : List Int32} {f : Nat → Int32} {s z : Nat} (hs : s < 6) (hz : z ≤ 1024) (hf : ∀ d, d < z → mb (1024 * s + d) = f d ∧ fits .byte (.int (f d)) = true) (HK : ∀ S' x4, fm S' b L → KO (nI s) (nI z) x4 S' ∧ R (K (nI s) (nI z) x4 S')) : ∀ (F g d : Nat) (S : cd_Mo × cd_By) (l : List Int32), d + g = z → g < F → fm S b l → l ++ dl f g d = L → l.length + g ≤ 8192 → o_Mo_dump_L254 S0 ma ms mf mb mr mt mi mg KO F (nI s) (nI z) (nI d) S ∧ R (f_Mo_dump_L254 S0 ma ms mf mb mr mt mi mg K F (nI s) (nI z) (nI d) S) := by
  intro F
  induction F with
  | zero => intro g d S l _ h; omega
  | succ F ih =>
    intro g d S l hd hg h hL hl
    have e6 : (1024 : Int32) * nI s + nI d = nI (1024 * s + d) := by rw [show (1024 : Int32) = nI 1024 from rfl, pk_mul, nI_add]
    unfold o_Mo_dump_L254 f_Mo_dump_L254
    rw [e6, nI_1, nI_clamp (by omega)]
    cases g with
    | zero =>
      have c1 : nI z ≤ nI d := (nI_leI (by omega) (by omega)).mpr (by omega)
      rw [dl, List.append_nil] at hL
      subst hL
      rw [if_pos c1]
      obtain ⟨a1, a2⟩ := HK S (nI d) h
      exact ⟨⟨fun _ => a1, fun q => absurd c1 q, fun q => absurd c1 q, fun q => absurd c1 q⟩, a2⟩
    | succ g =>
      have c1 : ¬ nI z ≤ nI d := fun q => by have := (nI_leI (by omega) (by omega)).mp q; omega
      obtain ⟨f1, f2⟩ := hf d (by omega)
      rw [if_neg c1, f1]
      obtain ⟨a1, a2⟩ := fm_lay h (by omega) (f d)
      rw [b8_fit f2] at a2
      rw [dl, ← List.append_assoc] at hL
      obtain ⟨b1, b2⟩ := ih g (d + 1) _ _ (by omega) (by omega) a2 hL (by rw [ln1]; omega)
      exact ⟨⟨fun q => absurd q c1, fun _ => vp_in_nI (by omega) (by omega), fun _ => a1, fun _ => b1⟩, b2⟩
/-- what the reference keeps of the region at position i -/
theorem mr_at (h : mr_rel um ma ms mf mb mr 0 n) {si : Nat → Nat} (s1 : ∀ i, i < n → si i < n) (s3 : ∀ i, i < n → rg_sm (mm_rg um i) (rr_rg ma ms mf mb (6 * 0 + si i))) {i : Nat} (hi : i < n) (v : cd_Mo) : ma (si i) = (mm_rg um i).1 ∧ ms (si i) = (mm_rg um i).2.1 ∧ mf (si i) = (mm_rg um i).2.2.1 ∧ (∀ d, d < 1024 → mb (1024 * si i + d) = (mm_rg um i).2.2.2 d ∧ fits .byte (.int ((mm_rg um i).2.2.2 d)) = true) ∧ o_Mo_filled v ms mb (nI (si i)) ∧ f_Mo_filled v ms mb (nI (si i)) = nI (ur um i) := by
  have hn := h.1.1
  have hsi := s1 i hi
  obtain ⟨a1, a2, a3, a4⟩ := s3 i hi
  rw [show 6 * 0 + si i = si i by omega] at a1 a2 a3 a4
  dsimp only [rr_rg] at a1 a2 a3 a4
  have hf := h.1.2.2.2.2.2.2 _ (h.1.2.2.1 i (by omega))
  obtain ⟨k1, k2, k3, k4, k5, k6, -⟩ := h.1.2.2.2.2.1 i hi
  obtain ⟨s, e1, e2, e3⟩ := pu_of (x := (mm_rg um i).2.1) (by omega)
  have hs : (mm_rg um i).2.1.toInt.toNat = s := by omega
  obtain ⟨p1, p2⟩ := pu_filled (u := v) (ms := ms) (mb := mb) (k := si i) (s := s) (by omega) (by rw [← a2]; exact e2) (by omega)
  refine ⟨a1.symm, a2.symm, a3.symm, fun d hd => ⟨(a4 d hd).symm, hf d⟩, p1, p2.trans ?_⟩
  unfold ur
  rw [hs]
  congr 1
  exact us_cong s (fun j hj => (a4 j (by omega)).symm)
theorem mr_nx (h : mr_rel um ma ms mf mb mr 0 n) {si ta : Nat → Nat} (s1 : ∀ i, i < n → si i < n ∧ ta (si i) = i) (s2 : ∀ k, k < n → ta k < n ∧ si (ta k) = k) (s3 : ∀ i, i < n → rg_sm (mm_rg um i) (rr_rg ma ms mf mb (6 * 0 + si i))) (v : cd_Mo) : (o_Mo_above v ma mr (-1) ∧ f_Mo_above v ma mr (-1) = nx si n 0) ∧ ∀ i, i < n → o_Mo_above v ma mr (mm_rg um i).1 ∧ f_Mo_above v ma mr (mm_rg um i).1 = nx si n (i + 1) := by
  have hok := h.1.2.2.2.2.1
  have hs := h.1.2.2.2.2.2.1
  refine ⟨pu_above h s1 s2 s3 (-1) 0 (by omega) (fun j hj => ?_), fun i hi => pu_above h s1 s2 s3 _ (i + 1) (by omega) (fun j hj => ?_)⟩
  · have := (hok j hj).1
    have e : (-1 : Int32).toInt = -1 := by decide
    omega
  · constructor
    · intro q
      have : ¬ i < j := fun z => by
        have := hs i j z hj
        have := (hok i hi).2.2.1
        omega
      omega
    · intro q
      by_cases e : j = i
      · rw [e]; exact Int.le_refl _
      · have := hs j i (by omega) hi
        have := (hok j hj).2.2.1
        omega
theorem fm_240 {R : rw_out → Prop} {L : List Int32} (hL0 : L.length ≤ 8192) (h : mr_rel um ma ms mf mb mr 0 n) {si ta : Nat → Nat} (s1 : ∀ i, i < n → si i < n ∧ ta (si i) = i) (s2 : ∀ k, k < n → ta k < n ∧ si (ta k) = k) (s3 : ∀ i, i < n → rg_sm (mm_rg um i) (rr_rg ma ms mf mb (6 * 0 + si i))) (HR : ∀ S, fm S b L → R (S.1.2.1, S.1, S.2)) : ∀ (F g i : Nat) (S : cd_Mo × cd_By) (l : List Int32), i + g = n → g < F → fm S b l → l ++ dts um g i = L → o_Mo_dump_L240 S0 ma ms mf mb mr mt mi mg F (nx si n i) S ∧ R (f_Mo_dump_L240 S0 ma ms mf mb mr mt mi mg F (nx si n i) S) := by
  have hn := h.1.1
  intro F
  induction F with
  | zero => intro g i S l _ h; omega
  | succ F ih =>
    intro g i S l hi hg hu hL
    unfold o_Mo_dump_L240 f_Mo_dump_L240
    cases g with
    | zero =>
      have c1 : nx si n i = -1 := by unfold nx; rw [if_neg (by omega)]
      rw [dts, List.append_nil] at hL
      subst hL
      rw [c1, if_pos rfl]
      exact ⟨⟨fun q => absurd rfl q, fun q => absurd rfl q⟩, HR S hu⟩
    | succ g =>
      have hsi := (s1 i (by omega)).1
      have c0 : nx si n i = nI (si i) := by unfold nx; rw [if_pos (by omega)]
      have c1 : ¬ nI (si i) = -1 := pu_m1 (by omega)
      obtain ⟨m1, m2, m3, m4, m5, m6⟩ := mr_at h (fun i hi => (s1 i hi).1) s3 (i := i) (by omega) S.1
      obtain ⟨u1, -, -⟩ := ur_ok h.1 (i := i) (by omega)
      rw [c0, if_neg c1, m6]
      rw [dts, ← List.append_assoc] at hL
      have hlen : l.length + ur um i ≤ 8192 := by
        rw [← hL, List.length_append, List.length_append, dl_len] at hL0
        omega
      have key := fm_254 (S0 := S0) (ma := ma) (ms := ms) (mf := mf) (mr := mr) (mt := mt) (mi := mi) (mg := mg) (mb := mb) (b := b) (K := fun (x2' : Int32) (x3' : Int32) (x4' : Int32) (S'' : cd_Mo × cd_By) => (f_Mo_dump_L240 S0 ma ms mf mb mr mt mi mg F (f_Mo_above S''.1 ma mr (ma x2'.toNatClampNeg)) S'')) (KO := fun (x2' : Int32) (x3' : Int32) (x4' : Int32) (S'' : cd_Mo × cd_By) => (vp_in x2' 18) ∧ (o_Mo_above S''.1 ma mr (ma x2'.toNatClampNeg)) ∧ (o_Mo_dump_L240 S0 ma ms mf mb mr mt mi mg F (f_Mo_above S''.1 ma mr (ma x2'.toNatClampNeg)) S'')) (R := R) (L := l ++ dl (mm_rg um i).2.2.2 (ur um i) 0) (f := (mm_rg um i).2.2.2) (s := si i) (z := ur um i) (by omega) u1 (fun d hd => m4 d (by omega)) (fun S' x4 hS' => by
        obtain ⟨n1, n2⟩ := (mr_nx h s1 s2 s3 S'.1).2 i (by omega)
        obtain ⟨b1, b2⟩ := ih g (i + 1) S' _ (by omega) (by omega) hS' hL
        rw [nI_clamp (by omega), m1, n2]
        exact ⟨⟨vp_in_nI (by omega) (by omega), n1, b1⟩, b2⟩) 1025 (ur um i) 0 S l (by omega) (by omega) hu rfl hlen
      exact ⟨⟨fun _ => m5, fun _ => key.1⟩, key.2⟩
theorem fm_201 {K : Int32 → Int32 → (cd_Mo × cd_By) → rw_out} {KO : Int32 → Int32 → (cd_Mo × cd_By) → Prop} {R : rw_out → Prop} {L : List Int32} {f : Nat → Int32} {i : Nat} (hi : i < 3) (hf : ∀ r, r < 8 → mg (8 * i + r) = f r) (HK : ∀ S' x, fm S' b L → KO (nI i) x S' ∧ R (K (nI i) x S')) : ∀ (F g r : Nat) (S : cd_Mo × cd_By) (l : List Int32), r + g = 8 → g < F → fm S b l → l ++ rl f g r = L → l.length + 4 * g ≤ 8192 → o_Mo_dump_L201 S0 ma ms mf mb mr mt mi mg KO F (nI i) (nI r) S ∧ R (f_Mo_dump_L201 S0 ma ms mf mb mr mt mi mg K F (nI i) (nI r) S) := by
  intro F
  induction F with
  | zero => intro g r S l _ h; omega
  | succ F ih =>
    intro g r S l hr hg h hL hl
    have e6 : (8 : Int32) * nI i + nI r = nI (8 * i + r) := by rw [show (8 : Int32) = nI 8 from rfl, pk_mul, nI_add]
    unfold o_Mo_dump_L201 f_Mo_dump_L201
    rw [e6, nI_1, nI_clamp (by omega)]
    cases g with
    | zero =>
      have c1 : (8 : Int32) ≤ nI r := (nI_leI (a := 8) (by omega) (by omega)).mpr (by omega)
      rw [rl, List.append_nil] at hL
      subst hL
      rw [if_pos c1]
      obtain ⟨a1, a2⟩ := HK S (nI r) h
      exact ⟨⟨fun _ => a1, fun q => absurd c1 q, fun q => absurd c1 q, fun q => absurd c1 q⟩, a2⟩
    | succ g =>
      have c1 : ¬ (8 : Int32) ≤ nI r := fun q => by have := (nI_leI (a := 8) (by omega) (by omega)).mp q; omega
      rw [if_neg c1, hf r (by omega)]
      obtain ⟨a1, a2⟩ := fm_four h (by omega) (f r)
      rw [rl, ← List.append_assoc] at hL
      obtain ⟨b1, b2⟩ := ih g (r + 1) _ _ (by omega) (by omega) a2 hL (by rw [ln4]; omega)
      exact ⟨⟨fun q => absurd q c1, fun _ => vp_in_nI (by omega) (by omega), fun _ => a1, fun _ => b1⟩, b2⟩
theorem nl_eq : nl 8 0 = [b8 67] ++ [b8 79] ++ [b8 82] ++ [b8 69] ++ w4 0 := by
  have e : w4 0 = [b8 0, b8 0, b8 0, b8 0] := by
    show [b8 0, b8 ((0 : Int32) >>> ((8 : Int32) &&& 31)), b8 ((0 : Int32) >>> ((16 : Int32) &&& 31)), b8 ((0 : Int32) >>> ((16 : Int32) &&& 31) >>> ((8 : Int32) &&& 31))] = _
    rw [show (0 : Int32) >>> ((16 : Int32) &&& 31) = 0 by decide, show (0 : Int32) >>> ((8 : Int32) &&& 31) = 0 by decide]
  rw [e]
  rfl
theorem fm_134 {R : rw_out → Prop} {L : List Int32} (hL0 : L.length ≤ 8192) (h : mr_rel um ma ms mf mb mr 0 n) (ht : tt_rel ut mt mi mg 0 t) {si ta : Nat → Nat} (s1 : ∀ i, i < n → si i < n ∧ ta (si i) = i) (s2 : ∀ k, k < n → ta k < n ∧ si (ta k) = k) (s3 : ∀ i, i < n → rg_sm (mm_rg um i) (rr_rg ma ms mf mb (6 * 0 + si i))) (HR : ∀ S, fm S b L → R (S.1.2.1, S.1, S.2)) : ∀ (F g i : Nat) (S : cd_Mo × cd_By) (l : List Int32), i + g = t → g < F → fm S b l → l ++ nts ut g i ++ dts um n 0 = L → o_Mo_dump_L134 S0 ma ms mf mb mr mt mi mg F (nI i) S ∧ R (f_Mo_dump_L134 S0 ma ms mf mb mr mt mi mg F (nI i) S) := by
  have hn := h.1.1
  obtain ⟨a1, a2, a3, a4, a5, a6⟩ := ht
  intro F
  induction F with
  | zero => intro g i S l _ h; omega
  | succ F ih =>
    intro g i S l hi hg hu hL
    unfold o_Mo_dump_L134 f_Mo_dump_L134
    rw [pu_cz, a4, nI_clamp (by omega)]
    cases g with
    | zero =>
      have c1 : nI t ≤ nI i := (nI_leI (by omega) (by omega)).mpr (by omega)
      rw [nts, List.append_nil] at hL
      obtain ⟨n1, n2⟩ := (mr_nx h s1 s2 s3 S.1).1
      obtain ⟨b1, b2⟩ := fm_240 (S0 := S0) (mt := mt) (mi := mi) (mg := mg) hL0 h s1 s2 s3 HR 7 n 0 S l (by omega) (by omega) hu hL
      rw [if_pos c1, n2]
      exact ⟨⟨pu_v0, fun _ => n1, fun _ => b1, fun q => absurd c1 q, fun q => absurd c1 q, fun q => absurd c1 q, fun q => absurd c1 q, fun q => absurd c1 q, fun q => absurd c1 q, fun q => absurd c1 q, fun q => absurd c1 q, fun q => absurd c1 q, fun q => absurd c1 q, fun q => absurd c1 q⟩, b2⟩
    | succ g =>
      have c1 : ¬ nI t ≤ nI i := fun q => by have := (nI_leI (by omega) (by omega)).mp q; omega
      have e5 := a5 i (by omega)
      rw [show 3 * 0 + i = i by omega] at e5
      rw [nts, ← List.append_assoc] at hL
      have hlen : l.length + 56 ≤ 8192 := by
        rw [← hL, List.length_append, List.length_append, List.length_append, nt_len] at hL0
        omega
      rw [if_neg c1, ← e5]
      obtain ⟨p1, q1⟩ := fm_four hu (by omega) 5
      obtain ⟨p2, q2⟩ := fm_four q1 (by simp only [ln4]; omega) 36
      obtain ⟨p3, q3⟩ := fm_four q2 (by simp only [ln4]; omega) 1
      obtain ⟨p4, q4⟩ := fm_lay q3 (by simp only [ln4]; omega) 67
      obtain ⟨p5, q5⟩ := fm_lay q4 (by simp only [ln4, ln1]; omega) 79
      obtain ⟨p6, q6⟩ := fm_lay q5 (by simp only [ln4, ln1]; omega) 82
      obtain ⟨p7, q7⟩ := fm_lay q6 (by simp only [ln4, ln1]; omega) 69
      obtain ⟨p8, q8⟩ := fm_four q7 (by simp only [ln4, ln1]; omega) 0
      obtain ⟨p9, q9⟩ := fm_four q8 (by simp only [ln4, ln1]; omega) (ut.2.1 i)
      have key := fm_201 (S0 := S0) (ma := ma) (ms := ms) (mf := mf) (mr := mr) (mt := mt) (mi := mi) (mg := mg) (mb := mb) (b := b) (K := fun (x2'' : Int32) (x3'' : Int32) (S''' : cd_Mo × cd_By) => (f_Mo_dump_L134 S0 ma ms mf mb mr mt mi mg F (x2'' + (1 : Int32)) S''')) (KO := fun (x2'' : Int32) (x3'' : Int32) (S''' : cd_Mo × cd_By) => (o_Mo_dump_L134 S0 ma ms mf mb mr mt mi mg F (x2'' + (1 : Int32)) S''')) (R := R) (L := l ++ nt ut i) (f := fun r => ut.2.2 (8 * i + r)) (i := i) (by omega) (fun r hr => by
        have := a6 i (by omega) r hr
        rw [show 3 * 0 + i = i by omega] at this
        exact this.symm) (fun S' x hS' => by
        rw [nI_1]
        exact ih g (i + 1) S' _ (by omega) (by omega) hS' hL) 9 8 0 _ _ (by omega) (by omega) q9 (by
        unfold nt
        rw [nl_eq]
        simp only [List.append_assoc]) (by simp only [ln4, ln1]; omega)
      exact ⟨⟨pu_v0, fun q => absurd q c1, fun q => absurd q c1, fun _ => p1, fun _ => p2, fun _ => p3, fun _ => p4, fun _ => p5, fun _ => p6, fun _ => p7, fun _ => p8, fun _ => vp_in_nI (by omega) (by omega), fun _ => p9, fun _ => key.1⟩, key.2⟩
theorem fm_74 {R : rw_out → Prop} {L : List Int32} (hL0 : L.length ≤ 8192) (h : mr_rel um ma ms mf mb mr 0 n) (ht : tt_rel ut mt mi mg 0 t) {si ta : Nat → Nat} (s1 : ∀ i, i < n → si i < n ∧ ta (si i) = i) (s2 : ∀ k, k < n → ta k < n ∧ si (ta k) = k) (s3 : ∀ i, i < n → rg_sm (mm_rg um i) (rr_rg ma ms mf mb (6 * 0 + si i))) (HR : ∀ S, fm S b L → R (S.1.2.1, S.1, S.2)) : ∀ (F g i : Nat) (off : Int32) (S : cd_Mo × cd_By) (l : List Int32), i + g = n → g < F → fm S b l → l ++ en um g i off ++ nts ut t 0 ++ dts um n 0 = L → o_Mo_dump_L74 S0 ma ms mf mb mr mt mi mg F off (nx si n i) S ∧ R (f_Mo_dump_L74 S0 ma ms mf mb mr mt mi mg F off (nx si n i) S) := by
  have hn := h.1.1
  intro F
  induction F with
  | zero => intro g i off S l _ h; omega
  | succ F ih =>
    intro g i off S l hi hg hu hL
    unfold o_Mo_dump_L74 f_Mo_dump_L74
    cases g with
    | zero =>
      have c1 : nx si n i = -1 := by unfold nx; rw [if_neg (by omega)]
      rw [en, List.append_nil] at hL
      have h3 := ht.1
      obtain ⟨b1, b2⟩ := fm_134 (S0 := S0) hL0 h ht s1 s2 s3 HR 4 t 0 S l (by omega) (by omega) hu hL
      rw [c1, if_pos rfl]
      exact ⟨⟨fun _ => b1, fun q => absurd rfl q, fun q => absurd rfl q, fun q => absurd rfl q, fun q => absurd rfl q, fun q => absurd rfl q, fun q => absurd rfl q, fun q => absurd rfl q, fun q => absurd rfl q, fun q => absurd rfl q⟩, b2⟩
    | succ g =>
      have hsi := (s1 i (by omega)).1
      have c0 : nx si n i = nI (si i) := by unfold nx; rw [if_pos (by omega)]
      have c1 : ¬ nI (si i) = -1 := pu_m1 (by omega)
      obtain ⟨m1, m2, m3, m4, m5, m6⟩ := mr_at h (fun i hi => (s1 i hi).1) s3 (i := i) (by omega) S.1
      have hlen : l.length + 32 ≤ 8192 := by
        rw [← hL, List.length_append, List.length_append, List.length_append, en_len] at hL0
        omega
      rw [c0, if_neg c1, nI_clamp (by omega), m1, m2, m3, m6]
      obtain ⟨p1, q1⟩ := fm_ph hu hlen 1 off (mm_rg um i).1 (nI (ur um i)) (mm_rg um i).2.1 (mm_rg um i).2.2.1 64
      obtain ⟨-, -, -, -, k5, k6⟩ := mr_at h (fun i hi => (s1 i hi).1) s3 (i := i) (by omega) (f_Mo_programHeader S 1 off (mm_rg um i).1 (nI (ur um i)) (mm_rg um i).2.1 (mm_rg um i).2.2.1 64).1
      obtain ⟨n1, n2⟩ := (mr_nx h s1 s2 s3 (f_Mo_programHeader S 1 off (mm_rg um i).1 (nI (ur um i)) (mm_rg um i).2.1 (mm_rg um i).2.2.1 64).1).2 i (by omega)
      rw [k6, n2]
      rw [en] at hL
      obtain ⟨b1, b2⟩ := ih g (i + 1) (off + nI (ur um i)) _ _ (by omega) (by omega) q1 (by rw [← hL]; simp only [List.append_assoc])
      have v18 : vp_in (nI (si i)) 18 := vp_in_nI (by omega) (by omega)
      exact ⟨⟨fun q => absurd q c1, fun _ => v18, fun _ => m5, fun _ => v18, fun _ => v18, fun _ => p1, fun _ => k5, fun _ => v18, fun _ => n1, fun _ => b1⟩, b2⟩
end
theorem dts_len {um : cd_Mem} {n : Nat} (h : mm_ok um n) : ∀ g i, i + g = n → (dts um g i).length ≤ 1024 * g := by
  intro g
  induction g with
  | zero => intro i _; exact Nat.le_refl _
  | succ g ih =>
    intro i hi
    rw [dts, List.length_append, dl_len]
    have := (ur_ok h (i := i) (by omega)).1
    have := ih (i + 1) (by omega)
    omega
/-- dump on both sides -/
theorem e_dump (u : cd_Has) {um : cd_Mem} {ut : cd_Tt} {uf : cd_Row} {S : cd_Mo × cd_By} {ma ms mf mb mr mt mi mg : Nat → Int32} {n t : Nat} (h : mr_rel um ma ms mf mb mr 0 n) (ht : tt_rel ut mt mi mg 0 t) (hf : fl_rel uf S.1.2.1 S.2) : o_Desk_dump u um ut uf ∧ o_Mo_dump S ma ms mf mb mr mt mi mg ∧ (f_Desk_dump u um ut uf).1 = (f_Mo_dump S ma ms mf mb mr mt mi mg).1 ∧ ∃ sz, (f_Mo_dump S ma ms mf mb mr mt mi mg).2.1 = ((0 : Int32), sz, S.1.2.2) ∧ fl_rel (f_Desk_dump u um ut uf).2 sz (f_Mo_dump S ma ms mf mb mr mt mi mg).2.2 := by
  have hn := h.1.1
  have h3 := ht.1
  have hfit : sb_Fit uf.2 ∧ 0 ≤ uf.1.toInt := by
    rcases hf with ⟨-, g2, g3⟩ | ⟨L, h1, h2, -, -, h5⟩
    · exact ⟨g3, by rw [g2]; decide⟩
    · exact ⟨h5, by rw [h2, nI_toInt (by omega)]; omega⟩
  obtain ⟨a1, a2, a3, a4⟩ := fc_file h.1 h3 ht.2.2.1 hfit.1 hfit.2
  have hlen : (fl um ut n t).length ≤ 6588 := by
    unfold fl
    have := dts_len h.1 n 0 (by omega)
    rw [List.length_append, List.length_append, List.length_append, List.length_append, hd_len, ph_len, en_len, nts_len]
    omega
  have h00 := h
  obtain ⟨hm, ho, hr, si, ta, s1, s2, s3⟩ := h
  have hr0 : mr 0 = nI n := hr
  have ht0 : mt 0 = nI t := ht.2.2.2.1
  have hb0 : fm (((0 : Int32), (0 : Int32), S.1.2.2.1, S.1.2.2.2.1, S.1.2.2.2.2.1, S.1.2.2.2.2.2), S.2) (mo_z S.1) [] := ⟨rfl, fun j hj => absurd hj (Nat.not_lt_zero _)⟩
  obtain ⟨p1, q1⟩ := fm_header hr0 hn hb0
  have e1 : (52 : Int32) + 32 * (nI n + 1) = nI (52 + 32 * (n + 1)) := by
    rw [nI_1, show (52 : Int32) = nI 52 from rfl, show (32 : Int32) = nI 32 from rfl, pk_mul, nI_add]
  have e2 : (56 : Int32) * nI t = nI (56 * t) := by
    rw [show (56 : Int32) = nI 56 from rfl, pk_mul]
  obtain ⟨p2, q2⟩ := fm_ph q1 (by rw [hd_len]; omega) 4 (nI (52 + 32 * (n + 1))) 0 (nI (56 * t)) (nI (56 * t)) 0 4
  obtain ⟨n1, n2⟩ := (mr_nx h00 s1 s2 s3 (f_Mo_programHeader (f_Mo_header (((0 : Int32), (0 : Int32), S.1.2.2.1, S.1.2.2.2.1, S.1.2.2.2.2.1, S.1.2.2.2.2.2), S.2) mr) 4 (nI (52 + 32 * (n + 1))) 0 (nI (56 * t)) (nI (56 * t)) 0 4).1).1
  obtain ⟨b1, b2, b3⟩ := fm_74 (S0 := S) (b := mo_z S.1) (R := fun p => p.1 = nI (fl um ut n t).length ∧ fm (p.2.1, p.2.2) (mo_z S.1) (fl um ut n t)) (L := fl um ut n t) (by omega) h00 ht s1 s2 s3 (fun S' hS' => ⟨by rw [hS'.1], hS'⟩) 7 n 0 (nI (52 + 32 * (n + 1) + 56 * t)) _ _ (by omega) (by omega) q2 rfl
  unfold o_Desk_dump f_Desk_dump o_Mo_dump f_Mo_dump f_Row_length
  rw [pu_cz, hr0, ht0, e1, e2, nI_add, n2]
  refine ⟨a1, ⟨p1, pu_v0, pu_v0, pu_v0, p2, pu_v0, n1, b1⟩, a2.trans b2.symm, nI (fl um ut n t).length, b3.1, Or.inr ⟨(fl um ut n t).length, hlen, a2, rfl, fun j hj => ?_, a4⟩⟩
  rw [a3 j hj]
  exact (b3.2 j hj).symm
