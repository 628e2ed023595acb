-- the parts of a file, as lists
def rl (f : Nat → Int32) : Nat → Nat → List Int32
  | 0, _ => []
  | g + 1, r => w4 (f r) ++ rl f g (r + 1)
def nl : Nat → Nat → List Int32
  | 0, _ => []
  | g + 1, i => [b8 (cd_nn i)] ++ nl g (i + 1)
def nt (ut : cd_Tt) (i : Nat) : List Int32 := w4 5 ++ w4 36 ++ w4 1 ++ nl 8 0 ++ w4 (ut.2.1 i) ++ rl (fun r => ut.2.2 (8 * i + r)) 8 0
def nts (ut : cd_Tt) : Nat → Nat → List Int32
  | 0, _ => []
  | g + 1, i => nt ut i ++ nts ut g (i + 1)
def ur (um : cd_Mem) (i : Nat) : Nat := us (mm_rg um i).2.2.2 (mm_rg um i).2.1.toInt.toNat
def en (um : cd_Mem) : Nat → Nat → Int32 → List Int32
  | 0, _, _ => []
  | g + 1, i, off => ph 1 off (mm_rg um i).1 0 (nI (ur um i)) (mm_rg um i).2.1 (mm_rg um i).2.2.1 64 ++ en um g (i + 1) (off + nI (ur um i))
def dl (f : Nat → Int32) : Nat → Nat → List Int32
  | 0, _ => []
  | g + 1, d => [f d] ++ dl f g (d + 1)
def dts (um : cd_Mem) : Nat → Nat → List Int32
  | 0, _ => []
  | g + 1, i => dl (mm_rg um i).2.2.2 (ur um i) 0 ++ dts um g (i + 1)
theorem rl_len (f : Nat → Int32) : ∀ g r, (rl f g r).length = 4 * g := by
  intro g
  induction g with
  | zero => intro r; rfl
  | succ g ih => intro r; rw [rl, List.length_append, ih]; show 4 + 4 * g = 4 * (g + 1); omega
theorem nt_len (ut : cd_Tt) (i : Nat) : (nt ut i).length = 56 := by
  unfold nt
  rw [List.length_append, rl_len]
  rfl
theorem nts_len (ut : cd_Tt) : ∀ g i, (nts ut g i).length = 56 * g := by
  intro g
  induction g with
  | zero => intro r; rfl
  | succ g ih => intro r; rw [nts, List.length_append, ih, nt_len]; omega
theorem en_len (um : cd_Mem) : ∀ g i off, (en um g i off).length = 32 * g := by
  intro g
  induction g with
  | zero => intro i off; rfl
  | succ g ih => intro i off; rw [en, List.length_append, ih, ph_len]; omega
theorem dl_len (f : Nat → Int32) : ∀ g d, (dl f g d).length = g := by
  intro g
  induction g with
  | zero => intro d; rfl
  | succ g ih => intro d; rw [dl, List.length_append, ih]; show 1 + g = g + 1; omega
theorem dl_get (f : Nat → Int32) : ∀ g d j, j < g → (dl f g d).getD j 0 = f (d + j) := by
  intro g
  induction g with
  | zero => intro d j h; omega
  | succ g ih =>
    intro d j h
    rw [dl]
    cases j with
    | zero => rfl
    | succ j =>
      show (dl f g (d + 1)).getD j 0 = _
      rw [ih (d + 1) j (by omega)]
      congr 1
      omega
theorem ur_ok {um : cd_Mem} {n i : Nat} (h : mm_ok um n) (hi : i < n) : ur um i ≤ 1024 ∧ o_Reg_usedBytes (mm_rg um i) ∧ f_Reg_usedBytes (mm_rg um i) = nI (ur um i) := by
  obtain ⟨k1, k2, k3, k4, k5, k6, -⟩ := h.2.2.2.2.1 i hi
  have hf := h.2.2.2.2.2.2 _ (h.2.2.1 i (by have := h.1; omega))
  obtain ⟨s, h1, h2, h3⟩ := pu_of (x := (mm_rg um i).2.1) (by omega)
  have hs : (mm_rg um i).2.1.toInt.toNat = s := by omega
  obtain ⟨a1, a2⟩ := pu_used (r := mm_rg um i) hf h2 (by omega)
  have := us_ok (mm_rg um i).2.2.2 s
  unfold ur
  rw [hs]
  exact ⟨by omega, a1, a2⟩
theorem fc_bytes {u : cd_Row} {l : List Int32} (h : fc u l) {f : Nat → Int32} (hf : sb_Fit f) {z : Nat} (hz : z ≤ 1024) (hl : l.length + z ≤ 6588) : o_Row_appendBytes 6588 u 1024 f (nI z) ∧ fc (f_Row_appendBytes 6588 u 1024 f (nI z)) (l ++ dl f z 0) := by
  obtain ⟨h1, h2, h3⟩ := h
  unfold o_Row_appendBytes f_Row_appendBytes
  rw [h1]
  have c1 : ¬ nI z < 0 := nI_pos (by omega)
  have c2 : ¬ nI 1024 < nI z := nI_nlt (by omega) (by omega)
  have c3 : nI z ≤ nI 6588 - nI l.length := by
    rw [pu_le, pu_sub (by rw [nI_toInt (by omega), nI_toInt (by omega)]; omega) (by rw [nI_toInt (by omega), nI_toInt (by omega)]; omega), nI_toInt (by omega), nI_toInt (by omega), nI_toInt (by omega)]
    omega
  rw [if_neg c1, if_neg c2, if_pos c3, pu_cz, nI_clamp (by omega), nI_clamp (by omega)]
  refine ⟨⟨fun _ _ _ => by decide, fun _ _ _ => nI_pos (by omega), fun _ _ _ => c1, fun _ _ _ => by omega, fun _ _ _ => by omega, fun _ _ _ i _ => hf _⟩, ?_, fun j hj => ?_, sb_fitC hf h3⟩
  · rw [nI_add, List.length_append, dl_len]
  · rw [List.length_append, dl_len] at hj
    show va_cpy f u.2 0 l.length z j = _
    rw [List.getD_eq_getElem?_getD, List.getElem?_append]
    by_cases c : j < l.length
    · have e : va_cpy f u.2 0 l.length z j = u.2 j := pk_cpy_out (Or.inl c)
      rw [if_pos c, e, h2 j c, List.getD_eq_getElem?_getD]
    · have e : va_cpy f u.2 0 l.length z j = f (0 + (j - l.length)) := pk_cpy_in (by omega) (by omega)
      rw [if_neg c, e, ← List.getD_eq_getElem?_getD, dl_get f z 0 _ (by omega)]
theorem pu_regAt {um : cd_Mem} {n i : Nat} (h : mm_ok um n) (hi : i < n) : o_Mem_regionAt um (nI i) ∧ f_Mem_regionAt um (nI i) = some (um.2.1 i) := by
  have hn := h.1
  unfold o_Mem_regionAt f_Mem_regionAt
  rw [h.2.1, if_neg (nI_pos (by omega)), if_pos ((nI_ltI (by omega) (by omega)).mpr hi), nI_clamp (by omega)]
  exact ⟨fun _ _ => vp_in_nI (by omega) (by omega), rfl⟩
theorem fc_43 {um : cd_Mem} {ut : cd_Tt} {uf : cd_Row} {n : Nat} (h : mm_ok um n) : ∀ (F g i : Nat) (u : cd_Row) (l : List Int32), i + g = n → g < F → fc u l → l.length + 1024 * g ≤ 6588 → o_Fw_writeFile_L43 6588 uf um ut F (nI i) u ∧ fc (f_Fw_writeFile_L43 6588 uf um ut F (nI i) u) (l ++ dts um g i) := by
  have hn := h.1
  intro F
  induction F with
  | zero => intro g i u l _ h; omega
  | succ F ih =>
    intro g i u l hi hg hu hl
    unfold o_Fw_writeFile_L43 f_Fw_writeFile_L43 f_Mem_count
    rw [h.2.1, nI_1]
    cases g with
    | zero =>
      have c1 : nI n ≤ nI i := (nI_leI (by omega) (by omega)).mpr (by omega)
      rw [if_pos c1, dts, List.append_nil]
      exact ⟨⟨fun q => absurd c1 q, fun q => absurd c1 q, fun q => absurd c1 q, fun q => absurd c1 q, fun q => absurd c1 q⟩, hu⟩
    | succ g =>
      have c1 : ¬ nI n ≤ nI i := fun q => by have := (nI_leI (by omega) (by omega)).mp q; omega
      obtain ⟨r1, r2⟩ := pu_regAt h (i := i) (by omega)
      have c2 : ¬ (some (um.2.1 i) : Option Nat) = none := by simp
      rw [if_neg c1, r2, if_neg c2]
      obtain ⟨u1, u2, u3⟩ := ur_ok h (i := i) (by omega)
      have hf := h.2.2.2.2.2.2 _ (h.2.2.1 i (by omega))
      have u3' : f_Reg_usedBytes (um.2.2 (um.2.1 i)) = nI (ur um i) := u3
      obtain ⟨a1, a2⟩ := fc_bytes hu (f := (mm_rg um i).2.2.2) hf u1 (by omega)
      obtain ⟨b1, b2⟩ := ih g (i + 1) _ _ (by omega) (by omega) a2 (by rw [List.length_append, dl_len]; omega)
      rw [dts, ← List.append_assoc]
      dsimp only [Option.getD_some]
      rw [u3']
      exact ⟨⟨fun _ => r1, fun _ q => absurd q c2, fun _ _ => u2, fun _ _ => a1, fun _ _ => b1⟩, b2⟩
theorem fc_34 {um : cd_Mem} {ut : cd_Tt} {uf : cd_Row} {n : Nat} (h : mm_ok um n) : ∀ (F g i : Nat) (off : Int32) (u : cd_Row) (l : List Int32), i + g = n → g < F → fc u l → l.length + 32 * g ≤ 6588 → o_Fw_writeEntries_L34 6588 uf um ut F off (nI i) u ∧ fc (f_Fw_writeEntries_L34 6588 uf um ut F off (nI i) u) (l ++ en um g i off) := by
  have hn := h.1
  intro F
  induction F with
  | zero => intro g i off u l _ h; omega
  | succ F ih =>
    intro g i off u l hi hg hu hl
    unfold o_Fw_writeEntries_L34 f_Fw_writeEntries_L34 f_Mem_count
    rw [h.2.1, nI_1]
    cases g with
    | zero =>
      have c1 : nI n ≤ nI i := (nI_leI (by omega) (by omega)).mpr (by omega)
      rw [if_pos c1, en, List.append_nil]
      exact ⟨⟨fun q => absurd c1 q, fun q => absurd c1 q, fun q => absurd c1 q, fun q => absurd c1 q, fun q => absurd c1 q⟩, hu⟩
    | succ g =>
      have c1 : ¬ nI n ≤ nI i := fun q => by have := (nI_leI (by omega) (by omega)).mp q; omega
      obtain ⟨r1, r2⟩ := pu_regAt h (i := i) (by omega)
      have c2 : ¬ (some (um.2.1 i) : Option Nat) = none := by simp
      rw [if_neg c1, r2, if_neg c2]
      obtain ⟨u1, u2, u3⟩ := ur_ok h (i := i) (by omega)
      have u3' : f_Reg_usedBytes (um.2.2 (um.2.1 i)) = nI (ur um i) := u3
      obtain ⟨a1, a2⟩ := fc_ph hu (by omega) 1 off (mm_rg um i).1 0 (nI (ur um i)) (mm_rg um i).2.1 (mm_rg um i).2.2.1 64
      obtain ⟨b1, b2⟩ := ih g (i + 1) (off + nI (ur um i)) _ _ (by omega) (by omega) a2 (by rw [List.length_append, ph_len]; omega)
      rw [en, ← List.append_assoc]
      dsimp only [Option.getD_some]
      rw [u3']
      exact ⟨⟨fun _ => r1, fun _ q => absurd q c2, fun _ _ => u2, fun _ _ => a1, fun _ _ => b1⟩, b2⟩
theorem pu_ttrd {t : cd_Tt} {n i r : Nat} (hn : n ≤ 3) (hc : t.1 = nI n) (hi : i < n) (hr : r < 8) : o_Tt_read t (nI i) (nI r) ∧ f_Tt_read t (nI i) (nI r) = t.2.2 (8 * i + r) := by
  have e7 : nI i * (8 : Int32) + nI r = nI (8 * i + r) := by rw [show (8 : Int32) = nI 8 from rfl, pk_mul, nI_add, Nat.mul_comm]
  unfold o_Tt_read f_Tt_read
  rw [e7]
  refine ⟨fun _ => vp_in_nI (by omega) (by omega), ?_⟩
  rcases pu_ttv hn hc (nI i) (nI r) with ⟨q1, q2⟩ | ⟨q1, q2⟩
  · exfalso
    apply q2
    rw [nI_toInt (by omega), nI_toInt (by omega)]
    omega
  · rw [q1, if_neg (by decide), nI_clamp (by omega)]
theorem pu_ttid {t : cd_Tt} {n i : Nat} (hn : n ≤ 3) (hc : t.1 = nI n) (hi : i < n) : o_Tt_id t (nI i) ∧ f_Tt_id t (nI i) = t.2.1 i := by
  unfold o_Tt_id f_Tt_id f_Tt_has
  rw [hc, if_neg (nI_pos (by omega)), if_neg (fun q => by have := (nI_leI (by omega) (by omega)).mp q; omega), if_neg (by decide), nI_clamp (by omega)]
  exact ⟨fun _ => vp_in_nI (by omega) (by omega), rfl⟩
theorem fc_59 {ut : cd_Tt} {uf : cd_Row} {n i : Nat} (hn : n ≤ 3) (hc : ut.1 = nI n) (hi : i < n) : ∀ (g r : Nat) (u : cd_Row) (l : List Int32), r + g = 8 → fc u l → l.length + 4 * g ≤ 6588 → o_Fw_writeNote_L59 6588 uf ut (nI i) (g + 1) (nI r) u ∧ fc (f_Fw_writeNote_L59 6588 uf ut (nI i) (g + 1) (nI r) u) (l ++ rl (fun r => ut.2.2 (8 * i + r)) g r) := by
  intro g
  induction g with
  | zero =>
    intro r u l hr hu hl
    unfold o_Fw_writeNote_L59 f_Fw_writeNote_L59
    have c1 : (8 : Int32) ≤ nI r := (nI_leI (a := 8) (by omega) (by omega)).mpr (by omega)
    rw [if_pos c1, rl, List.append_nil]
    exact ⟨⟨fun q => absurd c1 q, fun q => absurd c1 q, fun q => absurd c1 q⟩, hu⟩
  | succ g ih =>
    intro r u l hr hu hl
    unfold o_Fw_writeNote_L59 f_Fw_writeNote_L59
    have c1 : ¬ (8 : Int32) ≤ nI r := fun q => by have := (nI_leI (a := 8) (by omega) (by omega)).mp q; omega
    obtain ⟨t1, t2⟩ := pu_ttrd hn hc hi (r := r) (by omega)
    obtain ⟨a1, a2⟩ := fc_four hu (by omega) (ut.2.2 (8 * i + r))
    obtain ⟨b1, b2⟩ := ih (r + 1) _ _ (by omega) a2 (by rw [ln4]; omega)
    rw [if_neg c1, nI_1, t2, rl, ← List.append_assoc]
    exact ⟨⟨fun _ => t1, fun _ => a1, fun _ => b1⟩, b2⟩
theorem fc_18 {ut : cd_Tt} {uf : cd_Row} {n i : Nat} (hn : n ≤ 3) (hc : ut.1 = nI n) (hi : i < n) : ∀ (g x : Nat) (u : cd_Row) (l : List Int32), x + g = 8 → fc u l → l.length + g + 36 ≤ 6588 → o_Fw_writeNote_L18 6588 uf ut (nI i) (g + 1) (nI x) u ∧ fc (f_Fw_writeNote_L18 6588 uf ut (nI i) (g + 1) (nI x) u) (l ++ nl g x ++ w4 (ut.2.1 i) ++ rl (fun r => ut.2.2 (8 * i + r)) 8 0) := by
  intro g
  induction g with
  | zero =>
    intro x u l hx hu hl
    unfold o_Fw_writeNote_L18 f_Fw_writeNote_L18
    have c1 : (8 : Int32) ≤ nI x := (nI_leI (a := 8) (by omega) (by omega)).mpr (by omega)
    obtain ⟨t1, t2⟩ := pu_ttid hn hc hi
    rw [if_pos c1, nl, List.append_nil, t2]
    obtain ⟨a1, a2⟩ := fc_four hu (by omega) (ut.2.1 i)
    obtain ⟨b1, b2⟩ := fc_59 (uf := uf) hn hc hi 8 0 _ _ (by omega) a2 (by rw [ln4]; omega)
    exact ⟨⟨fun _ => t1, fun _ => a1, fun _ => b1, fun q => absurd c1 q, fun q => absurd c1 q, fun q => absurd c1 q⟩, b2⟩
  | succ g ih =>
    intro x u l hx hu hl
    unfold o_Fw_writeNote_L18 f_Fw_writeNote_L18
    have c1 : ¬ (8 : Int32) ≤ nI x := fun q => by have := (nI_leI (a := 8) (by omega) (by omega)).mp q; omega
    rw [if_neg c1, nI_1, nI_clamp (by omega), nl, ← List.append_assoc]
    obtain ⟨a1, a2⟩ := fc_app hu (by omega) (cd_nn x)
    obtain ⟨b1, b2⟩ := ih (x + 1) _ _ (by omega) a2 (by rw [ln1]; omega)
    exact ⟨⟨fun q => absurd q c1, fun q => absurd q c1, fun q => absurd q c1, fun _ => vp_in_nI (by omega) (by omega), fun _ => a1, fun _ => b1⟩, b2⟩
theorem fc_note {ut : cd_Tt} {n i : Nat} (hn : n ≤ 3) (hc : ut.1 = nI n) (hi : i < n) {u : cd_Row} {l : List Int32} (hu : fc u l) (hl : l.length + 56 ≤ 6588) : o_Fw_writeNote 6588 u ut (nI i) ∧ fc (f_Fw_writeNote 6588 u ut (nI i)) (l ++ nt ut i) := by
  obtain ⟨p1, q1⟩ := fc_four hu (by omega) 5
  obtain ⟨p2, q2⟩ := fc_four q1 (by simp only [ln4]; omega) 36
  obtain ⟨p3, q3⟩ := fc_four q2 (by simp only [ln4]; omega) 1
  obtain ⟨p4, q4⟩ := fc_18 (uf := u) hn hc hi 8 0 _ _ (by omega) q3 (by simp only [ln4]; omega)
  refine ⟨⟨p1, p2, p3, p4⟩, ?_⟩
  unfold nt
  simp only [← List.append_assoc]
  exact q4
/-- the whole file, by the class -/
def fl (um : cd_Mem) (ut : cd_Tt) (n t : Nat) : List Int32 := hd_l (n + 1) 29 0 ++ ph 4 (nI (52 + 32 * (n + 1))) 0 0 (nI (56 * t)) (nI (56 * t)) 0 4 ++ en um n 0 (nI (52 + 32 * (n + 1) + 56 * t)) ++ nts ut t 0 ++ dts um n 0
theorem fc_19 {um : cd_Mem} {ut : cd_Tt} {uf : cd_Row} {n t : Nat} (h : mm_ok um n) (ht : t ≤ 3) (hc : ut.1 = nI t) : ∀ (F g i : Nat) (u : cd_Row) (l : List Int32), i + g = t → g < F → fc u l → l.length + 56 * g + 1024 * n ≤ 6588 → o_Fw_writeFile_L19 6588 uf um ut F (nI i) u ∧ fc (f_Fw_writeFile_L19 6588 uf um ut F (nI i) u) (l ++ nts ut g i ++ dts um n 0) := by
  have hn := h.1
  intro F
  induction F with
  | zero => intro g i u l _ h; omega
  | succ F ih =>
    intro g i u l hi hg hu hl
    unfold o_Fw_writeFile_L19 f_Fw_writeFile_L19 f_Tt_count
    rw [hc, nI_1]
    cases g with
    | zero =>
      have c1 : nI t ≤ nI i := (nI_leI (by omega) (by omega)).mpr (by omega)
      obtain ⟨a1, a2⟩ := fc_43 (uf := uf) (ut := ut) h 7 n 0 u l (by omega) (by omega) hu (by omega)
      rw [if_pos c1, nts, List.append_nil]
      exact ⟨⟨fun _ => a1, fun q => absurd c1 q, fun q => absurd c1 q⟩, a2⟩
    | succ g =>
      have c1 : ¬ nI t ≤ nI i := fun q => by have := (nI_leI (by omega) (by omega)).mp q; omega
      obtain ⟨a1, a2⟩ := fc_note ht hc (i := i) (by omega) hu (by omega)
      obtain ⟨b1, b2⟩ := ih g (i + 1) _ _ (by omega) (by omega) a2 (by rw [List.length_append, nt_len]; omega)
      rw [if_neg c1, nts, ← List.append_assoc]
      exact ⟨⟨fun q => absurd q c1, fun _ => a1, fun _ => b1⟩, b2⟩
theorem fc_file {um : cd_Mem} {ut : cd_Tt} {uf : cd_Row} {n t : Nat} (h : mm_ok um n) (ht : t ≤ 3) (hc : ut.1 = nI t) (hf : sb_Fit uf.2) (h0 : 0 ≤ uf.1.toInt) : o_Fw_writeFile 6588 uf um ut ∧ fc (f_Fw_writeFile 6588 uf um ut) (fl um ut n t) := by
  have hn := h.1
  have z0 : (0 : Int32).toInt = 0 := by decide
  have es : (f_Row_shorten 6588 uf 0).2 = ((0 : Int32), uf.2) := by
    unfold f_Row_shorten
    rw [if_neg (by decide), if_pos (by rw [pu_le]; omega)]
  have hs : fc (f_Row_shorten 6588 uf 0).2 [] := by
    rw [es]
    exact ⟨rfl, fun j hj => absurd hj (Nat.not_lt_zero _), hf⟩
  obtain ⟨a1, a2⟩ := fc_header h.2.1 hn hs
  have ee : f_Fw_entries um = nI (n + 1) := by
    unfold f_Fw_entries f_Mem_count
    rw [h.2.1, nI_1]
  have e1 : (52 : Int32) + f_Fw_entries um * 32 = nI (52 + 32 * (n + 1)) := by
    rw [ee, show (52 : Int32) = nI 52 from rfl, show (32 : Int32) = nI 32 from rfl, pk_mul, nI_add, Nat.mul_comm]
  have e2 : f_Tt_count ut * 56 = nI (56 * t) := by
    unfold f_Tt_count
    rw [hc, show (56 : Int32) = nI 56 from rfl, pk_mul, Nat.mul_comm]
  obtain ⟨b1, b2⟩ := fc_ph a2 (by rw [hd_len]; omega) 4 (nI (52 + 32 * (n + 1))) 0 0 (nI (56 * t)) (nI (56 * t)) 0 4
  obtain ⟨c1, c2⟩ := fc_34 (uf := f_Fw_writeHeader 6588 (f_Row_shorten 6588 uf 0).2 um) (ut := ut) h 7 n 0 (nI (52 + 32 * (n + 1) + 56 * t)) _ _ (by omega) (by omega) b2 (by rw [List.length_append, hd_len, ph_len]; omega)
  obtain ⟨d1, d2⟩ := fc_19 (uf := uf) h ht hc 4 t 0 _ _ (by omega) (by omega) c2 (by rw [List.length_append, List.length_append, hd_len, ph_len, en_len]; omega)
  unfold o_Fw_writeFile f_Fw_writeFile o_Fw_writeEntries f_Fw_writeEntries
  rw [e1, e2, nI_add]
  exact ⟨⟨a1, ⟨b1, c1⟩, d1⟩, d2⟩
