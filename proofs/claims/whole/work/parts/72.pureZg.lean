/-- what the reference does once the fixed bytes of a note were found -/
theorem nt_tail {S0 S : cd_Mo × cd_Ia × cd_Ia × cd_Ia} {mp : Nat → Int32} {p : Nat} (hp : p ≤ 8192) (ke : Int32) : f_Mo_note_L23 S0 mp (nI p) ke 1 (nI 20) S = if f_Mo_fourAt S.1 mp (nI p + 4) < 0 then (-1, mo_w S.1 6 (nI p + 4), S.2) else if (nI p).toInt64 + (20 + ((f_Mo_fourAt S.1 mp (nI p + 4)).toInt64 + 3) / 4 * 4) ≤ ke.toInt64 then (if f_Mo_fourAt S.1 mp (nI p + 8) = 1 then (if f_Mo_fourAt S.1 mp (nI p + 4) = 36 then (if f_Mo_hasId S.1 S.2.1 S.2.2.1 2 (f_Mo_fourAt S.1 mp (nI p + 20)) = 0 then (if S.2.1 2 = 3 then (-1, mo_w S.1 6 (nI p), S.2) else f_Mo_note_L261 S0 mp (nI p) ke 9 (20 + ((f_Mo_fourAt S.1 mp (nI p + 4)).toInt64 + 3) / 4 * 4) 0 (S.1, S.2.1, upd S.2.2.1 (6 + S.2.1 2).toNatClampNeg (f_Mo_fourAt S.1 mp (nI p + 20)), S.2.2.2)) else (-1, mo_w S.1 6 (nI p + 20), S.2)) else (-1, mo_w S.1 6 (nI p + 4), S.2)) else ((20 + ((f_Mo_fourAt S.1 mp (nI p + 4)).toInt64 + 3) / 4 * 4).toInt32, S)) else (-1, mo_w S.1 6 (nI p + 4), S.2) := by
  have h4 : ¬ nI p + 4 = -1 := by
    rw [show (4 : Int32) = nI 4 from rfl, nI_add]
    exact pu_m1 (by omega)
  have h20 : ¬ nI p + 20 = -1 := by
    rw [show (20 : Int32) = nI 20 from rfl, nI_add]
    exact pu_m1 (by omega)
  have h0 : ¬ nI p = -1 := pu_m1 (by omega)
  have c1 : (20 : Int32) ≤ nI 20 := by decide
  rw [f_Mo_note_L23, if_pos c1, pu_c2]
  simp only [if_neg h4, if_neg h20, if_neg h0]
