/-! laws for the law's own walks -/
theorem meantNow_2 {J : im_I} : meantNow_ (meantNow_ J 2) 2 = meantNow_ J 2 := by
  have h : ¬ meantNow_ J 2 2 9 = 0 := by
    unfold meantNow_
    split
    · rw [im_up_same]; decide
    · assumption
  rw [meantNow_, if_neg h]
theorem builtNow_id {J : im_I} (h : ¬ J 2 8 = 0) : builtNow_ J 2 = J := if_neg h
theorem below_ok {i e : Int32} (h : ¬ i < 0) (c : ¬ e ≤ i) : isBelow_ i e = true := by
  unfold isBelow_
  rw [if_neg h, if_neg c]
theorem nz_step {i e : Int32} (h : ¬ i < 0) (c : ¬ e ≤ i) : ¬ i + 1 = 0 := by
  intro he
  have c1 := Int32.le_iff_toInt_le.mp (Int32.not_lt.mp h)
  have c2 := Int32.lt_iff_toInt_lt.mp (Int32.not_le.mp c)
  have e0 : (0 : Int32).toInt = 0 := by decide
  have e1 : (1 : Int32).toInt = 1 := by decide
  have hm := e.toInt_le
  have hm2 : Int32.maxValue.toInt = 2147483647 := by decide
  have e2 := congrArg Int32.toInt he
  rw [Int32.toInt_add, e1, Int.bmod_eq_of_le (by omega) (by omega)] at e2
  omega
theorem bit_has {s t i : Int32} (h : ¬ i < 0) (c : ¬ 8 ≤ i) (e : s = t) (hb : s >>> (i &&& 31) &&& 1 = 1) : hasBit_ t i = true := by
  subst e
  unfold hasBit_
  have h32 : ¬ (32 : Int32) ≤ i := by
    have c2 := Int32.lt_iff_toInt_lt.mp (Int32.not_le.mp c)
    rw [Int32.le_iff_toInt_le]
    have e0 : (8 : Int32).toInt = 8 := by decide
    have e1 : (32 : Int32).toInt = 32 := by decide
    omega
  rw [if_neg h, if_neg h32, hb]
  rfl
