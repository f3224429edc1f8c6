/-! what the law draws can be a node -/
theorem can0 {I : im_I} {z : Int32} (h : 0 ≤ z.toInt ∧ z.toInt < 41) : canBeNode_ I 3 0 (z - 20) 0 = true := by
  have e : (z - 20).toInt = z.toInt - 20 := by
    rw [Int32.toInt_sub, show (20 : Int32).toInt = 20 by decide]
    exact Int.bmod_eq_of_le (by omega) (by omega)
  have e1 : (-999 : Int32).toInt = -999 := by decide
  have e2 : (999 : Int32).toInt = 999 := by decide
  have h1 : ¬ z - 20 < -999 := by rw [Int32.lt_iff_toInt_lt]; omega
  have h2 : ¬ 999 < z - 20 := by rw [Int32.lt_iff_toInt_lt]; omega
  unfold canBeNode_
  rw [if_pos rfl, if_neg h1, if_neg h2]
  rfl
theorem isBelow_t {z n : Int32} (h : 0 ≤ z.toInt ∧ z.toInt < n.toInt) : isBelow_ z n = true := by
  refine below_ok ?_ ?_
  · rw [Int32.lt_iff_toInt_lt, show (0 : Int32).toInt = 0 by decide]; omega
  · rw [Int32.le_iff_toInt_le]; omega
theorem can1 {I : im_I} {z : Int32} (h : 0 ≤ z.toInt ∧ z.toInt < 6) : canBeNode_ I 3 1 z 0 = true := by
  have h1 : isBelow_ z 8 = true := isBelow_t (by rw [show (8 : Int32).toInt = 8 by decide]; omega)
  unfold canBeNode_
  rw [if_neg (by decide), if_pos rfl, h1]
  rfl
theorem loose_t {I : im_I} {nn q : Nat} (h3 : I 3 0 = Int32.ofNat nn) (hn : nn ≤ 80) (hq : q < nn) (h0 : I 8 q = 0) : isLoose_ I 3 (Int32.ofNat q) = true := by
  have h1 : isBelow_ (Int32.ofNat q) (I 3 0) = true := by
    rw [h3]
    exact isBelow_t (by rw [ofNat_int (by omega), ofNat_int (by omega)]; omega)
  unfold isLoose_
  rw [h1, if_neg (by decide), at_in (ofNat_nlt (by omega)) (by rw [Int32.le_iff_toInt_le, ofNat_int (by omega), ofNat_int (by omega)]; omega), ofNat_nat (by omega)]
  exact decide_eq_true h0
theorem can2 {I : im_I} {nn q r : Nat} {kd : Int32} (h3 : I 3 0 = Int32.ofNat nn) (hn : nn ≤ 80) (hk : 2 ≤ kd.toInt ∧ kd.toInt ≤ 5) (hq : q < nn) (hr : r < nn) (hqr : q ≠ r) (h0 : I 8 q = 0) (h1 : I 8 r = 0) : canBeNode_ I 3 kd (Int32.ofNat q) (Int32.ofNat r) = true := by
  have e0 : (0 : Int32).toInt = 0 := by decide
  have e1 : (1 : Int32).toInt = 1 := by decide
  have e2 : (2 : Int32).toInt = 2 := by decide
  have e5 : (5 : Int32).toInt = 5 := by decide
  unfold canBeNode_
  rw [if_neg (fun e => by rw [e] at hk; omega), if_neg (fun e => by rw [e] at hk; omega), if_neg (by rw [Int32.lt_iff_toInt_lt]; omega), if_neg (by rw [Int32.lt_iff_toInt_lt]; omega), loose_t h3 hn hq h0, loose_t h3 hn hr h1, if_neg (by decide), if_neg (by decide)]
  refine decide_eq_true fun e => hqr ?_
  have := congrArg Int32.toNatClampNeg e
  rwa [ofNat_nat (by omega), ofNat_nat (by omega)] at this
theorem kd_range {z : Int32} (h : 0 ≤ z.toInt ∧ z.toInt < 7) : 2 ≤ (2 + z / 2).toInt ∧ (2 + z / 2).toInt ≤ 5 := by
  have e2 : (2 : Int32).toInt = 2 := by decide
  have d1 : (z / 2).toInt = z.toInt / 2 := by
    rw [Int32.toInt_div, Int.tdiv_eq_ediv_of_nonneg h.1, e2]
    exact Int.bmod_eq_of_le (by omega) (by omega)
  rw [Int32.toInt_add, d1, e2, Int.bmod_eq_of_le (by omega) (by omega)]
  omega
theorem ofNat_pred {m : Nat} (h : m ≤ 1000) : Int32.ofNat (m + 1) - 1 = Int32.ofNat m := by
  rw [← ofNat_succ h]
  simp
