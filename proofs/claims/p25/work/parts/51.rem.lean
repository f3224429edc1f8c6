/-! the law's tree, by gen21.py -/
theorem irem_toInt {x n : Int32} (hx : 0 ≤ x.toInt) (hn : 0 < n.toInt) : (x - x / n * n).toInt = x.toInt % n.toInt := by
  have hm := x.toInt_le
  have hm2 : Int32.maxValue.toInt = 2147483647 := by decide
  have q1 : 0 ≤ x.toInt / n.toInt := Int.ediv_nonneg hx (by omega)
  have q2 : x.toInt / n.toInt * n.toInt ≤ x.toInt := Int.ediv_mul_le _ (by omega)
  have q3 : x.toInt / n.toInt ≤ x.toInt := Int.ediv_le_self _ hx
  have q4 : 0 ≤ x.toInt / n.toInt * n.toInt := Int.mul_nonneg q1 (by omega)
  have d1 : (x / n).toInt = x.toInt / n.toInt := by
    rw [Int32.toInt_div, Int.tdiv_eq_ediv_of_nonneg hx]
    exact Int.bmod_eq_of_le (by omega) (by omega)
  have d2 : (x / n * n).toInt = x.toInt / n.toInt * n.toInt := by
    rw [Int32.toInt_mul, d1]
    exact Int.bmod_eq_of_le (by omega) (by omega)
  rw [Int32.toInt_sub, d2, Int.bmod_eq_of_le (by omega) (by omega), Int.emod_def, Int.mul_comm]
theorem rem_nn {x : Int32} (h : ¬ x < 0) : ¬ x - x / 16 * 16 < 0 := by
  have c1 := Int32.le_iff_toInt_le.mp (Int32.not_lt.mp h)
  have e0 : (0 : Int32).toInt = 0 := by decide
  have e16 : (16 : Int32).toInt = 16 := by decide
  rw [Int32.lt_iff_toInt_lt, irem_toInt (by omega) (by omega), e16]
  omega
theorem below_range {v n : Int32} (hn : 0 < n.toInt) : 0 ≤ (below_ v n).toInt ∧ (below_ v n).toInt < n.toInt := by
  have h0 : 0 ≤ (v &&& 2147483647).toInt := by
    have e : (v &&& 2147483647).toInt = (v.toBitVec &&& 2147483647#32).toInt := rfl
    rw [e, BitVec.toInt_eq_toNat_of_lt]
    · omega
    · have h1 : (v.toBitVec &&& 2147483647#32).toNat ≤ 2147483647 := by
        rw [BitVec.toNat_and]
        exact Nat.and_le_right
      omega
  unfold below_
  rw [irem_toInt h0 hn]
  exact ⟨Int.emod_nonneg _ (by omega), Int.emod_lt_of_pos _ hn⟩
