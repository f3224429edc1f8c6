/-! small laws that the walks use -/
theorem im_vp {i : Int32} {n : Nat} (h1 : ¬ i < 0) (h2 : ¬ Int32.ofNat n ≤ i) (hn : n < 2 ^ 31 := by decide) : vp_in i n := by
  obtain ⟨j, hj, rfl⟩ := nI_of h1
  refine vp_in_nI ?_ hn
  rcases Nat.lt_or_ge j n with h | h
  · exact h
  · exact absurd (nI_le h hj) h2
theorem cnt_0 {i e : Int32} (h : cnt i e = 0) : e ≤ i := by
  unfold cnt at h
  rw [Int32.le_iff_toInt_le]
  omega
theorem cnt_ex {i e : Int32} (h : cnt i e = 0) (c : ¬ e ≤ i) : False := c (cnt_0 h)
theorem cnt_go {i e : Int32} {n : Nat} (h : cnt i e = n + 1) (c : e ≤ i) : False := by
  unfold cnt at h
  rw [Int32.le_iff_toInt_le] at c
  omega
theorem i32_inc {i e : Int32} (h : i < e) : (i + 1).toInt = i.toInt + 1 := by
  rw [Int32.lt_iff_toInt_lt] at h
  have h2 := Int32.toInt_lt e
  have h3 := Int32.le_toInt i
  rw [Int32.toInt_add]
  have e1 : (1 : Int32).toInt = 1 := by decide
  rw [e1]
  exact Int.bmod_eq_of_le (by omega) (by omega)
theorem i32_nle {i e : Int32} (h : ¬ e ≤ i) : i < e := Int32.not_le.mp h
theorem cnt_nx {i e : Int32} {n : Nat} (h : cnt i e = n + 1) : cnt (i + 1) e = n := by
  have hlt : i < e := by
    rw [Int32.lt_iff_toInt_lt]
    unfold cnt at h
    omega
  unfold cnt at h ⊢
  rw [i32_inc hlt]
  omega
theorem im_toInt {x y : Int32} (h : x.toInt = y.toInt) : x = y := Int32.toInt_inj.mp h
theorem loopN_s {σ : Type} {n : Nat} {i : Int32} {f : Int32 → σ → σ} {s : σ} : loopN (n + 1) i f s = loopN n (i + 1) f (f i s) := rfl
theorem loopN_0 {σ : Type} {i : Int32} {f : Int32 → σ → σ} {s : σ} : loopN 0 i f s = s := rfl
