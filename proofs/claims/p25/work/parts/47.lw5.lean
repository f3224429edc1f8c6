theorem put80 {J : im_I} {r n : Nat} {v : Int32} (hn : n < 80) : put_ J r 80 (Int32.ofNat n) v = im_up J r n v :=
  put_c (ofNat_nlt (by omega)) (by rw [Int32.le_iff_toInt_le, ofNat_int (by omega), ofNat_int (by omega)]; omega) (ofNat_nat (by omega))
theorem addNode_leaf8 {I : im_I} {nn : Nat} {kd x y : Int32} (h : I 3 0 = Int32.ofNat nn) (hn : nn < 80) (hk : kd < 2) : ∀ j, addNode_ I 3 kd x y 8 j = if j = nn then 0 else I 8 j := by
  intro j
  unfold addNode_
  simp only [h, put80 hn, Nat.reduceAdd]
  rw [if_pos hk, up_fr (by decide)]
  simp [im_up]
theorem addNode_node8 {I : im_I} {nn x y : Nat} {kd : Int32} (h : I 3 0 = Int32.ofNat nn) (hn : nn < 80) (hk : ¬ kd < 2) (hx : x < nn) (hy : y < nn) : ∀ j, addNode_ I 3 kd (Int32.ofNat x) (Int32.ofNat y) 8 j = if j = y then 1 else if j = x then 1 else if j = nn then 0 else I 8 j := by
  intro j
  unfold addNode_
  simp only [h, put80 hn, put80 (show x < 80 by omega), put80 (show y < 80 by omega), Nat.reduceAdd]
  rw [if_neg hk, up_fr (by decide)]
  simp [im_up]
theorem isLoose_at {I : im_I} {nn : Nat} {x : Int32} (h : I 3 0 = Int32.ofNat nn) (hn : nn ≤ 80) (hl : isLoose_ I 3 x = true) : ∃ q, q < nn ∧ x = Int32.ofNat q ∧ I 8 q = 0 := by
  unfold isLoose_ at hl
  split at hl
  · cases hl
  · next c =>
    have c2 : isBelow_ x (I 3 0) = true := by simpa using c
    unfold isBelow_ at c2
    split at c2
    · cases c2
    · next c3 =>
      split at c2
      · cases c2
      · next c4 =>
        have d3 := Int32.le_iff_toInt_le.mp (Int32.not_lt.mp c3)
        have d4 := Int32.lt_iff_toInt_lt.mp (Int32.not_le.mp c4)
        rw [h, ofNat_int (by omega)] at d4
        have e0 : (0 : Int32).toInt = 0 := by decide
        refine ⟨x.toNatClampNeg, ?_, ?_, ?_⟩
        · show x.toInt.toNat < nn
          omega
        · apply Int32.toInt_inj.mp
          have e9 : x.toNatClampNeg = x.toInt.toNat := rfl
          rw [e9, ofNat_int (show x.toInt.toNat ≤ 1000 by omega)]
          omega
        · have hl2 := of_decide_eq_true hl
          rw [at_in c3 (by rw [Int32.le_iff_toInt_le, ofNat_int (by omega)]; omega)] at hl2
          exact hl2
theorem canBe_spec {I : im_I} {nn : Nat} {kd x y : Int32} (h : I 3 0 = Int32.ofNat nn) (hn : nn ≤ 80) (hc : canBeNode_ I 3 kd x y = true) :
    (kd < 2 ∧ 0 ≤ kd.toInt ∧ kd.toInt ≤ 5 ∧ (¬ kd = 0 → vp_in x 8)) ∨ (¬ kd < 2 ∧ 0 ≤ kd.toInt ∧ kd.toInt ≤ 5 ∧ ∃ q r, q < nn ∧ r < nn ∧ q ≠ r ∧ x = Int32.ofNat q ∧ y = Int32.ofNat r ∧ I 8 q = 0 ∧ I 8 r = 0) := by
  unfold canBeNode_ at hc
  split at hc
  · next c => exact Or.inl ⟨by rw [c]; decide, by rw [c]; decide, by rw [c]; decide, fun e => absurd c e⟩
  · split at hc
    · next c =>
      split at hc
      · cases hc
      · next c2 =>
        refine Or.inl ⟨by rw [c]; decide, by rw [c]; decide, by rw [c]; decide, fun _ => ?_⟩
        have c3 : isBelow_ x 8 = true := by simpa using c2
        unfold isBelow_ at c3
        split at c3
        · cases c3
        · next c4 =>
          split at c3
          · cases c3
          · next c5 => exact im_vp c4 c5 (by decide)
    · split at hc
      · cases hc
      · next c1 =>
        split at hc
        · cases hc
        · next c2 =>
          split at hc
          · cases hc
          · next c3 =>
            split at hc
            · cases hc
            · next c4 =>
              have c5 := of_decide_eq_true hc
              obtain ⟨q, hq, rfl, q0⟩ := isLoose_at h hn (by simpa using c3)
              obtain ⟨r, hr, rfl, r0⟩ := isLoose_at h hn (by simpa using c4)
              have d1 := Int32.le_iff_toInt_le.mp (Int32.not_lt.mp c1)
              have d2 := Int32.le_iff_toInt_le.mp (Int32.not_lt.mp c2)
              have e2 : (2 : Int32).toInt = 2 := by decide
              have e5 : (5 : Int32).toInt = 5 := by decide
              exact Or.inr ⟨c1, by omega, by omega, q, r, hq, hr, fun e => c5 (by rw [e]), rfl, rfl, q0, r0⟩
