/-! WHAT STANDS AFTER A BUILD, all of it -/
theorem stOk_pg {I J : im_I} {nn : Nat} (hp : pgOk (I 5) (I 6) (I 7) nn) (hs : stOk I nn) (hP : PgE I J) : pgOk (J 5) (J 6) (J 7) nn ∧ stOk J nn :=
  ⟨by rw [hP 5 (by decide) (by decide), hP 6 (by decide) (by decide), hP 7 (by decide) (by decide)]; exact hp, stOk_E hs hP⟩
theorem built_all {P : im_I} {nn N R : Nat} {st tm : Nat → Nat} (hL : LnOk P 19 N st) (hV : LvOk P 19 N st) (hp : pgOk (P 5) (P 6) (P 7) nn) (hs : stOk P nn) (hm : McOk P 15 R) (hl : LatOk P 15) (ht : ∀ b, b < 4 → P 4 b = nI (tm b) ∧ 1 ≤ tm b ∧ tm b ≤ 3) :
    WkOk (worksBuild_ P 91 15 19) 19 92 15 N R st ∧ (∀ v, v < 8 → hb (P 3 2) v = true → tellAnswer_ (worksBuild_ P 91 15 19) 91 19 (nI v) = mnAll P tm 4 (fun _ => 0) v) ∧ (worksBuild_ P 91 15 19 92 2 = 0 → countOf_ (worksBuild_ P 91 15 19) 98 7 = 0 ∧ countOf_ (worksBuild_ P 91 15 19) 98 8 = 0) ∧
      (∃ n B, n ≤ 1008 ∧ TmI (worksBuild_ P 91 15 19) 103 n B) ∧ ∃ L, L ≤ 528 ∧ worksBuild_ P 91 15 19 98 0 = nI L := by
  have hT := run_time (w := 91) hL hV hm hl (fun b hb => ⟨(ht b hb).1, (ht b hb).2.2⟩) (by decide) (by decide) (by decide)
  obtain ⟨k1, k2, k3, k4⟩ := works_parts (w := 91) hL hV hm (by decide) (by decide) (by decide)
  have fI : ∀ z, z < 92 → give_ P (91 + 1) 15 (19 + 10) (19 + 17) z = P z := fun z hz => give_fr (Or.inl hz)
  unfold worksBuild_ at hT ⊢
  simp only at hT ⊢
  generalize give_ P (91 + 1) 15 (19 + 10) (19 + 17) = K1 at k1 k2 k3 k4 fI hT ⊢
  have f2 : ∀ z, z < 98 ∨ 102 < z → make_ K1 (91 + 7) 15 (19 + 10) (91 + 1) z = K1 z := fun z hz => make_fr (by omega)
  generalize make_ K1 (91 + 7) 15 (19 + 10) (91 + 1) = K2 at k2 k4 f2 hT ⊢
  have hPg : PgE P K1 := fun z z1 z2 => fI z (by omega)
  obtain ⟨hp1, hs1⟩ := stOk_pg hp hs hPg
  obtain ⟨s1, s2⟩ := st_le k1
  have hR := hm.2.2.1
  obtain ⟨⟨l1, l2, -, -, -, l6⟩, -⟩ := k1.1
  obtain ⟨σ0, hσ⟩ := go_rows (a := 91 + 12) (c := 91 + 7) (x := 19 + 26) (R := R) (st := st) (tm := tm) k2 (by rw [fI 15 (by decide)]; exact hm.1) (by have := hm.2.1; omega) hR (Or.inl (by decide)) (Or.inl (by decide)) (Or.inl (by decide)) k3 l2 (Or.inl (by decide)) (Or.inl (by decide)) (by decide) (by decide) (fun b hb => ⟨l6 b hb, s1 b (by omega)⟩) s2 (fun b hb => by rw [fI 4 (by decide)]; exact ⟨(ht b hb).1, by have := (ht b hb).2.2; omega⟩)
  have f3 : ∀ z, z < 103 ∨ 107 < z → go_ K2 (91 + 12) 15 (91 + 7) (19 + 26) 5 z = K2 z := fun z hz => go_fr (by omega)
  generalize go_ K2 (91 + 12) 15 (91 + 7) (19 + 26) 5 = K at hσ f3 hT ⊢
  have hF : ∀ z, z < 98 → K z = K1 z := fun z hz => (f3 z (by omega)).trans (f2 z (by omega))
  refine ⟨WkOk_fr k1 fun z hz => hF z (by omega), fun v hv hq => ?_, fun h0 => ?_, hT, ?_⟩
  · rw [answer_nat k1 hp1 hs1 (fun b hb => by rw [fI 4 (by decide)]; exact ⟨(ht b hb).1, (ht b hb).2.1, by have := (ht b hb).2.2; omega⟩) hσ (fun z z1 z2 => hF z (by omega)) hv (by rw [fI 3 (by decide)]; exact hq), mnAll_E hPg]
  · rw [hF 92 (by decide)] at h0
    obtain ⟨n1, n2⟩ := noslot_nat k1 k2 k3 h0
    have e : ∀ kd, countOf_ K 98 kd = countOf_ K2 98 kd := fun kd => by
      unfold countOf_ codeKindOf_
      rw [f3 98 (by decide), f3 (98 + 1) (by decide)]
    rw [e, e]
    exact ⟨n1, n2⟩
  · exact ⟨_, k3, by rw [f3 98 (by decide)]; exact k2.1⟩
theorem tm_3 {I : im_I} : tellMany_ I 91 19 3 = I 29 0 := by simp [tellMany_]
theorem tm_4 {I : im_I} : tellMany_ I 91 19 4 = I 36 1 := by simp [tellMany_]
theorem tm_7 {I : im_I} : tellMany_ I 91 19 7 = I 92 2 := by simp [tellMany_]
theorem tm_9 {I : im_I} : tellMany_ I 91 19 9 = I 98 0 := by simp [tellMany_]
theorem tm_10 {I : im_I} : tellMany_ I 91 19 10 = countOf_ I 98 1 := by simp [tellMany_]
theorem tm_11 {I : im_I} : tellMany_ I 91 19 11 = countOf_ I 98 7 + countOf_ I 98 8 := by simp [tellMany_]
theorem tm_12 {I : im_I} : tellMany_ I 91 19 12 = I 103 0 := by simp [tellMany_]
theorem tm_13 {I : im_I} : tellMany_ I 91 19 13 = I 103 1 := by simp [tellMany_]
theorem tm_14 {I : im_I} : tellMany_ I 91 19 14 = I 103 2 := by simp [tellMany_]
theorem tm_15 {I : im_I} : tellMany_ I 91 19 15 = mostAtOnce_ I 36 (I 29 0) := by simp [tellMany_]
theorem tm_2 {I : im_I} : tellMany_ I 91 19 2 = I 3 1 := by simp [tellMany_]
/-- what isWhole asks of a built object -/
theorem whole_hyps {J : im_I} {N R n B L : Nat} {st : Nat → Nat} (hk : WkOk J 19 92 15 N R st) (hc : J 92 2 = 0 → countOf_ J 98 7 = 0 ∧ countOf_ J 98 8 = 0) (hn : n ≤ 1008) (hT : TmI J 103 n B) (hL : J 98 0 = nI L) (hL5 : L ≤ 528) :
    (J 29 0 < 2147483647) ∧ (∀ pt w : Int32, ¬ pt < 0 → ¬ J 29 0 ≤ pt → ¬ w < 1 → ¬ 5 ≤ w → ¬ tellLine_ J 19 pt w < 0 → wholeAt J (nI R) (tellLine_ J 19 pt w)) ∧ (tellMany_ J 91 19 5 = 0 ↔ sp3_ J = 0) ∧ (tellMany_ J 91 19 7 = 0 → tellMany_ J 91 19 11 ≤ 0) ∧
    (¬ tellMany_ J 91 19 12 ≤ 0 → ¬ tellMany_ J 91 19 13 < tellMany_ J 91 19 12 + tellMany_ J 91 19 14 ∧ tellMany_ J 91 19 13 ≤ tellMany_ J 91 19 12 + tellMany_ J 91 19 14 + 8) ∧ (¬ tellMany_ J 91 19 9 < tellMany_ J 91 19 10 + tellMany_ J 91 19 11) ∧ (¬ tellMany_ J 91 19 4 < tellMany_ J 91 19 15) := by
  have h29 : J 29 0 = nI N := hk.1.1.1
  have hN : N ≤ 88 := hk.1.1.2.1
  refine ⟨?_, fun pt w p0 p1 w0 w1 hl => ?_, sp3_nat hk, fun h7 => ?_, fun h12 => ?_, ?_, ?_⟩
  · rw [h29, show (2147483647 : Int32) = nI 2147483647 by decide]
    exact nI_lt (by omega) (by decide)
  · obtain ⟨p, hp, rfl⟩ := nI_of p0
    have hpN : p < N := by
      apply Nat.lt_of_not_le
      intro hle
      rw [h29] at p1
      exact p1 (nI_le hle hp)
    have hp88 : p < 88 := by omega
    obtain ⟨q, hq, rfl⟩ := nI_of (x := w) (fun e => w0 (Int32.lt_trans e (by decide)))
    have q5 : q < 5 := by
      apply Nat.lt_of_not_le
      intro hle
      exact w1 (nI_le (a := 5) hle hq)
    have q1 : 1 ≤ q := by
      apply Nat.le_of_not_lt
      intro hlt
      exact w0 (nI_lt (b := 1) hlt (by decide))
    obtain ⟨⟨y, hy, ey⟩, hr⟩ := whole_ins hk hpN
    have key : ∀ x, tellLine_ J 19 (nI p) (nI q) = x → (x = -1 ∨ ∃ y, bornN J 19 N y ∧ x = nI y) → wholeAt J (nI R) x := fun x hx hxx => by
      rcases hxx with e | ⟨y, hy, e⟩
      · rw [hx, e] at hl
        exact absurd (by decide) hl
      · rw [e]; exact (whole_val hk hy).1
    have hqc : q = 1 ∨ q = 2 ∨ q = 3 ∨ q = 4 := by omega
    rcases hqc with rfl | rfl | rfl | rfl
    · exact key _ rfl (Or.inr ⟨y, hy, (tellLine_1 hp88).trans ey⟩)
    · exact key _ rfl (by rw [show nI 2 = 2 from rfl, tellLine_2 hp88]; exact hr 0 (by decide))
    · exact key _ rfl (by rw [show nI 3 = 3 from rfl, tellLine_3 hp88]; exact hr 1 (by decide))
    · exact key _ rfl (by rw [show nI 4 = 4 from rfl, tellLine_4 hp88]; exact hr 2 (by decide))
  · rw [tm_7] at h7
    obtain ⟨c1, c2⟩ := hc h7
    rw [tm_11, c1, c2]
    decide
  · obtain ⟨⟨b1, b2, b3, b4, b5⟩, -, b7, -⟩ := hT
    rw [tm_12] at h12
    have n0 : 0 < n := by
      apply Nat.pos_of_ne_zero
      intro e
      rw [b3, e] at h12
      exact h12 (by decide)
    obtain ⟨l, l1, l2, l3⟩ := b7 n0
    rw [tm_12, tm_13, tm_14, b3, b5, l3, nI_add, show n + (B - n) = B by omega]
    refine ⟨nI_nlt (by omega) (by omega), ?_⟩
    rw [show (8 : Int32) = nI 8 by decide, nI_add]
    exact nI_le (by omega) (by omega)
  · rw [tm_9, tm_10, tm_11]
    exact (counts_le hL hL5).2
  · rw [tm_4, tm_15, h29]
    have := hk.2.1.2.2.2
    exact Int32.not_lt.mpr this
