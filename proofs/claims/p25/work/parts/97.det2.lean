/-! DETERMINATION: all STATEMENTS, the ENTRY -/
theorem szP_same {I J : im_I} (hP : PgE I J) : szS J = szS I ∧ totB J = totB I ∧ ctN J = ctN I ∧ roN J = roN I ∧ vaN J = vaN I := by
  have e5 := hP 5 (by decide) (by decide)
  have e6 := hP 6 (by decide) (by decide)
  have e7 := hP 7 (by decide) (by decide)
  have e9 := hP 9 (by decide) (by decide)
  have e10 := hP 10 (by decide) (by decide)
  have e11 := hP 11 (by decide) (by decide)
  have ec : ctN J = ctN I := by unfold ctN; rw [e9]
  have er : roN J = roN I := by unfold roN; rw [e11]
  have ev : vaN J = vaN I := by unfold vaN; rw [e10]
  have es : szS J = szS I := by unfold szS; rw [er, e5, e6, e7]
  refine ⟨es, ?_, ec, er, ev⟩
  unfold totB
  rw [es, ec]
theorem PgE_sy {I J : im_I} (h : PgE I J) : PgE J I := fun z z1 z2 => (h z z1 z2).symm
theorem stOk_E {I J : im_I} {nn : Nat} (h : stOk I nn) (hP : PgE I J) : stOk J nn := stOk_fr h fun z hz => hP z (by omega) (by omega)
set_option maxHeartbeats 1000000 in
theorem RawE_stmt {I J A B : im_I} {a a' nn n x b k e : Nat} {s : Nat → Nat} (h : RawI I A a nn n x s b k e) (h' : RawI J B a' nn n x s b k e) (hR : ∀ p, p < n → insAt B (a' + 27) p = insAt A (a + 27) p)
    (hC : ChOk I (a + 1) nn) (hC' : ChOk J (a' + 1) nn) (hcov : ∀ j, j < nn → covAt J (a' + 1) j = covAt I (a + 1) j) (hs : stOk I nn) (hP : PgE I J) (ha : 11 < a) (ha' : 11 < a') (hb : b < 4) (hk : k < ctN I b) :
    ∃ n' x', RawI I (chooseStatement_ A (a + 1) (a + 27) (nI b) (nI k)) a nn n' x' s b (k + 1) e ∧ RawI J (chooseStatement_ B (a' + 1) (a' + 27) (nI b) (nI k)) a' nn n' x' s b (k + 1) e ∧ ∀ p, p < n' → insAt (chooseStatement_ B (a' + 1) (a' + 27) (nI b) (nI k)) (a' + 27) p = insAt (chooseStatement_ A (a + 1) (a + 27) (nI b) (nI k)) (a + 27) p := by
  obtain ⟨y1, y2, y3, y4, y5⟩ := szP_same hP
  obtain ⟨n1, x1, K1⟩ := RawI_stmt h hC hs ha hb hk
  obtain ⟨n2, x2, K2⟩ := RawI_stmt h' hC' (stOk_E hs hP) ha' hb (by rw [y3]; exact hk)
  have hF := h.2.2.2.2.2.2.2
  have hF' := h'.2.2.2.2.2.2.2
  obtain ⟨c1, c2, c3⟩ := hs.1 b hb
  obtain ⟨v1, v2, v3, v4⟩ := c3 k hk
  have htot : totB I b + sumTo (szS I b) (k + 1) ≤ 80 := by
    have m1 := sumTo_mono (g := szS I b) (show k + 1 ≤ ctN I b by omega)
    have m2 : totB I (b + 1) ≤ totB I 4 := sumTo_mono (by omega)
    have m3 : totB I (b + 1) = totB I b + sumTo (szS I b) (ctN I b) := rfl
    have := hs.2
    omega
  have hks : sumTo (szS I b) (k + 1) = sumTo (szS I b) k + szS I b k := rfl
  have f5 := hF 5 (by omega) (by omega) (by omega)
  have f6 := hF 6 (by omega) (by omega) (by omega)
  have f7 := hF 7 (by omega) (by omega) (by omega)
  have g5 := (hF' 5 (by omega) (by omega) (by omega)).trans (hP 5 (by decide) (by decide))
  have g6 := (hF' 6 (by omega) (by omega) (by omega)).trans (hP 6 (by decide) (by decide))
  have g7 := (hF' 7 (by omega) (by omega) (by omega)).trans (hP 7 (by decide) (by decide))
  have hCA : ChOk A (a + 1) nn := ChOk_fr hC fun z hz => hF z (by omega) (by omega) (by omega)
  have hCB : ChOk B (a' + 1) nn := ChOk_fr hC' fun z hz => hF' z (by omega) (by omega) (by omega)
  have hcv : ∀ j, j < nn → covAt B (a' + 1) j = covAt A (a + 1) j := fun j hj => by
    rw [covAt_fr (I := J) fun z z1 z2 => hF' z (by omega) (by omega) (by omega), covAt_fr (I := I) fun z z1 z2 => hF z (by omega) (by omega) (by omega), hcov j hj]
  have hp : placeOf_ (nI b) (nI k) = nI (24 * b + k) := by
    unfold placeOf_
    rw [show (24 : Int32) = nI 24 from rfl, pk_mul, nI_add, Nat.mul_comm]
  have hro : rootOf_ A 3 (nI b) (nI k) = nI (roN I b k) := by
    unfold rootOf_
    rw [hp, at_nat (by omega) (by decide), hF (3 + 8) (by omega) (by omega) (by omega)]
    exact v3
  have hva : variableOf_ A 3 (nI b) (nI k) = nI (vaN I b k) := by
    unfold variableOf_
    rw [hp, at_nat (by omega) (by decide), hF (3 + 7) (by omega) (by omega) (by omega)]
    exact v1
  have hro' : rootOf_ B 3 (nI b) (nI k) = nI (roN I b k) := by
    unfold rootOf_
    rw [hp, at_nat (by omega) (by decide), hF' (3 + 8) (by omega) (by omega) (by omega), hP (3 + 8) (by decide) (by decide)]
    exact v3
  have hva' : variableOf_ B 3 (nI b) (nI k) = nI (vaN I b k) := by
    unfold variableOf_
    rw [hp, at_nat (by omega) (by decide), hF' (3 + 7) (by omega) (by omega) (by omega), hP (3 + 7) (by decide) (by decide)]
    exact v1
  have hsz : szP (A 5) (A 6) (A 7) (roN I b k) = szS I b k := by rw [f5, f6, f7]; rfl
  have h15 := h.1.2.2.2.2
  obtain ⟨n3, q1, q2, q3, q4, q5⟩ := chooseStatement_E (nn := nn) (n0 := n) (q := roN I b k) (var := vaN I b k) hCA hCB (by rw [f5, g5]) (by rw [f6, g6]) hcv (by omega) (by omega) (by omega) (by omega) v4 hro hro' hva hva' h.1.1 h'.1.1 (by rw [h.1.2.1, h'.1.2.1]) (by rw [hsz]; omega) (by rw [f7, g7]) hR
  have b1 := K1.1.2.2.2.2
  have b2 := K2.1.2.2.2.2
  rw [y1, y2] at b2
  have e1 : n1 = n3 := nI_inj (by omega) (by omega) (K1.1.1.symm.trans q2)
  have e2 : n2 = n3 := nI_inj (by omega) (by omega) (K2.1.1.symm.trans q3)
  subst e1
  subst e2
  have b3 := K1.1.2.2.2.1
  have b4 := K2.1.2.2.2.1
  have e3 : x2 = x1 := nI_inj (by omega) (by omega) (K2.1.2.1.symm.trans (q4.trans K1.1.2.1))
  subst e3
  exact ⟨_, _, K1, K2, q5⟩
theorem RawE_block {I J A B : im_I} {a a' nn n x b : Nat} {s : Nat → Nat} (h : RawI I A a nn n x s b 0 b) (h' : RawI J B a' nn n x s b 0 b) (hsb : s b = n) (hR : ∀ p, p < n → insAt B (a' + 27) p = insAt A (a + 27) p)
    (hC : ChOk I (a + 1) nn) (hC' : ChOk J (a' + 1) nn) (hcov : ∀ j, j < nn → covAt J (a' + 1) j = covAt I (a + 1) j) (hs : stOk I nn) (hP : PgE I J) (ha : 11 < a) (ha' : 11 < a') (hb : b < 4) :
    ∃ n' x' s', s' (b + 1) = n' ∧ RawI I (chooseBlock_ a (nI b) A) a nn n' x' s' (b + 1) 0 (b + 1) ∧ RawI J (chooseBlock_ a' (nI b) B) a' nn n' x' s' (b + 1) 0 (b + 1) ∧ ∀ p, p < n' → insAt (chooseBlock_ a' (nI b) B) (a' + 27) p = insAt (chooseBlock_ a (nI b) A) (a + 27) p := by
  have hct' := (szP_same hP).2.2.1
  have h1 := RawI_put h hsb (by omega)
  have h1' := RawI_put h' hsb (by omega)
  have hR1 : ∀ p, p < n → insAt (put_ B (a' + 34) 5 (nI b) (B (a' + 27) 0)) (a' + 27) p = insAt (put_ A (a + 34) 5 (nI b) (A (a + 27) 0)) (a + 27) p := fun p hp => by
    rw [insAt_fr (I := B) fun z z1 z2 => put_fr (by omega), insAt_fr (I := A) fun z z1 z2 => put_fr (by omega)]
    exact hR p hp
  unfold chooseBlock_
  simp only
  generalize put_ A (a + 34) 5 (nI b) (A (a + 27) 0) = E at h1 hR1 ⊢
  generalize put_ B (a' + 34) 5 (nI b) (B (a' + 27) 0) = F at h1' hR1 ⊢
  have e9 : statementsIn_ E 3 (nI b) = nI (ctN I b) := by
    unfold statementsIn_
    rw [at_nat hb (by decide), h1.2.2.2.2.2.2.2 (3 + 6) (by omega) (by omega) (by omega)]
    exact (hs.1 b hb).1
  have f9 : statementsIn_ F 3 (nI b) = nI (ctN I b) := by
    unfold statementsIn_
    rw [at_nat hb (by decide), h1'.2.2.2.2.2.2.2 (3 + 6) (by omega) (by omega) (by omega), hP (3 + 6) (by decide) (by decide)]
    exact (hs.1 b hb).1
  have hct := (hs.1 b hb).2.1
  rw [e9, f9, loopC_nat0 (by omega), loopC_nat0 (by omega)]
  obtain ⟨n', x', h2, h2', h3⟩ := itN_rel (f := fun k => (fun J => chooseStatement_ J (a + 1) (a + 27) (nI b) (nI k))) (g := fun k => (fun J => chooseStatement_ J (a' + 1) (a' + 27) (nI b) (nI k))) (n := ctN I b) (s := E) (t := F) (fun k A B => ∃ n' x', RawI I A a nn n' x' s b k (b + 1) ∧ RawI J B a' nn n' x' s b k (b + 1) ∧ ∀ p, p < n' → insAt B (a' + 27) p = insAt A (a + 27) p) ⟨n, x, h1, h1', hR1⟩ (fun k A B hk hAB => by
    obtain ⟨n', x', p1, p2, p3⟩ := hAB
    exact RawE_stmt p1 p2 p3 hC hC' hcov hs hP ha ha' hb hk)
  refine ⟨n', x', fun i => if i = b + 1 then n' else s i, if_pos rfl, RawI_next h2, ?_, h3⟩
  have : ctN I b = ctN J b := by rw [hct']
  rw [this] at h2' ⊢
  exact RawI_next h2'
theorem chooseAll_E {I J : im_I} {a a' nn : Nat} (hC : ChOk I (a + 1) nn) (hC' : ChOk J (a' + 1) nn) (hcov : ∀ j, j < nn → covAt J (a' + 1) j = covAt I (a + 1) j) (hs : stOk I nn) (hP : PgE I J) (ha : 11 < a) (ha' : 11 < a') (h11 : I (a + 1) 11 = 8) (h11' : J (a' + 1) 11 = 8) :
    ∃ n x s, s 4 = n ∧ RawI I (chooseAll_ I a) a nn n x s 4 0 5 ∧ RawI J (chooseAll_ J a') a' nn n x s 4 0 5 ∧ ∀ p, p < n → insAt (chooseAll_ J a') (a' + 27) p = insAt (chooseAll_ I a) (a + 27) p := by
  have h0 := RawI_0 (nn := nn) ha h11
  have h0' := RawI_0 (nn := nn) ha' h11'
  obtain ⟨n1, x1, s1, q1, h1, h1', r1⟩ := RawE_block h0 h0' rfl (fun p hp => absurd hp (by omega)) hC hC' hcov hs hP ha ha' (by decide)
  obtain ⟨n2, x2, s2, q2, h2, h2', r2⟩ := RawE_block h1 h1' q1 r1 hC hC' hcov hs hP ha ha' (by decide)
  obtain ⟨n3, x3, s3, q3, h3, h3', r3⟩ := RawE_block h2 h2' q2 r2 hC hC' hcov hs hP ha ha' (by decide)
  obtain ⟨n4, x4, s4, q4, h4, h4', r4⟩ := RawE_block h3 h3' q3 r3 hC hC' hcov hs hP ha ha' (by decide)
  refine ⟨n4, x4, s4, q4, ?_⟩
  rw [chooseAll_nat, chooseAll_nat]
  refine ⟨RawI_put h4 q4 (by decide), RawI_put h4' q4 (by decide), fun p hp => ?_⟩
  rw [insAt_fr (r := a' + 27) fun z z1 z2 => put_fr (by omega), insAt_fr (r := a + 27) fun z z1 z2 => put_fr (by omega)]
  exact r4 p hp
theorem early_E {I J : im_I} {a a' n : Nat} (hn : I (a + 27) 0 = nI n) (hn' : J (a' + 27) 0 = nI n) (h88 : n ≤ 88) (hR : ∀ p, p < n → insAt J (a' + 27) p = insAt I (a + 27) p) (h3 : J 3 2 = I 3 2) : earlyVariables_ J a' = earlyVariables_ I a := by
  unfold earlyVariables_
  rw [hn, hn', h3, loopC_nat0 (by omega), loopC_nat0 (by omega)]
  have e : itN (fun i => earlyOne_ J (a' + 27) (nI i)) n ((0, 0) : Int32 × Int32) = itN (fun i => earlyOne_ I (a + 27) (nI i)) n (0, 0) := itN_congr fun i s hi => by
    unfold earlyOne_
    simp only [loopC3, readBy_0 (show i < 88 by omega), readBy_1 (show i < 88 by omega), readBy_2 (show i < 88 by omega), writtenBy_nat (show i < 88 by omega), hR i hi]
  rw [e]
theorem addEntry_R {I J : im_I} {a a' : Nat} (h0 : I (a + 10) 0 = 0) (h0' : J (a' + 10) 0 = 0) (he : earlyVariables_ J a' = earlyVariables_ I a) : ∃ ne, ne ≤ 8 ∧ addEntry_ I a (a + 10) 0 = nI ne ∧ addEntry_ J a' (a' + 10) 0 = nI ne ∧ ∀ p, p < ne → insAt (addEntry_ J a') (a' + 10) p = insAt (addEntry_ I a) (a + 10) p := by
  unfold addEntry_
  rw [show (8 : Int32) = nI 8 from rfl, loopC_nat0 (by decide), loopC_nat0 (by decide), he]
  generalize earlyVariables_ I a = early
  refine itN_rel (f := fun v => addEntryOne_ a early (nI v)) (g := fun v => addEntryOne_ a' early (nI v)) (n := 8) (s := I) (t := J) (fun v A B => ∃ ne, ne ≤ v ∧ A (a + 10) 0 = nI ne ∧ B (a' + 10) 0 = nI ne ∧ ∀ p, p < ne → insAt B (a' + 10) p = insAt A (a + 10) p) ⟨0, Nat.le_refl _, by rw [h0]; exact nI_0.symm, by rw [h0']; exact nI_0.symm, fun p hp => absurd hp (by omega)⟩ (fun v A B hv hAB => ?_)
  obtain ⟨ne, e1, e2, e3, e4⟩ := hAB
  unfold addEntryOne_
  by_cases c : hasBit_ early (nI v) = false
  · rw [if_pos c, if_pos c]
    exact ⟨ne, by omega, e2, e3, e4⟩
  · rw [if_neg c, if_neg c]
    have hA := addR_app (I := A) (r := a + 10) (n := ne) (kd := 0) (v := nI v) (b := -1) (x := -1) (y := -1) (z := -1) e2 (by omega)
    have hB := addR_app (I := B) (r := a' + 10) (n := ne) (kd := 0) (v := nI v) (b := -1) (x := -1) (y := -1) (z := -1) e3 (by omega)
    refine ⟨ne + 1, by omega, App_row hA, App_row hB, fun p hp => ?_⟩
    by_cases d : p = ne
    · rw [d, App_at hA, App_at hB]
    · rw [App_old hA (by omega), App_old hB (by omega)]
      exact e4 p (by omega)
