/-! THE PLAN's lines in two memories -/
theorem linesAt_4 {I : im_I} {a m : Nat} {o : Int32} : linesAt I a m o = put_ (buildBlock_ a m o (nI 3) (buildBlock_ a m o (nI 2) (buildBlock_ a m o (nI 1) (buildBlock_ a m o (nI 0) (buildFirst_ I a m))))) (a + 26) 5 4 (buildBlock_ a m o (nI 3) (buildBlock_ a m o (nI 2) (buildBlock_ a m o (nI 1) (buildBlock_ a m o (nI 0) (buildFirst_ I a m)))) (a + 10) 0) := by
  have g0 : buildBlock_ a m o 0 = buildBlock_ a m o (nI 0) := by rw [nI_0]
  have g1 : buildBlock_ a m o 1 = buildBlock_ a m o (nI 1) := congrArg (buildBlock_ a m o) (show (1 : Int32) = nI 1 by decide)
  have g2 : buildBlock_ a m o 2 = buildBlock_ a m o (nI 2) := congrArg (buildBlock_ a m o) (show (2 : Int32) = nI 2 by decide)
  have g3 : buildBlock_ a m o 3 = buildBlock_ a m o (nI 3) := congrArg (buildBlock_ a m o) (show (3 : Int32) = nI 3 by decide)
  unfold linesAt buildAll_
  rw [loopC4, g0, g1, g2, g3]
set_option maxHeartbeats 2000000 in
theorem linesAt_E {I J : im_I} {a a' m m' nn : Nat} {o : Int32} (h : PgOk I nn) (hP : PgE I J) (hM : MpE I J m m') (ha : 11 < a) (ha' : 11 < a') (hm : m < a) (hm' : m' < a') :
    ∃ N st, LnOk (linesAt I a m o) a N st ∧ LnOk (linesAt J a' m' o) a' N st ∧ ∀ p, p < N → insAt (linesAt J a' m' o) (a' + 10) p = insAt (linesAt I a m o) (a + 10) p := by
  obtain ⟨h0, hp, hs⟩ := h
  have h0' : J 3 0 = nI nn := by rw [hP 3 (by decide) (by decide)]; exact h0
  have hp' : pgOk (J 5) (J 6) (J 7) nn := by rw [hP 5 (by decide) (by decide), hP 6 (by decide) (by decide), hP 7 (by decide) (by decide)]; exact hp
  obtain ⟨hC, hC11⟩ := coverAll_Ch (m := m) (c := a + 1) h0 hp (by omega) (by omega)
  obtain ⟨hC', hC11'⟩ := coverAll_Ch (m := m') (c := a' + 1) h0' hp' (by omega) (by omega)
  have hcov := cov_det (c := a + 1) (c' := a' + 1) h0 hp hP hM (by omega) (by omega) (by omega) (by omega)
  have hCf : ∀ z, z < a + 1 → coverAll_ I (a + 1) m z = I z := fun z hz => coverAll_fr (Or.inl hz)
  have hCf' : ∀ z, z < a' + 1 → coverAll_ J (a' + 1) m' z = J z := fun z hz => coverAll_fr (Or.inl hz)
  have hs1 := stOk_fr (J := coverAll_ I (a + 1) m) hs (fun z hz => hCf z (by omega))
  have hPc : PgE (coverAll_ I (a + 1) m) (coverAll_ J (a' + 1) m') := fun z z1 z2 => by rw [hCf' z (by omega), hCf z (by omega)]; exact hP z z1 z2
  have hs1' := stOk_E hs1 hPc
  obtain ⟨n, x, s, hs4, hA, hB, hR⟩ := chooseAll_E hC hC' hcov hs1 hPc ha ha' hC11 hC11'
  have hA8 := hA.2.2.2.2.2.2.2
  have hB8 := hB.2.2.2.2.2.2.2
  rw [linesAt_4, linesAt_4]
  unfold buildFirst_
  generalize chooseAll_ (coverAll_ I (a + 1) m) a = A at hA hA8 hR ⊢
  generalize chooseAll_ (coverAll_ J (a' + 1) m') a' = B at hB hB8 hR ⊢
  obtain ⟨ne, hE⟩ := addEntry_E (I := im_up A (a + 10) 0 0) (a := a) im_up_same
  obtain ⟨ne', hF⟩ := addEntry_E (I := im_up B (a' + 10) 0 0) (a := a') im_up_same
  have hE5 := hE.2.2.2.2
  have hF5 := hF.2.2.2.2
  have hE0 : ∀ z, z < a + 10 ∨ a + 16 < z → addEntry_ (im_up A (a + 10) 0 0) a z = A z := fun z hz => (hE5 z hz).trans (up_fr (by omega))
  have hF0 : ∀ z, z < a' + 10 ∨ a' + 16 < z → addEntry_ (im_up B (a' + 10) 0 0) a' z = B z := fun z hz => (hF5 z hz).trans (up_fr (by omega))
  have eE : earlyVariables_ (addEntry_ (im_up A (a + 10) 0 0) a) a = earlyVariables_ (im_up A (a + 10) 0 0) a := earlyVariables_congr fun z hz => hE5 z (by omega)
  have eF : earlyVariables_ (addEntry_ (im_up B (a' + 10) 0 0) a') a' = earlyVariables_ (im_up B (a' + 10) 0 0) a' := earlyVariables_congr fun z hz => hF5 z (by omega)
  have n80 : n ≤ 80 := by
    have h1 : n ≤ totB (coverAll_ I (a + 1) m) 4 := hA.1.2.2.2.2
    have := hs1.2
    omega
  have eEF : earlyVariables_ (im_up B (a' + 10) 0 0) a' = earlyVariables_ (im_up A (a + 10) 0 0) a := early_E (n := n) (by rw [up_fr (by omega)]; exact hA.1.1) (by rw [up_fr (by omega)]; exact hB.1.1) (by omega) (fun p hp => by
    rw [insAt_fr (I := B) fun z z1 z2 => up_fr (by omega), insAt_fr (I := A) fun z z1 z2 => up_fr (by omega)]
    exact hR p hp) (by rw [up_fr (by omega), up_fr (by omega), hB8 3 (by omega) (by omega) (by omega), hA8 3 (by omega) (by omega) (by omega), hPc 3 (by decide) (by decide)])
  obtain ⟨ne2, w1, w2, w3, w4⟩ := addEntry_R (I := im_up A (a + 10) 0 0) (J := im_up B (a' + 10) 0 0) (a := a) (a' := a') im_up_same im_up_same eEF
  have en : ne = ne2 := nI_inj (by have := hE.1.1; omega) (by omega) (hE.1.2.symm.trans w2)
  have en' : ne' = ne2 := nI_inj (by have := hF.1.1; omega) (by omega) (hF.1.2.symm.trans w3)
  subst en
  subst en'
  generalize addEntry_ (im_up A (a + 10) 0 0) a = I0 at hE hE5 hE0 eE w2 w4 ⊢
  generalize addEntry_ (im_up B (a' + 10) 0 0) a' = J0 at hF hF5 hF0 eF w3 w4 ⊢
  have hI0 : ∀ z, z = 5 ∨ z = 6 ∨ z = 7 ∨ z = 9 ∨ z = 10 ∨ z = 11 → I0 z = coverAll_ I (a + 1) m z := fun z hz => (hE0 z (by omega)).trans (hA8 z (by omega) (by omega) (by omega))
  have hJ0 : ∀ z, z = 5 ∨ z = 6 ∨ z = 7 ∨ z = 9 ∨ z = 10 ∨ z = 11 → J0 z = coverAll_ J (a' + 1) m' z := fun z hz => (hF0 z (by omega)).trans (hB8 z (by omega) (by omega) (by omega))
  have hRI := RawI_move (I0 := I0) hA (fun z z1 z2 => hE0 z (by omega)) (hE0 _ (by omega)) hI0
  have hRJ := RawI_move (I0 := J0) hB (fun z z1 z2 => hF0 z (by omega)) (hF0 _ (by omega)) hJ0
  have hs2 := stOk_fr (J := I0) hs1 hI0
  have hs2' := stOk_fr (J := J0) hs1' hJ0
  have hE' : EntI I0 I0 a (earlyVariables_ I0 a) 8 ne' := by
    rw [eE]
    exact ⟨hE.1, hE.2.1, hE.2.2.1, hE.2.2.2.1, fun z hz => rfl⟩
  have hF' : EntI J0 J0 a' (earlyVariables_ J0 a') 8 ne' := by
    rw [eF]
    exact ⟨hF.1, hF.2.1, hF.2.2.1, hF.2.2.2.1, fun z hz => rfl⟩
  obtain ⟨hn80, hok⟩ := RawI_ok hRI hs2
  obtain ⟨-, hok'⟩ := RawI_ok hRJ hs2'
  have hst : ∀ i, i < 5 → I0 (a + 34) i = nI (s i) := hRI.2.1.2.2.2
  have hst' : ∀ i, i < 5 → J0 (a' + 34) i = nI (s i) := hRJ.2.1.2.2.2
  have hsm : ∀ i, i < 4 → s i ≤ s (i + 1) := hRI.2.1.2.2.1
  have hs0 : s 0 = 0 := hRI.2.1.1
  have hcyc : cyclesOf_ J0 m' = cyclesOf_ I0 m := by
    have e1 : cyclesOf_ J0 m' = cyclesOf_ J m' := by
      funext kd
      unfold cyclesOf_
      rw [hF0 (m' + 1) (by omega)]
      by_cases c : m' + 1 < a'
      · rw [hB8 (m' + 1) (by omega) (by omega) (by omega), hCf' (m' + 1) (by omega)]
      · rw [show m' + 1 = a' by omega, hB8 a' (by omega) (by omega) (by omega), hCf' a' (by omega)]
    have e2 : cyclesOf_ I0 m = cyclesOf_ I m := by
      funext kd
      unfold cyclesOf_
      rw [hE0 (m + 1) (by omega)]
      by_cases c : m + 1 < a
      · rw [hA8 (m + 1) (by omega) (by omega) (by omega), hCf (m + 1) (by omega)]
      · rw [show m + 1 = a by omega, hA8 a (by omega) (by omega) (by omega), hCf a (by omega)]
    rw [e1, e2, hM.1]
  have hB0 : BldI I0 I0 a ne' s 0 (fun _ => []) := ⟨by rw [hs0]; exact hE.1.2, fun p hp => rfl, fun i hi => absurd hi (by omega), fun i hi => absurd hi (by omega), fun p => eqI_rf, fun z _ _ _ _ => rfl⟩
  have hB0' : BldI J0 J0 a' ne' s 0 (fun _ => []) := ⟨by rw [hs0]; exact hF.1.2, fun p hp => rfl, fun i hi => absurd hi (by omega), fun i hi => absurd hi (by omega), fun p => eqI_rf, fun z _ _ _ _ => rfl⟩
  have hraw : ∀ p, p < n → insAt J0 (a' + 27) p = insAt I0 (a + 27) p := fun p hp => by
    rw [insAt_fr (I := B) fun z z1 z2 => hF0 z (by omega), insAt_fr (I := A) fun z z1 z2 => hE0 z (by omega)]
    exact hR p hp
  obtain ⟨P1, Q1, b1, d1, l1, r1⟩ := BldE_step (m := m) (m' := m') (o := o) hB0 hB0' (by decide) hE.1.1 hs4 hn80 hsm hst hst' hok hok' hcyc (by omega) (by omega) (fun p hp => w4 p (by omega)) hraw
  obtain ⟨P2, Q2, b2, d2, l2, r2⟩ := BldE_step (m := m) (m' := m') (o := o) b1 d1 (by decide) hE.1.1 hs4 hn80 hsm hst hst' hok hok' hcyc (by omega) (by omega) l1 r1
  obtain ⟨P3, Q3, b3, d3, l3, r3⟩ := BldE_step (m := m) (m' := m') (o := o) b2 d2 (by decide) hE.1.1 hs4 hn80 hsm hst hst' hok hok' hcyc (by omega) (by omega) l2 r2
  obtain ⟨P4, Q4, b4, d4, l4, r4⟩ := BldE_step (m := m) (m' := m') (o := o) b3 d3 (by decide) hE.1.1 hs4 hn80 hsm hst hst' hok hok' hcyc (by omega) (by omega) l3 r3
  refine ⟨_, _, LnOk_of hE' b4 hRI hs2 hs4 (early_hb hRI.1.1 (by omega) (fun p hp => insOk_rw (hok p hp))) ha, LnOk_of hF' d4 hRJ hs2' hs4 (early_hb hRJ.1.1 (by omega) (fun p hp => insOk_rw (hok' p hp))) ha', fun p hp => ?_⟩
  rw [insAt_fr (r := a' + 10) fun z z1 z2 => put_fr (by omega), insAt_fr (r := a + 10) fun z z1 z2 => put_fr (by omega)]
  exact l4 p (by rw [← hs4] at hp; exact hp)
theorem build_LO {I : im_I} {a m nn : Nat} {o : Int32} (h : PgOk I nn) (ha : 11 < a) (hm : m < a) : ∃ N st, LnOk (linesAt I a m o) a N st ∧ LnOk (build_ I a m o) a N st ∧ LvOk (build_ I a m o) a N st := by
  obtain ⟨N, st, hL, -⟩ := linesAt_E (o := o) h (fun z _ _ => rfl : PgE I I) (⟨rfl, rfl, rfl⟩ : MpE I I m m) ha ha hm hm
  exact ⟨N, st, hL, LnOk_fr hL fun z hz => measure_fr (by omega), measure_Lv hL ha⟩
