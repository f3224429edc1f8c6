/-! PURE THEORY, THE PLAN: from the program to the lines -/
theorem RawI_move {C A I0 : im_I} {a nn n x : Nat} {s : Nat → Nat} (h : RawI C A a nn n x s 4 0 5) (h1 : ∀ z, a + 27 ≤ z → z ≤ a + 34 → I0 z = A z) (h2 : I0 (a + 1) = A (a + 1)) (h3 : ∀ z, z = 5 ∨ z = 6 ∨ z = 7 ∨ z = 9 ∨ z = 10 ∨ z = 11 → I0 z = C z) : RawI I0 I0 a nn n x s 4 0 5 := by
  have eR : insAt I0 (a + 27) = insAt A (a + 27) := funext fun p => insAt_fr fun z z1 z2 => h1 z (by omega) (by omega)
  have ec : ctN I0 = ctN C := by unfold ctN; rw [h3 9 (by omega)]
  have er : roN I0 = roN C := by unfold roN; rw [h3 11 (by omega)]
  have ev : vaN I0 = vaN C := by unfold vaN; rw [h3 10 (by omega)]
  have es : szS I0 = szS C := by unfold szS; rw [er, h3 5 (by omega), h3 6 (by omega), h3 7 (by omega)]
  have et : totB I0 = totB C := by unfold totB; rw [es, ec]
  have em : stm I0 = stm C := by unfold stm; rw [er, ev, h3 5 (by omega), h3 6 (by omega), h3 7 (by omega)]
  obtain ⟨g1, g2, g3, g4, g5, g6, g7, -⟩ := h
  unfold RawI
  rw [eR, ec, es, et, em, h1 (a + 27) (by omega) (by omega), h1 (a + 34) (by omega) (by omega), h2]
  exact ⟨g1, g2, g3, g4, g5, g6, g7, fun _ _ _ _ => rfl⟩
theorem earlyVariables_congr {I J : im_I} {a : Nat} (h : ∀ z, z = 3 ∨ a + 27 ≤ z ∧ z ≤ a + 34 → J z = I z) : earlyVariables_ J a = earlyVariables_ I a := by
  have e : earlyOne_ J (a + 27) = earlyOne_ I (a + 27) := by
    funext i s
    unfold earlyOne_ readBy_ writtenBy_
    rw [h (a + 27 + 3) (by omega), h (a + 27 + 2) (by omega)]
  unfold earlyVariables_
  rw [e, h (a + 27) (by omega), h 3 (by omega)]
theorem stOk_fr {I J : im_I} {nn : Nat} (h : stOk I nn) (e : ∀ z, z = 5 ∨ z = 6 ∨ z = 7 ∨ z = 9 ∨ z = 10 ∨ z = 11 → J z = I z) : stOk J nn := by
  have ec : ctN J = ctN I := by unfold ctN; rw [e 9 (by omega)]
  have er : roN J = roN I := by unfold roN; rw [e 11 (by omega)]
  have ev : vaN J = vaN I := by unfold vaN; rw [e 10 (by omega)]
  have es : szS J = szS I := by unfold szS; rw [er, e 5 (by omega), e 6 (by omega), e 7 (by omega)]
  have et : totB J = totB I := by unfold totB; rw [es, ec]
  unfold stOk
  rw [ec, er, ev, et, e 9 (by omega), e 10 (by omega), e 11 (by omega)]
  exact h
theorem coverAll_Ch {I : im_I} {c m nn : Nat} (h0 : I 3 0 = nI nn) (hp : pgOk (I 5) (I 6) (I 7) nn) (hc : 11 < c) (hm : m + 1 < c) : ChOk (coverAll_ I c m) c nn ∧ coverAll_ I c m c 11 = 8 := by
  obtain ⟨h1, h2, h3⟩ := coverAll_to (m := m) h0 hp (show 7 < c by omega) (Or.inl hm)
  refine ⟨⟨?_, fun j hj => ?_⟩, h2⟩
  · rw [h3 5 (by omega) (by omega), h3 6 (by omega) (by omega), h3 7 (by omega) (by omega)]
    exact hp
  · rw [h1 j hj, h3 5 (by omega) (by omega), h3 6 (by omega) (by omega), h3 7 (by omega) (by omega)]
    exact covNew_F hp hj
theorem insOk_rw {x : Ins} (h : insOk x) : rwOk x := by
  obtain ⟨-, ⟨w, h1, h2⟩, h3⟩ := h
  refine ⟨Or.inr ⟨w, by omega, h2⟩, fun i hi => ?_⟩
  rcases h3 i hi with e | ⟨y, hy, e⟩
  · exact Or.inl e
  · exact Or.inr ⟨y, by omega, e⟩
theorem RawI_ok {I0 : im_I} {a nn n x : Nat} {s : Nat → Nat} (h : RawI I0 I0 a nn n x s 4 0 5) (hs : stOk I0 nn) : n ≤ 80 ∧ ∀ j, j < n → insOk (insAt I0 (a + 27) j) := by
  obtain ⟨⟨-, -, -, r4, r5⟩, -, rR, -⟩ := h
  have r5' : n ≤ totB I0 4 := r5
  have hn80 : n ≤ 80 := by have := hs.2; omega
  refine ⟨hn80, fun j hj => ?_⟩
  obtain ⟨q1, ⟨w, q2, q3⟩, q4⟩ := rR j hj
  refine ⟨q1, ⟨w, by omega, q3⟩, fun i hi => ?_⟩
  rcases q4 i hi with e | ⟨y, e, h8 | ⟨h8, q, q5, q6, -⟩⟩
  · exact Or.inl e
  · exact Or.inr ⟨y, by omega, e⟩
  · obtain ⟨-, ⟨w2, q7, q8⟩, -⟩ := rR q (by omega)
    have hy : nI y = nI w2 := q6.symm.trans q8
    exact Or.inr ⟨w2, by omega, e.trans hy⟩
/-- the program, as the plan takes it -/
def PgOk (I : im_I) (nn : Nat) : Prop := I 3 0 = nI nn ∧ pgOk (I 5) (I 6) (I 7) nn ∧ stOk I nn
theorem LnOk_fr {I J : im_I} {a N : Nat} {st : Nat → Nat} (h : LnOk I a N st) (e : ∀ z, z = 3 ∨ z = 5 ∨ z = 6 ∨ z = 7 ∨ z = 9 ∨ z = 10 ∨ z = 11 ∨ a + 10 ≤ z ∧ z ≤ a + 16 ∨ z = a + 26 → J z = I z) : LnOk J a N st := by
  have eR : insAt J (a + 10) = insAt I (a + 10) := funext fun p => insAt_fr fun z z1 z2 => e z (by omega)
  have ec : ctN J = ctN I := by unfold ctN; rw [e 9 (by omega)]
  have er : roN J = roN I := by unfold roN; rw [e 11 (by omega)]
  have ev : vaN J = vaN I := by unfold vaN; rw [e 10 (by omega)]
  have em : stm J = stm I := by unfold stm; rw [er, ev, e 5 (by omega), e 6 (by omega), e 7 (by omega)]
  unfold LnOk
  rw [eR, ec, em, e (a + 10) (by omega), e (a + 26) (by omega), e 3 (by omega)]
  exact h
def linesAt (I : im_I) (a m : Nat) (o : Int32) : im_I := put_ (buildAll_ I a m o) (a + 26) 5 4 (buildAll_ I a m o (a + 10) 0)
theorem linesAt_L {I : im_I} {a m nn : Nat} (h : PgOk I nn) (ha : 11 < a) (hm : m < a) : ∃ N st, LnOk (linesAt I a m 1) a N st := by
  obtain ⟨h0, hp, hs⟩ := h
  obtain ⟨hC, hC11⟩ := coverAll_Ch (m := m) (c := a + 1) h0 hp (by omega) (by omega)
  have hCf : ∀ z, z < a + 1 → coverAll_ I (a + 1) m z = I z := fun z hz => coverAll_fr (Or.inl hz)
  have hs1 := stOk_fr (J := coverAll_ I (a + 1) m) hs (fun z hz => hCf z (by omega))
  obtain ⟨n, x, s, hs4, hA⟩ := chooseAll_R hC hs1 ha hC11
  have hA8 := hA.2.2.2.2.2.2.2
  unfold linesAt buildAll_
  rw [loopC4]
  unfold buildFirst_
  generalize chooseAll_ (coverAll_ I (a + 1) m) a = A at hA hA8 ⊢
  obtain ⟨ne, hE⟩ := addEntry_E (I := im_up A (a + 10) 0 0) (a := a) im_up_same
  have hE5 := hE.2.2.2.2
  have hE0 : ∀ z, z < a + 10 ∨ a + 16 < z → addEntry_ (im_up A (a + 10) 0 0) a z = A z := fun z hz => (hE5 z hz).trans (up_fr (by omega))
  have eE : earlyVariables_ (addEntry_ (im_up A (a + 10) 0 0) a) a = earlyVariables_ (im_up A (a + 10) 0 0) a := earlyVariables_congr fun z hz => hE5 z (by omega)
  generalize addEntry_ (im_up A (a + 10) 0 0) a = I0 at hE hE5 hE0 eE ⊢
  have hI0 : ∀ z, z = 5 ∨ z = 6 ∨ z = 7 ∨ z = 9 ∨ z = 10 ∨ z = 11 → I0 z = coverAll_ I (a + 1) m z := fun z hz => (hE0 z (by omega)).trans (hA8 z (by omega) (by omega) (by omega))
  have hR := RawI_move (I0 := I0) hA (fun z z1 z2 => hE0 z (by omega)) (hE0 _ (by omega)) hI0
  have hs2 := stOk_fr (J := I0) hs1 hI0
  have hE' : EntI I0 I0 a (earlyVariables_ I0 a) 8 ne := by
    rw [eE]
    exact ⟨hE.1, hE.2.1, hE.2.2.1, hE.2.2.2.1, fun z hz => rfl⟩
  obtain ⟨hn80, hok⟩ := RawI_ok hR hs2
  have hst : ∀ i, i < 5 → I0 (a + 34) i = nI (s i) := hR.2.1.2.2.2
  have hsm : ∀ i, i < 4 → s i ≤ s (i + 1) := hR.2.1.2.2.1
  have hs0 : s 0 = 0 := hR.2.1.1
  have hB0 : BldI I0 I0 a ne s 0 (fun _ => []) := ⟨by rw [hs0]; exact hE.1.2, fun p hp => rfl, fun i hi => absurd hi (by omega), fun i hi => absurd hi (by omega), fun p => eqI_rf, fun z _ _ _ _ => rfl⟩
  obtain ⟨P1, hB1⟩ := BldI_step (m := m) hB0 (by decide) hE.1.1 hs4 hn80 hsm hst hok
  obtain ⟨P2, hB2⟩ := BldI_step (m := m) hB1 (by decide) hE.1.1 hs4 hn80 hsm hst hok
  obtain ⟨P3, hB3⟩ := BldI_step (m := m) hB2 (by decide) hE.1.1 hs4 hn80 hsm hst hok
  obtain ⟨P4, hB4⟩ := BldI_step (m := m) hB3 (by decide) hE.1.1 hs4 hn80 hsm hst hok
  have g0 : buildBlock_ a m 1 0 = buildBlock_ a m 1 (nI 0) := by rw [nI_0]
  have g1 : buildBlock_ a m 1 1 = buildBlock_ a m 1 (nI 1) := congrArg (buildBlock_ a m 1) (show (1 : Int32) = nI 1 by decide)
  have g2 : buildBlock_ a m 1 2 = buildBlock_ a m 1 (nI 2) := congrArg (buildBlock_ a m 1) (show (2 : Int32) = nI 2 by decide)
  have g3 : buildBlock_ a m 1 3 = buildBlock_ a m 1 (nI 3) := congrArg (buildBlock_ a m 1) (show (3 : Int32) = nI 3 by decide)
  rw [g0, g1, g2, g3]
  exact ⟨_, _, LnOk_of hE' hB4 hR hs2 hs4 (early_hb hR.1.1 (by omega) (fun p hp => insOk_rw (hok p hp))) ha⟩
theorem build_L {I : im_I} {a m nn : Nat} (h : PgOk I nn) (ha : 11 < a) (hm : m < a) : ∃ N st, LnOk (linesAt I a m 1) a N st ∧ LnOk (build_ I a m 1) a N st := by
  obtain ⟨N, st, hL⟩ := linesAt_L (m := m) h ha hm
  exact ⟨N, st, hL, LnOk_fr hL fun z hz => measure_fr (by omega)⟩
