/-! DETERMINATION: LIVES, their ends; the plan -/
section MvE
variable {A B : im_I} {v v' r r' x x' cc i N w l : Nat}
theorem endOf_E (hw : w < 88) (hl : A (v + 2) w = nI l) (hl' : B (v' + 2) w = nI l) (h88 : l < 88) (h1 : B (v' + 1) w = A (v + 1) w) (hi : insAt B r' l = insAt A r l) (hr : B r' 0 = A r 0) (hs : ∀ q, q < 5 → B x' q = A x q) (h3 : B 3 2 = A 3 2) (h4 : B 4 = A 4) : endOf_ B v' r' x' 5 (nI w) = endOf_ A v r x 5 (nI w) := by
  have e1 : lastOf_ A v (nI w) = nI l := by unfold lastOf_; rw [at88 hw]; exact hl
  have e1' : lastOf_ B v' (nI w) = nI l := by unfold lastOf_; rw [at88 hw]; exact hl'
  have e2 : firstOf_ B v' (nI w) = firstOf_ A v (nI w) := by unfold firstOf_; rw [at88 hw, at88 hw]; exact h1
  have e3 : blockOf_ B r' (nI l) = blockOf_ A r (nI l) := by rw [blockOf_nat h88, blockOf_nat h88, hi]
  have e4 : roundsOf_ B 3 = roundsOf_ A 3 := by funext z; unfold roundsOf_; rw [show B (3 + 1) = A (3 + 1) from h4]
  have e5 : ∀ z, at_ (B x') 5 z = at_ (A x) 5 z := fun z => at_congr hs
  unfold endOf_
  simp only [e1, e1', e2, e3, e4, e5, h3, hr]
theorem weigh_E (hw : w < 88) (h1 : B (v' + 1) w = A (v + 1) w) (h2 : B (v' + 2) w = A (v + 2) w) (h3 : B (v' + 3) w = A (v + 3) w) : weigh_ B v' (nI w) = weigh_ A v (nI w) := by
  unfold weigh_ lastOf_ firstOf_
  simp only [at88 hw, h1, h2, h3]
theorem isCrossing_E {pt : Int32} (hw : w < 88) (h1 : B (v' + 1) w = A (v + 1) w) (h2 : B (v' + 2) w = A (v + 2) w) : isCrossing_ B v' (nI w) pt = isCrossing_ A v (nI w) pt := by
  unfold isCrossing_ lastOf_ firstOf_
  simp only [isLiving_nat hw, at88 hw, h1, h2]
theorem countCrossed_E (hw : w < 88) (hc : A v 2 = nI cc) (hc' : B v' 2 = nI cc) (h88 : cc ≤ 88) (h1 : B (v' + 1) w = A (v + 1) w) (h2 : B (v' + 2) w = A (v + 2) w) (h8 : ∀ k, k < cc → B (v' + 8) k = A (v + 8) k) : countCrossed_ B v' (nI w) = countCrossed_ A v (nI w) := by
  unfold countCrossed_
  rw [hc, hc', loopC_nat0 (by omega), loopC_nat0 (by omega)]
  refine itN_congr fun k c hk => ?_
  simp only [at88 (show k < 88 by omega), h8 k hk, isCrossing_E hw h1 h2]
/-- lives in two memories, ends told for values before i -/
def MvE (A B : im_I) (v v' cc N i : Nat) : Prop :=
  (A v 2 = nI cc ∧ ∀ q, q < 3 → B v' q = A v q) ∧ (∀ w, w < 88 → B (v' + 1) w = A (v + 1) w ∧ B (v' + 3) w = A (v + 3) w ∧ B (v' + 5) w = A (v + 5) w) ∧
  (∀ w, w < 88 → A (v + 1) w ≠ -1 → B (v' + 2) w = A (v + 2) w ∧ (w < i → B (v' + 4) w = A (v + 4) w ∧ B (v' + 7) w = A (v + 7) w) ∧ (i ≤ w → ∃ l, l < N ∧ A (v + 2) w = nI l)) ∧ (∀ k, k < cc → B (v' + 8) k = A (v + 8) k)
set_option maxHeartbeats 1000000 in
theorem measureOne_E (hi : i < 88) (hr : r + 6 < v) (hr' : r' + 6 < v') (hx : x < v ∨ v + 8 < x) (hx' : x' < v' ∨ v' + 8 < x') (h4v : 4 < v) (h4v' : 4 < v') (hin : ∀ p, p < N → insAt B r' p = insAt A r p) (hN : N ≤ 88) (hr0 : B r' 0 = A r 0) (hs : ∀ q, q < 5 → B x' q = A x q) (h3 : B 3 2 = A 3 2) (h4 : B 4 = A 4) (hcc : cc ≤ 88) (h : MvE A B v v' cc N i) :
    MvE (measureOne_ v r x 5 (nI i) A) (measureOne_ v' r' x' 5 (nI i) B) v v' cc N (i + 1) := by
  obtain ⟨⟨h1, h2⟩, hR, hL, h8⟩ := h
  obtain ⟨r1, r3, r5⟩ := hR i hi
  unfold measureOne_
  rw [isLiving_nat hi, isLiving_nat hi, r1]
  by_cases c : A (v + 1) i = -1
  · have e : decide (¬ A (v + 1) i = -1) = false := decide_eq_false fun e => e c
    rw [if_pos e, if_pos e]
    refine ⟨⟨h1, h2⟩, hR, fun w hw hl => ?_, h8⟩
    obtain ⟨a1, a2, a3⟩ := hL w hw hl
    refine ⟨a1, fun hwi => a2 ?_, fun hwi => a3 (by omega)⟩
    by_cases d : w = i
    · subst d; exact absurd c hl
    · omega
  · have e : ¬ decide (¬ A (v + 1) i = -1) = false := by rw [decide_eq_true c]; decide
    rw [if_neg e, if_neg e]
    obtain ⟨a1, -, a3⟩ := hL i hi c
    obtain ⟨l, l1, l2⟩ := a3 (Nat.le_refl _)
    have l2' : B (v' + 2) i = nI l := a1.trans l2
    have u1 : B v' 1 + 1 = A v 1 + 1 := by rw [h2 1 (by decide)]
    simp only [u1]
    generalize A v 1 + 1 = u
    have eE : endOf_ (im_up B v' 1 u) v' r' x' 5 (nI i) = endOf_ (im_up A v 1 u) v r x 5 (nI i) := by
      refine endOf_E (l := l) hi ?_ ?_ (by omega) ?_ ?_ ?_ (fun q hq => ?_) ?_ ?_
      · rw [up_fr (by omega)]; exact l2
      · rw [up_fr (by omega)]; exact l2'
      · rw [up_fr (by omega), up_fr (by omega)]; exact r1
      · rw [insAt_fr (I := B) fun z z1 z2 => up_fr (by omega), insAt_fr (I := A) fun z z1 z2 => up_fr (by omega)]; exact hin l l1
      · rw [up_fr (by omega), up_fr (by omega)]; exact hr0
      · rw [up_fr (by omega), up_fr (by omega)]; exact hs q hq
      · rw [up_fr (by omega), up_fr (by omega)]; exact h3
      · rw [up_fr (by omega), up_fr (by omega)]; exact h4
    rw [eE]
    generalize endOf_ (im_up A v 1 u) v r x 5 (nI i) = en
    simp only [put88 hi]
    have eW : weigh_ (im_up (im_up B v' 1 u) (v' + 2) i en) v' (nI i) = weigh_ (im_up (im_up A v 1 u) (v + 2) i en) v (nI i) := by
      refine weigh_E hi ?_ ?_ ?_
      · rw [up_fr (by omega), up_fr (by omega), up_fr (by omega), up_fr (by omega)]; exact r1
      · rw [im_up_same, im_up_same]
      · rw [up_fr (by omega), up_fr (by omega), up_fr (by omega), up_fr (by omega)]; exact r3
    rw [eW]
    generalize weigh_ (im_up (im_up A v 1 u) (v + 2) i en) v (nI i) = we
    have eC : countCrossed_ (im_up (im_up (im_up B v' 1 u) (v' + 2) i en) (v' + 4) i we) v' (nI i) = countCrossed_ (im_up (im_up (im_up A v 1 u) (v + 2) i en) (v + 4) i we) v (nI i) := by
      refine countCrossed_E (cc := cc) hi ?_ ?_ hcc ?_ ?_ (fun k hk => ?_)
      · rw [up_fr (by omega), up_fr (by omega), up_ne (by decide)]; exact h1
      · rw [up_fr (by omega), up_fr (by omega), up_ne (by decide), h2 2 (by decide)]; exact h1
      · rw [up_fr (by omega), up_fr (by omega), up_fr (by omega), up_fr (by omega), up_fr (by omega), up_fr (by omega)]; exact r1
      · rw [up_fr (show v' + 2 ≠ v' + 4 by omega), up_fr (show v + 2 ≠ v + 4 by omega), im_up_same, im_up_same]
      · rw [up_fr (by omega), up_fr (by omega), up_fr (by omega), up_fr (by omega), up_fr (by omega), up_fr (by omega)]; exact h8 k hk
    rw [eC]
    generalize countCrossed_ (im_up (im_up (im_up A v 1 u) (v + 2) i en) (v + 4) i we) v (nI i) = co
    have fA : ∀ z, z ≠ v → z ≠ v + 2 → z ≠ v + 4 → z ≠ v + 7 → im_up (im_up (im_up (im_up A v 1 u) (v + 2) i en) (v + 4) i we) (v + 7) i co z = A z := fun z z0 z2 z4 z7 => by rw [up_fr z7, up_fr z4, up_fr z2, up_fr z0]
    have fB : ∀ z, z ≠ v' → z ≠ v' + 2 → z ≠ v' + 4 → z ≠ v' + 7 → im_up (im_up (im_up (im_up B v' 1 u) (v' + 2) i en) (v' + 4) i we) (v' + 7) i co z = B z := fun z z0 z2 z4 z7 => by rw [up_fr z7, up_fr z4, up_fr z2, up_fr z0]
    refine ⟨⟨?_, fun q hq => ?_⟩, fun w hw => ?_, fun w hw hl => ?_, fun k hk => ?_⟩
    · rw [up_fr (by omega), up_fr (by omega), up_fr (by omega), up_ne (by decide)]; exact h1
    · rw [up_fr (by omega), up_fr (by omega), up_fr (by omega), up_fr (show v ≠ v + 7 by omega), up_fr (show v ≠ v + 4 by omega), up_fr (show v ≠ v + 2 by omega), up_row, up_row, h2 q hq]
    · rw [fA _ (by omega) (by omega) (by omega) (by omega), fA _ (by omega) (by omega) (by omega) (by omega), fA _ (by omega) (by omega) (by omega) (by omega), fB _ (by omega) (by omega) (by omega) (by omega), fB _ (by omega) (by omega) (by omega) (by omega), fB _ (by omega) (by omega) (by omega) (by omega)]
      exact hR w hw
    · rw [fA (v + 1) (by omega) (by omega) (by omega) (by omega)] at hl
      obtain ⟨a1, a2, a3⟩ := hL w hw hl
      refine ⟨?_, fun hwi => ⟨?_, ?_⟩, fun hwi => ?_⟩
      · rw [up_fr (by omega), up_fr (by omega), up_fr (show v + 2 ≠ v + 7 by omega), up_fr (show v + 2 ≠ v + 4 by omega), up_row, up_row, up_fr (by omega), up_fr (by omega), a1]
      · rw [up_fr (by omega), up_fr (show v + 4 ≠ v + 7 by omega), up_row, up_row, up_fr (by omega), up_fr (by omega), up_fr (show v + 4 ≠ v + 2 by omega), up_fr (show v + 4 ≠ v by omega)]
        by_cases d : w = i
        · rw [if_pos d, if_pos d]
        · rw [if_neg d, if_neg d]; exact (a2 (by omega)).1
      · rw [up_row, up_row, up_fr (by omega), up_fr (by omega), up_fr (by omega), up_fr (show v + 7 ≠ v + 4 by omega), up_fr (show v + 7 ≠ v + 2 by omega), up_fr (show v + 7 ≠ v by omega)]
        by_cases d : w = i
        · rw [if_pos d, if_pos d]
        · rw [if_neg d, if_neg d]; exact (a2 (by omega)).2
      · obtain ⟨l3, l4, l5⟩ := a3 (by omega)
        refine ⟨l3, l4, ?_⟩
        rw [up_fr (by omega), up_fr (by omega), up_ne (by omega), up_fr (by omega)]
        exact l5
    · rw [fA _ (by omega) (by omega) (by omega) (by omega), fB _ (by omega) (by omega) (by omega) (by omega)]
      exact h8 k hk
end MvE
/-- the same plan at two places -/
def PlE (I J : im_I) (a a' N : Nat) : Prop :=
  (J (a' + 10) 0 = I (a + 10) 0 ∧ ∀ p, p < N → insAt J (a' + 10) p = insAt I (a + 10) p) ∧ (∀ q, q < 5 → J (a' + 26) q = I (a + 26) q) ∧ (∀ q, q < 3 → J (a' + 17) q = I (a + 17) q) ∧
  (∀ w, w < 88 → J (a' + 18) w = I (a + 18) w ∧ J (a' + 22) w = I (a + 22) w) ∧ (∀ w, w < 88 → I (a + 18) w ≠ -1 → J (a' + 19) w = I (a + 19) w ∧ J (a' + 21) w = I (a + 21) w ∧ J (a' + 24) w = I (a + 24) w)
theorem PlE_fr {I J K L : im_I} {a a' N : Nat} (h : PlE I J a a' N) (hK : ∀ z, a + 10 ≤ z → z ≤ a + 26 → K z = I z) (hL : ∀ z, a' + 10 ≤ z → z ≤ a' + 26 → L z = J z) : PlE K L a a' N := by
  have eK : insAt K (a + 10) = insAt I (a + 10) := funext fun p => insAt_fr fun z z1 z2 => hK z (by omega) (by omega)
  have eL : insAt L (a' + 10) = insAt J (a' + 10) := funext fun p => insAt_fr fun z z1 z2 => hL z (by omega) (by omega)
  unfold PlE
  rw [eK, eL, hK (a + 10) (by omega) (by omega), hK (a + 26) (by omega) (by omega), hK (a + 17) (by omega) (by omega), hK (a + 18) (by omega) (by omega), hK (a + 22) (by omega) (by omega), hK (a + 19) (by omega) (by omega), hK (a + 21) (by omega) (by omega), hK (a + 24) (by omega) (by omega),
    hL (a' + 10) (by omega) (by omega), hL (a' + 26) (by omega) (by omega), hL (a' + 17) (by omega) (by omega), hL (a' + 18) (by omega) (by omega), hL (a' + 22) (by omega) (by omega), hL (a' + 19) (by omega) (by omega), hL (a' + 21) (by omega) (by omega), hL (a' + 24) (by omega) (by omega)]
  exact h
theorem measure1_Ts {I : im_I} {a N : Nat} {st : Nat → Nat} (h : LnOk I a N st) : TsI I (measure1_ I (a + 17) (a + 10)) (a + 17) (a + 10) N := by
  obtain ⟨⟨l1, l2, -⟩, lO, -⟩ := h
  unfold measure1_
  rw [l1, loopC_nat0 (by omega)]
  exact itN_inv (f := fun i J => touch_ J (a + 17) (a + 10) (nI i)) (fun i J => TsI I J (a + 17) (a + 10) i) TsI_0 (fun i J hi hJ => TsI_step hJ (by omega) (by omega) (lO i hi))
theorem measure_E {I J : im_I} {a a' N : Nat} {st : Nat → Nat} (h : LnOk I a N st) (h' : LnOk J a' N st) (hi : ∀ p, p < N → insAt J (a' + 10) p = insAt I (a + 10) p) (ha : 11 < a) (ha' : 11 < a') (h3 : J 3 2 = I 3 2) (h4 : J 4 = I 4) :
    PlE (measure_ I (a + 17) (a + 10) (a + 26) 5) (measure_ J (a' + 17) (a' + 10) (a' + 26) 5) a a' N := by
  have hT := measure1_Ts h
  obtain ⟨⟨l1, l2, -, -, -, l6⟩, lO, -⟩ := id h
  obtain ⟨⟨m1, -, -, -, -, m6⟩, -⟩ := id h'
  obtain ⟨cc, c1, hE⟩ := measure1_E (v := a + 17) (v' := a' + 17) l1 m1 l2 (by omega) (by omega) (by omega) (by omega) hi lO h4
  have hdef : ∀ (I : im_I) (a : Nat), measure_ I (a + 17) (a + 10) (a + 26) 5 = loopC 0 (measure1_ I (a + 17) (a + 10) (a + 17) 0) (measureOne_ (a + 17) (a + 10) (a + 26) 5) (measure1_ I (a + 17) (a + 10)) := fun _ _ => rfl
  have fI : ∀ z, z < a + 17 ∨ a + 17 + 8 < z → measure1_ I (a + 17) (a + 10) z = I z := fun z hz => measure1_fr hz
  have fJ : ∀ z, z < a' + 17 ∨ a' + 17 + 8 < z → measure1_ J (a' + 17) (a' + 10) z = J z := fun z hz => measure1_fr hz
  rw [hdef, hdef]
  generalize measure1_ I (a + 17) (a + 10) = A at hT hE fI ⊢
  generalize measure1_ J (a' + 17) (a' + 10) = B at hE fJ ⊢
  obtain ⟨⟨⟨vc, v1, v2, v3⟩, tL⟩, tF, -⟩ := hT
  obtain ⟨⟨e1, e2⟩, eR, eL, e8⟩ := hE
  have hliv : ∀ w, w < 88 → A (a + 17 + 1) w ≠ -1 → ∃ q, q < N ∧ tch (insAt I (a + 10) q) w := fun w hw hl => by
    rcases tF w hw with ⟨y, -⟩ | ⟨p, y1, -, y3, -⟩
    · exact absurd y hl
    · exact ⟨p, y1, Or.inl y3⟩
  rw [e2 0 (by decide), v2, loopC_nat0 (by omega), loopC_nat0 (by omega)]
  have key := itN_rel (f := fun w J => measureOne_ (a + 17) (a + 10) (a + 26) 5 (nI w) J) (g := fun w J => measureOne_ (a' + 17) (a' + 10) (a' + 26) 5 (nI w) J) (n := vc) (s := A) (t := B)
    (fun i C D => MvE C D (a + 17) (a' + 17) cc N i ∧ C (a + 17 + 1) = A (a + 17 + 1) ∧ (∀ z, z < a + 17 ∨ a + 17 + 8 < z → C z = I z) ∧ (∀ z, z < a' + 17 ∨ a' + 17 + 8 < z → D z = J z))
    ⟨⟨⟨e1, e2⟩, fun w hw => by obtain ⟨y1, y2, y3, -⟩ := eR w hw; exact ⟨y1, y2, y3⟩, fun w hw hl => ⟨eL w hw (hliv w hw hl), fun hh => absurd hh (by omega), fun _ => by
      obtain ⟨q, q1, q2⟩ := hliv w hw hl
      obtain ⟨l, y1, ⟨y2, -⟩, -⟩ := tL q w ⟨q1, hw, q2⟩
      exact ⟨l, y2, y1⟩⟩, e8⟩, rfl, fI, fJ⟩ (fun i C D hiv hCD => by
      obtain ⟨g1, g2, g3, g4⟩ := hCD
      have hC1 : measureOne_ (a + 17) (a + 10) (a + 26) 5 (nI i) C (a + 17 + 1) = C (a + 17 + 1) := by
        unfold measureOne_
        split
        · rfl
        · simp only [put_fr (show a + 17 + 1 ≠ a + 17 + 7 by omega), put_fr (show a + 17 + 1 ≠ a + 17 + 4 by omega), put_fr (show a + 17 + 1 ≠ a + 17 + 2 by omega), up_fr (show a + 17 + 1 ≠ a + 17 by omega)]
      refine ⟨measureOne_E (by omega) (by omega) (by omega) (Or.inr (by omega)) (Or.inr (by omega)) (by omega) (by omega) (fun p hp => ?_) l2 ?_ (fun q hq => ?_) ?_ ?_ (by omega) g1, hC1.trans g2, fun z hz => (measureOne_fr hz).trans (g3 z hz), fun z hz => (measureOne_fr hz).trans (g4 z hz)⟩
      · rw [insAt_fr (I := J) fun z z1 z2 => g4 z (by omega), insAt_fr (I := I) fun z z1 z2 => g3 z (by omega)]; exact hi p hp
      · rw [g3 _ (by omega), g4 _ (by omega), l1, m1]
      · rw [g3 _ (by omega), g4 _ (by omega), l6 q hq, m6 q hq]
      · rw [g3 _ (by omega), g4 _ (by omega), h3]
      · rw [g3 _ (by omega), g4 _ (by omega), h4])
  obtain ⟨⟨⟨k1, k2⟩, kR, kL, -⟩, kA, fC, fD⟩ := key
  refine ⟨⟨by rw [fC _ (by omega), fD _ (by omega), l1, m1], fun p hp => ?_⟩, fun q hq => by rw [fC _ (by omega), fD _ (by omega), l6 q hq, m6 q hq], k2, fun w hw => ⟨(kR w hw).1, (kR w hw).2.2⟩, fun w hw hl => ?_⟩
  · rw [insAt_fr (I := J) fun z z1 z2 => fD z (by omega), insAt_fr (I := I) fun z z1 z2 => fC z (by omega)]; exact hi p hp
  · obtain ⟨y1, y2, -⟩ := kL w hw hl
    have hl2 : A (a + 17 + 1) w ≠ -1 := by rw [← kA]; exact hl
    obtain ⟨q, q1, q2⟩ := hliv w hw hl2
    obtain ⟨y3, y4⟩ := y2 (v3 q w ⟨q1, hw, q2⟩)
    exact ⟨y1, y3, y4⟩
theorem build_E {I J : im_I} {a a' m m' nn : Nat} {o : Int32} (h : PgOk I nn) (hP : PgE I J) (hM : MpE I J m m') (ha : 11 < a) (ha' : 11 < a') (hm : m < a) (hm' : m' < a') :
    ∃ N st, (LnOk (build_ I a m o) a N st ∧ LvOk (build_ I a m o) a N st) ∧ (LnOk (build_ J a' m' o) a' N st ∧ LvOk (build_ J a' m' o) a' N st) ∧ PlE (build_ I a m o) (build_ J a' m' o) a a' N := by
  obtain ⟨N, st, hL, hL', hi⟩ := linesAt_E (o := o) h hP hM ha ha' hm hm'
  have f : ∀ (I : im_I) (a m z : Nat), z < a → linesAt I a m o z = I z := fun I a m z hz => (put_fr (by omega)).trans (buildAll_fr (Or.inl hz))
  refine ⟨N, st, ⟨LnOk_fr hL fun z hz => measure_fr (by omega), measure_Lv hL ha⟩, ⟨LnOk_fr hL' fun z hz => measure_fr (by omega), measure_Lv hL' ha'⟩, measure_E hL hL' hi ha ha' ?_ ?_⟩
  · refine (congrFun (f J a' m' 3 (by omega)) 2).trans (Eq.trans ?_ (congrFun (f I a m 3 (by omega)) 2).symm)
    rw [hP 3 (by decide) (by decide)]
  · refine (f J a' m' 4 (by omega)).trans (Eq.trans ?_ (f I a m 4 (by omega)).symm)
    rw [hP 4 (by decide) (by decide)]
