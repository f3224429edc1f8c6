/-! PURE THEORY, LIVES: their ends, and what they cross -/
def cntF (p : Nat → Bool) : Nat → Nat
  | 0 => 0
  | i + 1 => cntF p i + if p i = true then 1 else 0
theorem cntF_le {p q : Nat → Bool} (h : ∀ i, p i = true → q i = true) : ∀ n, cntF p n ≤ cntF q n
  | 0 => Nat.le_refl _
  | n + 1 => by
    have := cntF_le h n
    show cntF p n + _ ≤ cntF q n + _
    by_cases c : p n = true
    · rw [if_pos c, if_pos (h n c)]; omega
    · rw [if_neg c]
      split <;> omega
theorem cntF_n {p : Nat → Bool} : ∀ n, cntF p n ≤ n
  | 0 => Nat.le_refl _
  | n + 1 => by
    have := cntF_n (p := p) n
    show cntF p n + _ ≤ _
    split <;> omega
theorem cntF_pos {p : Nat → Bool} {n i : Nat} (hi : i < n) (h : p i = true) : 0 < cntF p n := by
  induction n with
  | zero => omega
  | succ n ih =>
    show 0 < cntF p n + _
    by_cases c : i = n
    · rw [← c, if_pos h]; omega
    · have := ih (by omega); omega
/-- a loop that counts -/
theorem cnt_loop {p : Nat → Bool} {f : Nat → Int32 → Int32} {n : Nat} (h : ∀ i c, i < n → f i c = if p i = true then c + 1 else c) : itN f n 0 = nI (cntF p n) :=
  itN_inv (f := f) (fun i c => c = nI (cntF p i)) nI_0.symm fun i c hi hc => by
    rw [h i c hi, hc]
    show _ = nI (cntF p i + _)
    by_cases d : p i = true
    · rw [if_pos d, if_pos d, nI_succ]
    · rw [if_neg d, if_neg d, Nat.add_zero]
theorem isLiving_nat {J : im_I} {v w : Nat} (hw : w < 88) : isLiving_ J v (nI w) = decide (¬ J (v + 1) w = -1) := by
  unfold isLiving_
  rw [show (88 : Int32) = nI 88 by decide, isBelow_nat (by omega) (by decide), decide_eq_true hw, if_neg (by decide), at88 hw]
theorem isLiving_m1 {J : im_I} {v : Nat} : isLiving_ J v (-1) = false := by
  unfold isLiving_
  rw [isBelow_m1, if_pos rfl]
theorem endOf_congr {I J : im_I} {v r x n w : Nat} (hw : w < 88) (h3 : J 3 = I 3) (h4 : J 4 = I 4) (hr : J r = I r) (hr5 : J (r + 5) = I (r + 5)) (h1 : J (v + 1) = I (v + 1)) (hx : J x = I x) (h2 : J (v + 2) w = I (v + 2) w) : endOf_ J v r x n (nI w) = endOf_ I v r x n (nI w) := by
  have e1 : lastOf_ J v (nI w) = lastOf_ I v (nI w) := by unfold lastOf_; rw [at88 hw, at88 hw, h2]
  have e2 : firstOf_ J v (nI w) = firstOf_ I v (nI w) := by unfold firstOf_; rw [h1]
  have e3 : blockOf_ J r = blockOf_ I r := by funext z; unfold blockOf_; rw [hr5]
  have e4 : roundsOf_ J 3 = roundsOf_ I 3 := by funext z; unfold roundsOf_; rw [show J (3 + 1) = I (3 + 1) from h4]
  unfold endOf_
  rw [e1, e2, e3, e4, h3, hr, hx]
/-- the lives' state before value i -/
def MsI (T J : im_I) (v r x i : Nat) : Prop :=
  (J v 0 = T v 0 ∧ J v 2 = T v 2 ∧ J v 1 = nI (cntF (fun w => isLiving_ T v (nI w)) i)) ∧
  (∀ z, z ≠ v → z ≠ v + 2 → z ≠ v + 4 → z ≠ v + 7 → J z = T z) ∧
  (∀ w, w < 88 → (i ≤ w → J (v + 2) w = T (v + 2) w) ∧ (w < i → isLiving_ T v (nI w) = true → J (v + 2) w = endOf_ T v r x 5 (nI w) ∧ ∃ c, J (v + 7) w = nI c ∧ c ≤ 88 ∧ (c = 0 → ∀ k q, k < (ofN (T v 2)) → T (v + 8) k = nI q → q < 88 → T (v + 1) w < nI q → ¬ nI q < endOf_ T v r x 5 (nI w))))
theorem isCrossing_nat {J : im_I} {v w : Nat} {pt : Int32} (hw : w < 88) (hl : isLiving_ J v (nI w) = true) : isCrossing_ J v (nI w) pt = decide (J (v + 1) w < pt ∧ pt < J (v + 2) w) := by
  unfold isCrossing_ firstOf_ lastOf_
  rw [if_neg (by rw [hl]; decide), at88 hw, at88 hw]
  by_cases c1 : pt ≤ J (v + 1) w
  · rw [if_pos c1, decide_eq_false (fun e => Int32.not_lt.mpr c1 e.1)]
  · rw [if_neg c1]
    by_cases c2 : J (v + 2) w ≤ pt
    · rw [if_pos c2, decide_eq_false (fun e => Int32.not_lt.mpr c2 e.2)]
    · rw [if_neg c2, decide_eq_true ⟨Int32.not_le.mp c1, Int32.not_le.mp c2⟩]
theorem MsI_step {T J : im_I} {v r x i : Nat} (h : MsI T J v r x i) (hi : i < 88) (hr : r + 6 < v) (hx : x < v ∨ v + 8 < x) (h3 : 4 < v) {cc : Nat} (hcc : T v 2 = nI cc) (hc88 : cc ≤ 88) : MsI T (measureOne_ v r x 5 (nI i) J) v r x (i + 1) := by
  obtain ⟨⟨g0, g2, g1⟩, gF, gW⟩ := h
  have eL : isLiving_ J v (nI i) = isLiving_ T v (nI i) := by
    rw [isLiving_nat hi, isLiving_nat hi, gF (v + 1) (by omega) (by omega) (by omega) (by omega)]
  unfold measureOne_
  rw [eL]
  by_cases c : isLiving_ T v (nI i) = true
  · rw [if_neg (by rw [c]; decide)]
    simp only
    have eE : endOf_ (im_up J v 1 (J v 1 + 1)) v r x 5 (nI i) = endOf_ T v r x 5 (nI i) :=
      endOf_congr hi ((up_fr (by omega)).trans (gF 3 (by omega) (by omega) (by omega) (by omega))) ((up_fr (by omega)).trans (gF 4 (by omega) (by omega) (by omega) (by omega))) ((up_fr (by omega)).trans (gF r (by omega) (by omega) (by omega) (by omega))) ((up_fr (by omega)).trans (gF (r + 5) (by omega) (by omega) (by omega) (by omega))) ((up_fr (by omega)).trans (gF (v + 1) (by omega) (by omega) (by omega) (by omega))) ((up_fr (by omega)).trans (gF x (by omega) (by omega) (by omega) (by omega))) (by rw [up_fr (by omega)]; exact (gW i hi).1 (Nat.le_refl _))
    rw [eE, put88 hi, put88 hi, put88 hi]
    generalize hE : endOf_ T v r x 5 (nI i) = E
    generalize weigh_ (im_up (im_up J v 1 (J v 1 + 1)) (v + 2) i E) v (nI i) = W
    have hK : ∀ z, z ≠ v → z ≠ v + 2 → z ≠ v + 4 → im_up (im_up (im_up J v 1 (J v 1 + 1)) (v + 2) i E) (v + 4) i W z = J z := fun z z0 z2 z4 => by rw [up_fr z4, up_fr z2, up_fr z0]
    have hK2 : im_up (im_up (im_up J v 1 (J v 1 + 1)) (v + 2) i E) (v + 4) i W (v + 2) i = E := by rw [up_fr (by omega), im_up_same]
    have hKv : im_up (im_up (im_up J v 1 (J v 1 + 1)) (v + 2) i E) (v + 4) i W v 2 = nI cc := by rw [up_fr (by omega), up_fr (by omega), up_ne (by decide), g2, hcc]
    have hKL : isLiving_ (im_up (im_up (im_up J v 1 (J v 1 + 1)) (v + 2) i E) (v + 4) i W) v (nI i) = true := by
      rw [isLiving_nat hi, hK (v + 1) (by omega) (by omega) (by omega), ← isLiving_nat hi, eL, c]
    have hC : ∃ n, countCrossed_ (im_up (im_up (im_up J v 1 (J v 1 + 1)) (v + 2) i E) (v + 4) i W) v (nI i) = nI n ∧ n ≤ 88 ∧ (n = 0 → ∀ k q, k < cc → T (v + 8) k = nI q → q < 88 → T (v + 1) i < nI q → ¬ nI q < E) := by
      unfold countCrossed_
      rw [hKv, loopC_nat0 (by omega)]
      have hcr : ∀ k, k < cc → isCrossing_ (im_up (im_up (im_up J v 1 (J v 1 + 1)) (v + 2) i E) (v + 4) i W) v (nI i) (at_ (im_up (im_up (im_up J v 1 (J v 1 + 1)) (v + 2) i E) (v + 4) i W (v + 8)) 88 (nI k)) = decide (T (v + 1) i < T (v + 8) k ∧ T (v + 8) k < E) := fun k hk => by
        rw [isCrossing_nat hi hKL, hK2, hK (v + 1) (by omega) (by omega) (by omega), hK (v + 8) (by omega) (by omega) (by omega), at88 (by omega), gF (v + 1) (by omega) (by omega) (by omega) (by omega), gF (v + 8) (by omega) (by omega) (by omega) (by omega)]
      refine ⟨cntF (fun k => decide (T (v + 1) i < T (v + 8) k ∧ T (v + 8) k < E)) cc, ?_, ?_, fun hn k q hk hq hq88 h1 h2 => ?_⟩
      · refine cnt_loop (fun k n hk => ?_)
        rw [hcr k hk]
        by_cases d : decide (T (v + 1) i < T (v + 8) k ∧ T (v + 8) k < E) = true
        · rw [d]; rfl
        · rw [Bool.not_eq_true] at d
          rw [d]; rfl
      · have := cntF_n (p := fun k => decide (T (v + 1) i < T (v + 8) k ∧ T (v + 8) k < E)) cc
        omega
      · have := cntF_pos (p := fun k => decide (T (v + 1) i < T (v + 8) k ∧ T (v + 8) k < E)) hk (decide_eq_true (by rw [hq]; exact ⟨h1, h2⟩))
        omega
    obtain ⟨n, hn, hn88, hn0⟩ := hC
    rw [hn]
    refine ⟨⟨?_, ?_, ?_⟩, fun z z0 z2 z4 z7 => ?_, fun w hw => ⟨fun hiw => ?_, fun hwi hl => ?_⟩⟩
    · rw [up_fr (by omega), up_fr (by omega), up_fr (by omega), up_ne (by decide)]; exact g0
    · rw [up_fr (by omega), up_fr (by omega), up_fr (by omega), up_ne (by decide)]; exact g2
    · rw [up_fr (by omega), up_fr (by omega), up_fr (by omega), im_up_same, g1]
      show _ = nI (cntF _ i + if isLiving_ T v (nI i) = true then 1 else 0)
      rw [if_pos c, nI_succ]
    · rw [up_fr z7, up_fr z4, up_fr z2, up_fr z0]; exact gF z z0 z2 z4 z7
    · rw [up_fr (by omega), up_fr (by omega), up_ne (by omega), up_fr (by omega)]
      exact (gW w hw).1 (by omega)
    · by_cases d : w = i
      · subst d
        refine ⟨by rw [up_fr (by omega), up_fr (by omega), im_up_same, hE], n, im_up_same, hn88, fun h0 k q hk hq hq88 h1 => ?_⟩
        rw [hE]
        rw [hcc, ofN_nI (by omega)] at hk
        exact hn0 h0 k q hk hq hq88 h1
      · obtain ⟨y1, n2, y2, y3⟩ := (gW w hw).2 (by omega) hl
        refine ⟨by rw [up_fr (by omega), up_fr (by omega), up_ne d, up_fr (by omega)]; exact y1, n2, by rw [up_ne d, up_fr (by omega), up_fr (by omega), up_fr (by omega)]; exact y2, y3⟩
  · have c' : isLiving_ T v (nI i) = false := by simpa using c
    rw [if_pos c']
    refine ⟨⟨g0, g2, ?_⟩, gF, fun w hw => ⟨fun hiw => (gW w hw).1 (by omega), fun hwi hl => ?_⟩⟩
    · rw [g1]
      show nI _ = nI (cntF _ i + if isLiving_ T v (nI i) = true then 1 else 0)
      rw [if_neg c, Nat.add_zero]
    · by_cases d : w = i
      · subst d; exact absurd hl c
      · exact (gW w hw).2 (by omega) hl
/-- what is known of lives -/
def LvOk (J : im_I) (a N : Nat) (st : Nat → Nat) : Prop :=
  (∃ vc, vc ≤ 88 ∧ J (a + 17) 0 = nI vc ∧ ∀ q w, q < N → w < 88 → tch (insAt J (a + 10) q) w → w < vc) ∧
  (∀ w, w < 88 → (∃ q, q < N ∧ insAt J (a + 10) q 1 = nI w) → ∃ f la, J (a + 18) w = nI f ∧ J (a + 19) w = nI la ∧ f < N ∧ la ≤ N ∧ f ≤ la ∧ insAt J (a + 10) f 1 = nI w ∧ (∀ q, q < f → insAt J (a + 10) q 1 ≠ nI w) ∧ (∀ q, q < N → tch (insAt J (a + 10) q) w → f ≤ q ∧ q ≤ la) ∧
    (w < 8 → hb (J 3 2) w = true → la = N) ∧ (∀ b q, b < 4 → st b ≤ q → q < st (b + 1) → tch (insAt J (a + 10) q) w → f < st b → 1 < J 4 b → st (b + 1) ≤ la) ∧ (J (a + 22) w = 1 → ∀ q, q < N → insAt J (a + 10) q 1 = nI w → q = f) ∧
    (J (a + 24) w ≤ 0 → ∀ q, q < N → insAt J (a + 10) q 0 = 9 → f < q → ¬ q < la)) ∧
  (∀ w, w < 88 → (∀ q, q < N → insAt J (a + 10) q 1 ≠ nI w) → J (a + 18) w = -1) ∧
  (mostAtOnce_ J (a + 17) (nI N) ≤ J (a + 17) 1)
