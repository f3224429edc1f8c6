theorem TsI_0 {I : im_I} {v r : Nat} : TsI I (measure0_ I v) v r 0 := by
  have e : measure0_ I v = fillL_ (fillL_ (fillL_ (fillL_ (im_up (im_up (im_up I v 0 0) v 1 0) v 2 0) (v + 1) 88 (-1)) (v + 3) 88 0) (v + 5) 88 0) (v + 6) 88 0 := rfl
  have ev : measure0_ I v v = im_up (im_up (im_up I v 0 0) v 1 0) v 2 0 v := by rw [e, fillL_fr (by omega), fillL_fr (by omega), fillL_fr (by omega), fillL_fr (by omega)]
  refine ⟨⟨⟨0, by decide, ?_, fun q w hq => absurd hq.1 (by omega)⟩, fun q w hq => absurd hq.1 (by omega)⟩, fun w hw => Or.inl ⟨?_, fun q hq => absurd hq (by omega)⟩, fun w hw => ?_, ⟨0, by decide, ?_, fun k hk => absurd hk (by omega), fun q hq => absurd hq (by omega)⟩, ?_, fun z hz => measure0_fr hz⟩
  · rw [ev, up_ne (by decide), up_ne (by decide), im_up_same]; exact nI_0.symm
  · rw [e, fillL_fr (by omega), fillL_fr (by omega), fillL_fr (by omega), fillL_row (by decide) hw]
  · rw [e, fillL_fr (by omega), fillL_row (by decide) hw]; exact nI_0.symm
  · rw [ev, im_up_same]; exact nI_0.symm
  · rw [ev, up_ne (by decide), im_up_same]
theorem wcN_0 {R : Nat → Ins} {w : Nat} : ∀ {i : Nat}, wcN R w i = 0 → ∀ q, q < i → R q 1 ≠ nI w
  | 0, _, q, hq => absurd hq (by omega)
  | i + 1, h, q, hq => by
    have h' : wcN R w i + (if R i 1 = nI w then 1 else 0) = 0 := h
    intro e
    by_cases c : q = i
    · subst c
      rw [if_pos e] at h'
      omega
    · exact wcN_0 (i := i) (by omega) q (by omega) e
theorem wcN_le {R : Nat → Ins} {w : Nat} : ∀ {i : Nat}, wcN R w i ≤ i
  | 0 => Nat.le_refl _
  | i + 1 => by
    have := wcN_le (R := R) (w := w) (i := i)
    show wcN R w i + (if R i 1 = nI w then 1 else 0) ≤ i + 1
    split <;> omega
theorem wcN_1 {R : Nat → Ins} {w : Nat} : ∀ {i : Nat}, wcN R w i = 1 → ∀ p q, p < i → q < i → R p 1 = nI w → R q 1 = nI w → p = q
  | 0, _, p, _, hp, _, _, _ => absurd hp (by omega)
  | i + 1, h, p, q, hp, hq, h1, h2 => by
    have h' : wcN R w i + (if R i 1 = nI w then 1 else 0) = 1 := h
    by_cases c : R i 1 = nI w
    · rw [if_pos c] at h'
      have h0 := wcN_0 (R := R) (w := w) (i := i) (by omega)
      have : p = i := by
        apply Classical.byContradiction
        intro hne
        exact h0 p (by omega) h1
      have : q = i := by
        apply Classical.byContradiction
        intro hne
        exact h0 q (by omega) h2
      omega
    · rw [if_neg c] at h'
      have np : p ≠ i := fun e => c (by rw [← e]; exact h1)
      have nq : q ≠ i := fun e => c (by rw [← e]; exact h2)
      exact wcN_1 (i := i) (by omega) p q (by omega) (by omega) h1 h2
section Mo
variable {J : im_I} {v : Nat}
theorem livingAt_nat {vc : Nat} {pt : Int32} (h0 : J v 0 = nI vc) (h88 : vc ≤ 88) : livingAt_ J v pt = nI (cntF (fun w => decide (isLiving_ J v (nI w) = true ∧ firstOf_ J v (nI w) ≤ pt ∧ pt ≤ lastOf_ J v (nI w))) vc) := by
  unfold livingAt_
  rw [h0, loopC_nat0 (by omega)]
  refine cnt_loop fun w c hw => ?_
  by_cases d : isLiving_ J v (nI w) = true ∧ firstOf_ J v (nI w) ≤ pt ∧ pt ≤ lastOf_ J v (nI w)
  · rw [if_pos d, if_pos (decide_eq_true d)]
  · rw [if_neg d, if_neg (by simpa using d)]
theorem most_le {vc N : Nat} (h0 : J v 0 = nI vc) (h88 : vc ≤ 88) (hN : N ≤ 88) (h1 : J v 1 = nI (cntF (fun w => isLiving_ J v (nI w)) vc)) : mostAtOnce_ J v (nI N) ≤ J v 1 := by
  unfold mostAtOnce_
  rw [← nI_succ, loopC_nat0 (by omega), h1]
  have hl := cntF_n (p := fun w => isLiving_ J v (nI w)) vc
  obtain ⟨m, e, hm⟩ := itN_inv (f := fun pt m => max_ m (livingAt_ J v (nI pt))) (n := N + 1) (s := (0 : Int32)) (fun i m => ∃ k, m = nI k ∧ k ≤ cntF (fun w => isLiving_ J v (nI w)) vc) ⟨0, nI_0.symm, Nat.zero_le _⟩ (fun pt m hpt hm => by
    obtain ⟨k, e, hk⟩ := hm
    have hc := cntF_le (p := fun w => decide (isLiving_ J v (nI w) = true ∧ firstOf_ J v (nI w) ≤ nI pt ∧ nI pt ≤ lastOf_ J v (nI w))) (q := fun w => isLiving_ J v (nI w)) (fun i hi => (of_decide_eq_true hi).1) vc
    rw [livingAt_nat h0 h88, e, max_nat (by omega) (by omega)]
    exact ⟨_, rfl, by omega⟩)
  rw [e]
  exact nI_le hm (by omega)
end Mo
set_option maxHeartbeats 2000000 in
theorem measure_Lv {I : im_I} {a N : Nat} {st : Nat → Nat} (h : LnOk I a N st) (ha : 11 < a) : LvOk (measure_ I (a + 17) (a + 10) (a + 26) 5) a N st := by
  obtain ⟨⟨l1, l2, l3, l4, l5, l6⟩, lO, lE, lB, lR, -, -, -, -⟩ := h
  have s01 : st 0 ≤ st 1 := l5 0 (by decide)
  have s12 : st 1 ≤ st 2 := l5 1 (by decide)
  have s23 : st 2 ≤ st 3 := l5 2 (by decide)
  have s34 : st 3 ≤ st 4 := l5 3 (by decide)
  have hst : ∀ b, b ≤ 4 → st 0 ≤ st b ∧ st b ≤ N := fun b hb => by
    match b, hb with
    | 0, _ => omega
    | 1, _ => omega
    | 2, _ => omega
    | 3, _ => omega
    | 4, _ => omega
  -- the first loop
  have hT : TsI I (measure1_ I (a + 17) (a + 10)) (a + 17) (a + 10) N := by
    unfold measure1_
    rw [l1, loopC_nat0 (by omega)]
    exact itN_inv (f := fun i J => touch_ J (a + 17) (a + 10) (nI i)) (fun i J => TsI I J (a + 17) (a + 10) i) TsI_0 (fun i J hi hJ => TsI_step hJ (by omega) (by omega) (lO i hi))
  have hfr : ∀ z, z < a + 17 ∨ a + 25 < z → measure_ I (a + 17) (a + 10) (a + 26) 5 z = I z := fun z hz => measure_fr (by omega)
  have eR : insAt (measure_ I (a + 17) (a + 10) (a + 26) 5) (a + 10) = insAt I (a + 10) := funext fun p => insAt_fr fun z z1 z2 => hfr z (by omega)
  have e3 := hfr 3 (by omega)
  have e4 := hfr 4 (by omega)
  unfold LvOk
  rw [eR, e3, e4]
  have hdef : measure_ I (a + 17) (a + 10) (a + 26) 5 = loopC 0 (measure1_ I (a + 17) (a + 10) (a + 17) 0) (measureOne_ (a + 17) (a + 10) (a + 26) 5) (measure1_ I (a + 17) (a + 10)) := rfl
  generalize hTT : measure1_ I (a + 17) (a + 10) = T at hT hdef
  obtain ⟨⟨⟨vc, v1, v2, v3⟩, tL⟩, tF, tW, ⟨cc, c1, c2, c3, c4⟩, tz, tfr⟩ := hT
  have hM : MsI T (measure_ I (a + 17) (a + 10) (a + 26) 5) (a + 17) (a + 10) (a + 26) vc := by
    rw [hdef, v2, loopC_nat0 (by omega)]
    exact itN_inv (f := fun w J => measureOne_ (a + 17) (a + 10) (a + 26) 5 (nI w) J) (fun i J => MsI T J (a + 17) (a + 10) (a + 26) i) ⟨⟨rfl, rfl, by rw [tz]; exact nI_0.symm⟩, fun z _ _ _ _ => rfl, fun w hw => ⟨fun _ => rfl, fun hh => absurd hh (by omega)⟩⟩ (fun i J hi hJ => MsI_step hJ (by omega) (by omega) (by omega) (by omega) c2 (by omega))
  generalize measure_ I (a + 17) (a + 10) (a + 26) 5 = J at hM hfr ⊢
  obtain ⟨⟨m0, m2, m1⟩, mF, mW⟩ := hM
  have hm18 : J (a + 18) = T (a + 18) := mF (a + 18) (by omega) (by omega) (by omega) (by omega)
  have hm22 : J (a + 22) = T (a + 22) := mF (a + 22) (by omega) (by omega) (by omega) (by omega)
  refine ⟨⟨vc, v1, by rw [m0]; exact v2, fun q w hq hw ht => v3 q w ⟨hq, hw, ht⟩⟩, fun w hw hex => ?_, fun w hw hno => ?_, ?_⟩
  · obtain ⟨q0, hq0, hq1⟩ := hex
    obtain ⟨f, f1, f2, f3, f4⟩ : ∃ p, p < N ∧ T (a + 18) w = nI p ∧ insAt I (a + 10) p 1 = nI w ∧ ∀ q, q < p → insAt I (a + 10) q 1 ≠ nI w := by
      rcases tF w hw with ⟨-, y⟩ | y
      · exact absurd hq1 (y q0 hq0)
      · exact y
    obtain ⟨l, k1, ⟨k2, -, k3⟩, -⟩ := tL q0 w ⟨hq0, hw, Or.inl hq1⟩
    have hlast : ∀ q, q < N → tch (insAt I (a + 10) q) w → q ≤ l := fun q hq ht => by
      obtain ⟨l', k1', ⟨k2', -⟩, k4'⟩ := tL q w ⟨hq, hw, ht⟩
      have : l' = l := nI_inj (by omega) (by omega) (k1'.symm.trans k1)
      omega
    have hlive : isLiving_ T (a + 17) (nI w) = true := by
      rw [isLiving_nat hw]
      exact decide_eq_true (by rw [show a + 17 + 1 = a + 18 by omega, f2]; exact nI_m1 (by omega))
    have hwvc : w < vc := v3 q0 w ⟨hq0, hw, Or.inl hq1⟩
    obtain ⟨n1, nc, n2, n3, n4⟩ := (mW w hw).2 hwvc hlive
    have hfirst : ∀ q, q < N → tch (insAt I (a + 10) q) w → f ≤ q := fun q hq ht => by
      apply Nat.le_of_not_lt
      intro hlt
      rcases ht with ht | ht
      · exact f4 q hlt ht
      · have : ∃ k, k < 3 ∧ insAt I (a + 10) q (2 + k) = nI w := by
          rcases ht with ht | ht | ht
          · exact ⟨0, by decide, ht⟩
          · exact ⟨1, by decide, ht⟩
          · exact ⟨2, by decide, ht⟩
        obtain ⟨k, hk, e⟩ := this
        obtain ⟨q2, y1, y2, -⟩ := lR q k w hq hk hw e
        exact f4 q2 (by omega) y2
    -- where the last touch is
    have hfl : f ≤ l := hlast f f1 (Or.inl f3)
    have hEnd : ∃ la, endOf_ T (a + 17) (a + 10) (a + 26) 5 (nI w) = nI la ∧ l ≤ la ∧ la ≤ N ∧ (w < 8 → hb (I 3 2) w = true → la = N) ∧ (∀ b, b < 4 → st b ≤ l → l < st (b + 1) → f < st b → 1 < I 4 b → st (b + 1) ≤ la) := by
      unfold endOf_
      have eT : ∀ z, z < a + 17 ∨ a + 25 < z → T z = I z := fun z hz => tfr z (by omega)
      have el : lastOf_ T (a + 17) (nI w) = nI l := by unfold lastOf_; rw [at88 hw]; exact k1
      have ef : firstOf_ T (a + 17) (nI w) = nI f := by unfold firstOf_; rw [at88 hw]; exact f2
      have eb : blockOf_ T (a + 10) (nI l) = insAt I (a + 10) l 6 := by
        rw [blockOf_nat (by omega), insAt_fr (I := I) fun z z1 z2 => eT z (by omega)]
      rw [el, ef]
      simp only [eb]
      rw [eT 3 (by omega), eT (a + 10) (by omega), eT (a + 26) (by omega), l1]
      by_cases ca : nI w < 8 ∧ hasBit_ (I 3 2) (nI w) = true
      · rw [if_pos ca]
        refine ⟨N, rfl, by omega, Nat.le_refl _, fun _ _ => rfl, fun b hb _ _ _ _ => (hst (b + 1) (by omega)).2⟩
      · rw [if_neg ca]
        have hna : w < 8 → hb (I 3 2) w = true → False := fun h1 h2 => ca ⟨by rw [show (8 : Int32) = nI 8 by decide]; exact nI_lt h1 (by decide), by rw [hasBit_nat (by omega)]; exact h2⟩
        by_cases cl : l < st 0
        · obtain ⟨u, u1, u2⟩ := lE l cl
          have e6 : insAt I (a + 10) l 6 = -1 := u2 6 (by decide)
          rw [e6, if_neg (fun e => e.1 rfl)]
          refine ⟨l, rfl, Nat.le_refl _, by omega, fun h1 h2 => (hna h1 h2).elim, fun b hb h1 => ?_⟩
          have := hst b (by omega)
          omega
        · have hbl : ∃ b, b < 4 ∧ st b ≤ l ∧ l < st (b + 1) := by
            by_cases d1 : l < st 1
            · exact ⟨0, by decide, by omega, d1⟩
            · by_cases d2 : l < st 2
              · exact ⟨1, by decide, by omega, d2⟩
              · by_cases d3 : l < st 3
                · exact ⟨2, by decide, by omega, d3⟩
                · exact ⟨3, by decide, by omega, by show l < st 4; omega⟩
          obtain ⟨b, b1, b2, b3⟩ := hbl
          have e6 := lB b l b1 b2 b3
          have huniq : ∀ b', b' < 4 → st b' ≤ l → l < st (b' + 1) → b' = b := by
            intro b' h1 h2 h3
            have e6' := lB b' l h1 h2 h3
            exact nI_inj (by omega) (by omega) (e6'.symm.trans e6)
          have er : roundsOf_ T 3 (nI b) = I 4 b := by
            unfold roundsOf_
            rw [if_neg (nI_m1 (by omega)), at_nat b1 (by decide), eT (3 + 1) (by omega)]
          rw [e6, er, at_nat (by omega) (by decide), ← nI_succ, at_nat (by omega) (by decide), l6 b (by omega), l6 (b + 1) (by omega)]
          by_cases cr : ¬ nI b = -1 ∧ 1 < I 4 b ∧ nI f < nI (st b)
          · rw [if_pos cr]
            refine ⟨st (b + 1), rfl, by omega, (hst (b + 1) (by omega)).2, fun h1 h2 => (hna h1 h2).elim, fun b' h1 h2 h3 h4 h5 => ?_⟩
            rw [huniq b' h1 h2 h3]
            exact Nat.le_refl _
          · rw [if_neg cr]
            refine ⟨l, rfl, Nat.le_refl _, by omega, fun h1 h2 => (hna h1 h2).elim, fun b' h1 h2 h3 h4 h5 => ?_⟩
            have := huniq b' h1 h2 h3
            subst this
            exact absurd ⟨nI_m1 (by omega), h5, nI_lt h4 (by have := (hst b' (by omega)).2; omega)⟩ cr
    obtain ⟨la, y1, y2, y3, y4, y5⟩ := hEnd
    rw [y1] at n1 n4
    refine ⟨f, la, by rw [hm18]; exact f2, n1, f1, y3, by omega, f3, f4, fun q hq ht => ⟨hfirst q hq ht, by have := hlast q hq ht; omega⟩, y4, fun b q hb h1 h2 ht hfb hr => ?_, fun h22 q hq hqw => ?_, fun h24 q hq hq9 hfq hql => ?_⟩
    · have hq4 : q < N := by have := hst (b + 1) (by omega); omega
      have hql := hlast q hq4 ht
      by_cases c : l < st (b + 1)
      · exact y5 b hb (by omega) c hfb hr
      · omega
    · rw [hm22] at h22
      have := tW w hw
      rw [show a + 17 + 5 = a + 22 by omega, h22, show (1 : Int32) = nI 1 by decide] at this
      have hwc := wcN_le (R := insAt I (a + 10)) (w := w) (i := N)
      exact wcN_1 (nI_inj (by omega) (by omega) this.symm) q f hq f1 hqw f3
    · rw [show a + 24 = a + 17 + 7 by omega, n2] at h24
      have hnc : nc = 0 := by
        apply Classical.byContradiction
        intro hne
        exact nI_nle (by omega) (by omega) h24
      obtain ⟨k, hk1, hk2⟩ := c4 q hq hq9
      refine n4 hnc k q ?_ hk2 (by omega) (by rw [show a + 17 + 1 = a + 18 by omega, f2]; exact nI_lt hfq (by omega)) (nI_lt hql (by omega))
      rw [c2, ofN_nI (by omega)]
      exact hk1
  · rw [hm18]
    rcases tF w hw with ⟨y, -⟩ | ⟨p, y1, -, y3, -⟩
    · exact y
    · exact absurd y3 (hno p y1)
  · have e17 : J (a + 17 + 1) = T (a + 17 + 1) := hm18
    have hliv : (fun w => isLiving_ T (a + 17) (nI w)) = fun w => isLiving_ J (a + 17) (nI w) := by
      funext w
      unfold isLiving_
      rw [e17]
    rw [hliv] at m1
    exact most_le (by rw [m0]; exact v2) v1 l2 m1
