/-! DETERMINATION: CODE and RUN; what is told of them -/
section LnE
variable {I J : im_I} {h h' : Nat}
theorem isSp_E (H : HmE I J h h') (x : Int32) : isSpilled_ J h' x = isSpilled_ I h x := by
  unfold isSpilled_
  rw [at_congr fun j hj => (H.2.1 j hj).1]
theorem reg_E (H : HmE I J h h') (x : Int32) : registerOf_ J h' x = registerOf_ I h x := by
  unfold registerOf_
  rw [at_congr fun j hj => (H.2.1 j hj).1]
theorem slot_E (H : HmE I J h h') (x : Int32) : slotOf_ J h' x = slotOf_ I h x := by
  unfold slotOf_
  rw [at_congr fun j hj => (H.2.1 j hj).2.1]
theorem ldL_E (H : HmE I J h h') (x d : Int32) : ldL J h' x d = ldL I h x d := by
  have e3 : at_ (J (h' + 3)) 88 x = at_ (I (h + 3)) 88 x := at_congr fun j hj => (H.2.1 j hj).2.2
  have e2 : at_ (J (h' + 2)) 88 x = at_ (I (h + 2)) 88 x := at_congr fun j hj => (H.2.1 j hj).2.1
  unfold ldL
  rw [e3, e2]
  by_cases c : at_ (I (h + 3)) 88 x = 1
  · rw [if_pos c, if_pos c]
    have e4 : at_ (J (h' + 4)) 88 x = at_ (I (h + 4)) 88 x := by
      unfold at_ at c ⊢
      by_cases c1 : x < 0
      · rw [if_pos c1, if_pos c1]
      · rw [if_neg c1] at c
        rw [if_neg c1, if_neg c1]
        by_cases c2 : Int32.ofNat 88 ≤ x
        · rw [if_pos c2, if_pos c2]
        · rw [if_neg c2] at c
          rw [if_neg c2, if_neg c2]
          obtain ⟨j, hj, rfl⟩ := nI_of c1
          rw [nI_clamp hj] at c ⊢
          refine H.2.2 j ?_ c
          apply Nat.lt_of_not_le
          intro hle
          exact c2 (nI_le hle hj)
    rw [e4]
  · rw [if_neg c, if_neg c]
theorem line_E (H : HmE I J h h') (two s : Int32) (x : Ins) : lineL J h' two s x = lineL I h two s x := by
  have er : ∀ x, isRemade_ J h' x = isRemade_ I h x := fun x => by
    unfold isRemade_
    rw [at_congr fun j hj => (H.2.1 j hj).2.2]
  unfold lineL callL oneL cmvL brL feL feV tailL dstV
  simp only [isSp_E H, reg_E H, slot_E H, ldL_E H, er]
end LnE
section RnE
variable {A B : im_I} {a a' m m' c c' k R f t len : Nat}
/-- a run in two memories -/
def RnE (A B : im_I) (a a' : Nat) : Prop :=
  (∀ q, q = 0 ∨ q = 1 ∨ q = 2 ∨ q = 9 → B a' q = A a q) ∧ (∀ j, j < 528 → B (a' + 1) j = A (a + 1) j) ∧ (∀ j, j < 11 → B (a' + 2) j = A (a + 2) j) ∧ (∀ j, j < 88 → B (a' + 3) j = A (a + 3) j) ∧ (∀ j, j < 11 → B (a' + 4) j = A (a + 4) j)
theorem RnE_sc {q : Nat} {x : Int32} (h : RnE A B a a') : RnE (im_up A a q x) (im_up B a' q x) a a' := by
  obtain ⟨h0, h1, h2, h3, h4⟩ := h
  refine ⟨fun i hi => ?_, fun j hj => ?_, fun j hj => ?_, fun j hj => ?_, fun j hj => ?_⟩
  · rw [up_row, up_row, h0 i hi]
  · rw [up_fr (by omega), up_fr (by omega)]; exact h1 j hj
  · rw [up_fr (by omega), up_fr (by omega)]; exact h2 j hj
  · rw [up_fr (by omega), up_fr (by omega)]; exact h3 j hj
  · rw [up_fr (by omega), up_fr (by omega)]; exact h4 j hj
theorem RnE_p1 {i u : Int32} (h : RnE A B a a') : RnE (put_ A (a + 1) 528 i u) (put_ B (a' + 1) 528 i u) a a' := by
  obtain ⟨h0, h1, h2, h3, h4⟩ := h
  refine ⟨fun i hi => ?_, put_E h1, fun j hj => ?_, fun j hj => ?_, fun j hj => ?_⟩
  · rw [put_fr (by omega), put_fr (by omega)]; exact h0 i hi
  · rw [put_fr (by omega), put_fr (by omega)]; exact h2 j hj
  · rw [put_fr (by omega), put_fr (by omega)]; exact h3 j hj
  · rw [put_fr (by omega), put_fr (by omega)]; exact h4 j hj
theorem RnE_p2 {i u : Int32} (h : RnE A B a a') : RnE (put_ A (a + 2) 11 i u) (put_ B (a' + 2) 11 i u) a a' := by
  obtain ⟨h0, h1, h2, h3, h4⟩ := h
  refine ⟨fun i hi => ?_, fun j hj => ?_, put_E h2, fun j hj => ?_, fun j hj => ?_⟩
  · rw [put_fr (by omega), put_fr (by omega)]; exact h0 i hi
  · rw [put_fr (by omega), put_fr (by omega)]; exact h1 j hj
  · rw [put_fr (by omega), put_fr (by omega)]; exact h3 j hj
  · rw [put_fr (by omega), put_fr (by omega)]; exact h4 j hj
theorem RnE_p3 {i u : Int32} (h : RnE A B a a') : RnE (put_ A (a + 3) 88 i u) (put_ B (a' + 3) 88 i u) a a' := by
  obtain ⟨h0, h1, h2, h3, h4⟩ := h
  refine ⟨fun i hi => ?_, fun j hj => ?_, fun j hj => ?_, put_E h3, fun j hj => ?_⟩
  · rw [put_fr (by omega), put_fr (by omega)]; exact h0 i hi
  · rw [put_fr (by omega), put_fr (by omega)]; exact h1 j hj
  · rw [put_fr (by omega), put_fr (by omega)]; exact h2 j hj
  · rw [put_fr (by omega), put_fr (by omega)]; exact h4 j hj
theorem RnE_p4 {i u : Int32} (h : RnE A B a a') : RnE (put_ A (a + 4) 11 i u) (put_ B (a' + 4) 11 i u) a a' := by
  obtain ⟨h0, h1, h2, h3, h4⟩ := h
  refine ⟨fun i hi => ?_, fun j hj => ?_, fun j hj => ?_, fun j hj => ?_, put_E h4⟩
  · rw [put_fr (by omega), put_fr (by omega)]; exact h0 i hi
  · rw [put_fr (by omega), put_fr (by omega)]; exact h1 j hj
  · rw [put_fr (by omega), put_fr (by omega)]; exact h2 j hj
  · rw [put_fr (by omega), put_fr (by omega)]; exact h3 j hj
theorem ready_E {kd f s t u : Int32} (h : RnE A B a a') : readyFor_ B a' kd f s t u = readyFor_ A a kd f s t u := by
  have e : ∀ i, at_ (B (a' + 4)) 11 i = at_ (A (a + 4)) 11 i := fun i => at_congr h.2.2.2.2
  unfold readyFor_
  simp only [e]
theorem result_E {kd s t u : Int32} (h : RnE A B a a') : resultOf_ B a' kd s t u = resultOf_ A a kd s t u := by
  have e : ∀ i, at_ (B (a' + 2)) 11 i = at_ (A (a + 2)) 11 i := fun i => at_congr h.2.2.1
  have e3 : ∀ i, at_ (B (a' + 3)) 88 i = at_ (A (a + 3)) 88 i := fun i => at_congr h.2.2.2.1
  unfold resultOf_
  simp only [e, e3]
theorem performCall_E (h : RnE A B a a') (hR : A m 0 = nI R) (hR11 : R ≤ 11) (hM0 : B m' 0 = A m 0) (hM1 : B m' 1 = A m 1) (hm : m < a) (hm' : m' < a') : RnE (performCall_ A a m) (performCall_ B a' m') a a' := by
  have e2 : ∀ i, at_ (B (a' + 2)) 11 i = at_ (A (a + 2)) 11 i := fun i => at_congr h.2.2.1
  unfold performCall_
  simp only [e2, hM0, hR]
  have key : RnE (loopC 1 (nI R) (loseOne_ a m) A) (loopC 1 (nI R) (loseOne_ a' m') B) a a' := by
    rw [show (1 : Int32) = nI 1 from rfl, loopC_nat (by decide) (by omega), loopC_nat (by decide) (by omega)]
    have key := itN_rel (f := fun j => loseOne_ a m (nI (1 + j))) (g := fun j => loseOne_ a' m' (nI (1 + j))) (n := R - 1) (s := A) (t := B) (fun j C D => RnE C D a a' ∧ C m = A m ∧ D m' = B m') ⟨h, rfl, rfl⟩ (fun j C D hj hCD => by
      obtain ⟨g1, g2, g3⟩ := hCD
      unfold loseOne_
      rw [g2, g3, hM1]
      by_cases cb : hasBit_ (A m 1) (nI (1 + j)) = true
      · rw [if_pos cb, if_pos cb]; exact ⟨g1, g2, g3⟩
      · rw [if_neg cb, if_neg cb]
        simp only
        have p2 := RnE_p2 (i := nI (1 + j)) (u := -77777) g1
        rw [p2.1 9 (by omega)]
        exact ⟨RnE_p4 p2, by rw [put_fr (by omega), put_fr (by omega)]; exact g2, by rw [put_fr (by omega), put_fr (by omega)]; exact g3⟩)
    exact key.1
  have p2 := RnE_p2 (i := 0) (u := 3 * at_ (A (a + 2)) 11 0 + 2 * at_ (A (a + 2)) 11 1 + 1) key
  rw [p2.1 1 (by omega)]
  exact RnE_p4 p2
theorem runStep_E (h : RnE A B a a') (hk : k < 528) (hx : codeAt B c' k = codeAt A c k) (hcy : cyclesOf_ B m' = cyclesOf_ A m) (hR : A m 0 = nI R) (hR11 : R ≤ 11) (hM0 : B m' 0 = A m 0) (hM1 : B m' 1 = A m 1) (hm : m + 1 < a) (hm' : m' + 1 < a') : RnE (runStep_ a m c (nI k) A) (runStep_ a' m' c' (nI k) B) a a' := by
  obtain ⟨o1, o2, o3, o4⟩ := operand_nat (J := A) (c := c) hk
  obtain ⟨q1, q2, q3, q4⟩ := operand_nat (J := B) (c := c') hk
  have ck := codeKind_nat (J := A) (c := c) hk
  have ck' := codeKind_nat (J := B) (c := c') hk
  have hS : RnE (step1_ a m c (nI k) A) (step1_ a' m' c' (nI k) B) a a' := by
    unfold step1_
    simp only [ck, ck', o1, o2, o3, o4, q1, q2, q3, q4, hx, ready_E h, h.1 9 (by omega), h.1 2 (by omega)]
    generalize max_ (A a 9 + 1) (readyFor_ A a (codeAt A c k 0) (codeAt A c k 1) (codeAt A c k 2) (codeAt A c k 3) (codeAt A c k 4)) = bg
    have s1 := RnE_sc (q := 2) (x := A a 2 + (bg - A a 9 - 1)) h
    have s2 := RnE_sc (q := 9) (x := bg) s1
    have e0 : im_up (im_up B a' 2 (A a 2 + (bg - A a 9 - 1))) a' 9 bg a' 0 = im_up (im_up A a 2 (A a 2 + (bg - A a 9 - 1))) a 9 bg a 0 := s2.1 0 (by omega)
    rw [e0]
    have s3 := RnE_sc (q := 0) (x := im_up (im_up A a 2 (A a 2 + (bg - A a 9 - 1))) a 9 bg a 0 + 1) s2
    have ecy : ∀ (A : im_I) (a m : Nat) (x y z : Int32), m + 1 < a → cyclesOf_ (im_up (im_up (im_up A a 2 x) a 9 y) a 0 z) m = cyclesOf_ A m := fun A a m x y z hma => by
      funext kd
      unfold cyclesOf_
      rw [up_fr (by omega), up_fr (by omega), up_fr (by omega)]
    rw [ecy A a m _ _ _ hm, ecy B a' m' _ _ _ hm', hcy]
    have s4 := RnE_sc (q := 1) (x := bg + cyclesOf_ A m (codeAt A c k 0)) s3
    rw [at_congr s4.2.1]
    split
    · exact RnE_p1 s4
    · exact s4
  have fS : ∀ z, z < a ∨ a + 4 < z → step1_ a m c (nI k) A z = A z := fun z hz => step1_fr hz
  have fS' : ∀ z, z < a' ∨ a' + 4 < z → step1_ a' m' c' (nI k) B z = B z := fun z hz => step1_fr hz
  unfold runStep_ perform_
  simp only [ck, ck', o1, o2, o3, o4, q1, q2, q3, q4, hx]
  generalize step1_ a m c (nI k) A = E at hS fS ⊢
  generalize step1_ a' m' c' (nI k) B = F at hS fS' ⊢
  by_cases c8 : codeAt A c k 0 = 8
  · rw [if_pos c8, if_pos c8, at_congr hS.2.2.1]
    exact RnE_p3 hS
  · rw [if_neg c8, if_neg c8]
    by_cases c9 : codeAt A c k 0 = 9
    · rw [if_pos c9, if_pos c9]
      exact performCall_E hS (by rw [fS m (by omega)]; exact hR) hR11 (by rw [fS m (by omega), fS' m' (by omega)]; exact hM0) (by rw [fS m (by omega), fS' m' (by omega)]; exact hM1) (by omega) (by omega)
    · rw [if_neg c9, if_neg c9, result_E hS]
      have p2 := RnE_p2 (i := codeAt A c k 1) (u := resultOf_ E a (codeAt A c k 0) (codeAt A c k 2) (codeAt A c k 3) (codeAt A c k 4)) hS
      rw [p2.1 1 (by omega)]
      exact RnE_p4 p2
theorem goThrough_E {K L : im_I} (h : RnE A B a a') (hA : RunOf K A a) (hB : RunOf L B a') (ht : t ≤ len) (hlen : len ≤ 528) (hx : ∀ k, k < len → codeAt L c' k = codeAt K c k) (hcy : cyclesOf_ L m' = cyclesOf_ K m) (hR : K m 0 = nI R) (hR11 : R ≤ 11) (hM0 : L m' 0 = K m 0) (hM1 : L m' 1 = K m 1) (hm : m + 1 < a) (hm' : m' + 1 < a') (hc : c + 4 < a) (hc' : c' + 4 < a') (hf : f < 1000) :
    RnE (goThrough_ A a m c (nI f) (nI t)) (goThrough_ B a' m' c' (nI f) (nI t)) a a' := by
  unfold goThrough_
  rw [loopC_nat (by omega) (by omega), loopC_nat (by omega) (by omega)]
  have key := itN_rel (f := fun i => runStep_ a m c (nI (f + i))) (g := fun i => runStep_ a' m' c' (nI (f + i))) (n := t - f) (s := A) (t := B) (fun i C D => RnE C D a a' ∧ RunOf K C a ∧ RunOf L D a') ⟨h, hA, hB⟩ (fun i C D hi hCD => by
    obtain ⟨g1, g2, g3⟩ := hCD
    have xC : codeAt C c (f + i) = codeAt K c (f + i) := by unfold codeAt; rw [g2 (c + 1) (by omega), g2 (c + 2) (by omega)]
    have xD : codeAt D c' (f + i) = codeAt L c' (f + i) := by unfold codeAt; rw [g3 (c' + 1) (by omega), g3 (c' + 2) (by omega)]
    refine ⟨runStep_E g1 (by omega) (by rw [xC, xD]; exact hx _ (by omega)) ?_ (by rw [g2 m (by omega)]; exact hR) hR11 (by rw [g2 m (by omega), g3 m' (by omega)]; exact hM0) (by rw [g2 m (by omega), g3 m' (by omega)]; exact hM1) hm hm', fun z hz => (runStep_fr hz).trans (g2 z hz), fun z hz => (runStep_fr hz).trans (g3 z hz)⟩
    have e1 : cyclesOf_ C m = cyclesOf_ K m := by funext kd; unfold cyclesOf_; rw [g2 (m + 1) (by omega)]
    have e2 : cyclesOf_ D m' = cyclesOf_ L m' := by funext kd; unfold cyclesOf_; rw [g3 (m' + 1) (by omega)]
    rw [e1, e2, hcy])
  exact key.1
end RnE
theorem go0_E {K L : im_I} {a a' : Nat} : RnE (go0_ K a) (go0_ L a') a a' := by
  have e : ∀ (K : im_I) (a : Nat), go0_ K a = fillL_ (fillL_ (fillL_ (fillL_ (im_up (im_up (im_up (im_up K a 0 0) a 1 0) a 2 0) a 9 (-1)) (a + 1) 528 (-1)) (a + 2) 11 0) (a + 3) 88 0) (a + 4) 11 0 := fun _ _ => rfl
  have e0 : ∀ (K : im_I) (a q : Nat), q = 0 ∨ q = 1 ∨ q = 2 ∨ q = 9 → go0_ K a a q = if q = 9 then -1 else 0 := fun K a q hq => by
    rw [e, fillL_fr (by omega), fillL_fr (by omega), fillL_fr (by omega), fillL_fr (by omega), up_row, up_row, up_row, up_row]
    rcases hq with rfl | rfl | rfl | rfl <;> simp
  refine ⟨fun q hq => by rw [e0 _ _ _ hq, e0 _ _ _ hq], fun j hj => ?_, fun j hj => ?_, fun j hj => ?_, fun j hj => ?_⟩
  · rw [e, e, fillL_fr (by omega), fillL_fr (by omega), fillL_fr (by omega), fillL_row (by decide) hj, fillL_fr (by omega), fillL_fr (by omega), fillL_fr (by omega), fillL_row (by decide) hj]
  · rw [e, e, fillL_fr (by omega), fillL_fr (by omega), fillL_row (by decide) hj, fillL_fr (by omega), fillL_fr (by omega), fillL_row (by decide) hj]
  · rw [e, e, fillL_fr (by omega), fillL_row (by decide) hj, fillL_fr (by omega), fillL_row (by decide) hj]
  · rw [e, e, fillL_row (by decide) hj, fillL_row (by decide) hj]
set_option maxHeartbeats 1000000 in
theorem go_E {K L : im_I} {a a' m m' c c' x x' len R : Nat} {f tm : Nat → Nat} (hlen : len ≤ 528) (hx : ∀ k, k < len → codeAt L c' k = codeAt K c k) (hcy : cyclesOf_ L m' = cyclesOf_ K m) (hR : K m 0 = nI R) (hR11 : R ≤ 11) (hM0 : L m' 0 = K m 0) (hM1 : L m' 1 = K m 1) (hm : m + 1 < a) (hm' : m' + 1 < a') (hc : c + 4 < a) (hc' : c' + 4 < a') (hxa : x < a) (hxa' : x' < a') (h4 : 4 < a) (h4' : 4 < a')
    (hso : ∀ b, b < 5 → startOf_ K c (at_ (K x) 5 (nI b)) = nI (f b)) (hso' : ∀ b, b < 5 → startOf_ L c' (at_ (L x') 5 (nI b)) = nI (f b)) (hf : ∀ b, b < 5 → f b ≤ len) (ht : ∀ b, b < 4 → K 4 b = nI (tm b) ∧ tm b ≤ 9) (hL4 : L 4 = K 4) : RnE (go_ K a m c x 5) (go_ L a' m' c' x' 5) a a' := by
  have h0 : ∀ (K : im_I) (a : Nat), RunOf K (go0_ K a) a := fun K a z hz => go0_fr hz
  have hg : ∀ (K J : im_I) (a m c : Nat) (f t : Int32), RunOf K J a → RunOf K (goThrough_ J a m c f t) a := fun K J a m c f t hJ z hz => (goThrough_fr hz).trans (hJ z hz)
  have hsoJ : ∀ J : im_I, RunOf K J a → ∀ b, b < 5 → startOf_ J c (at_ (J x) 5 (nI b)) = nI (f b) := fun J hJ b hb => by
    rw [hJ x (by omega)]
    have := hso b hb
    unfold startOf_ at this ⊢
    rw [hJ (c + 4) (by omega)]
    exact this
  have hsoJ' : ∀ J : im_I, RunOf L J a' → ∀ b, b < 5 → startOf_ J c' (at_ (J x') 5 (nI b)) = nI (f b) := fun J hJ b hb => by
    rw [hJ x' (by omega)]
    have := hso' b hb
    unfold startOf_ at this ⊢
    rw [hJ (c' + 4) (by omega)]
    exact this
  have hgo := fun (A B : im_I) (f t : Nat) (h : RnE A B a a') (hA : RunOf K A a) (hB : RunOf L B a') (ht : t ≤ len) (hf : f < 1000) => goThrough_E (f := f) (t := t) h hA hB ht hlen hx hcy hR hR11 hM0 hM1 hm hm' hc hc' hf
  have e1 : ∀ (K : im_I) (a m c x : Nat), go_ K a m c x 5 = loopC 0 4 (goBlock_ a m c x 5) (goThrough_ (go0_ K a) a m c 0 (startOf_ (go0_ K a) c (at_ (go0_ K a x) 5 0))) := fun _ _ _ _ _ => rfl
  have n0 : ∀ g : Nat → Int32, at_ g 5 0 = at_ g 5 (nI 0) := fun g => by rw [nI_0]
  rw [e1, e1, n0, n0, hsoJ _ (h0 K a) 0 (by decide), hsoJ' _ (h0 L a') 0 (by decide)]
  have k1 := hgo (go0_ K a) (go0_ L a') 0 (f 0) go0_E (h0 K a) (h0 L a') (hf 0 (by decide)) (by decide)
  rw [nI_0] at k1
  have r1 := hg K (go0_ K a) a m c 0 (nI (f 0)) (h0 K a)
  have r2 := hg L (go0_ L a') a' m' c' 0 (nI (f 0)) (h0 L a')
  generalize goThrough_ (go0_ K a) a m c 0 (nI (f 0)) = A at k1 r1 ⊢
  generalize goThrough_ (go0_ L a') a' m' c' 0 (nI (f 0)) = B at k1 r2 ⊢
  rw [show (4 : Int32) = nI 4 by decide, loopC_nat0 (by decide), loopC_nat0 (by decide)]
  have key := itN_rel (f := fun j => goBlock_ a m c x 5 (nI j)) (g := fun j => goBlock_ a' m' c' x' 5 (nI j)) (n := 4) (s := A) (t := B) (fun j C D => RnE C D a a' ∧ RunOf K C a ∧ RunOf L D a') ⟨k1, r1, r2⟩ (fun j C D hj hCD => by
    obtain ⟨g1, g2, g3⟩ := hCD
    unfold goBlock_
    have er : roundsOf_ C 3 (nI j) = nI (tm j) := by
      unfold roundsOf_
      rw [if_neg (nI_m1 (by omega)), at_nat (by omega) (by decide), g2 (3 + 1) (by omega)]
      exact (ht j hj).1
    have er' : roundsOf_ D 3 (nI j) = nI (tm j) := by
      unfold roundsOf_
      rw [if_neg (nI_m1 (by omega)), at_nat (by omega) (by decide), g3 (3 + 1) (by omega), show L (3 + 1) = K (3 + 1) from hL4]
      exact (ht j hj).1
    have ht9 := (ht j hj).2
    rw [hsoJ C g2 j (by omega), ← nI_succ, hsoJ C g2 (j + 1) (by omega), er, hsoJ' D g3 j (by omega), hsoJ' D g3 (j + 1) (by omega), er']
    simp only
    rw [loopC_nat0 (by omega), loopC_nat0 (by omega)]
    exact itN_rel (f := fun _ K => goThrough_ K a m c (nI (f j)) (nI (f (j + 1)))) (g := fun _ K => goThrough_ K a' m' c' (nI (f j)) (nI (f (j + 1)))) (n := tm j) (s := C) (t := D) (fun i C D => RnE C D a a' ∧ RunOf K C a ∧ RunOf L D a') ⟨g1, g2, g3⟩ (fun i C D hi hCD => by
      obtain ⟨y1, y2, y3⟩ := hCD
      have := hf j (by omega)
      exact ⟨hgo C D (f j) (f (j + 1)) y1 y2 y3 (hf (j + 1) (by omega)) (by omega), hg _ _ _ _ _ _ _ y2, hg _ _ _ _ _ _ _ y3⟩))
  exact key.1
