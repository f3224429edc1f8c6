/-! PURE THEORY, INSTRUCTIONS: a line of an Instructions at r, as one value; what the makers of lines do to it -/
abbrev Ins : Type := Nat → Int32
/-- kind, write, three reads, number, block, height -/
def ins_ (kd w x y z n b h : Int32) : Ins := fun q => match q with | 0 => kd | 1 => w | 2 => x | 3 => y | 4 => z | 5 => n | 6 => b | 7 => h | _ => 0
def insAt (I : im_I) (r p : Nat) : Ins := ins_ (I (r + 1) p) (I (r + 2) p) (I (r + 3) (3 * p)) (I (r + 3) (3 * p + 1)) (I (r + 3) (3 * p + 2)) (I (r + 4) p) (I (r + 5) p) (I (r + 6) p)
theorem insAt_of {I : im_I} {r p : Nat} {kd w x y z n b h : Int32} (h1 : I (r + 1) p = kd) (h2 : I (r + 2) p = w) (h3 : I (r + 3) (3 * p) = x) (h4 : I (r + 3) (3 * p + 1) = y) (h5 : I (r + 3) (3 * p + 2) = z) (h6 : I (r + 4) p = n) (h7 : I (r + 5) p = b) (h8 : I (r + 6) p = h) : insAt I r p = ins_ kd w x y z n b h := by
  unfold insAt
  rw [h1, h2, h3, h4, h5, h6, h7, h8]
theorem insAt_congr {I J : im_I} {r p : Nat} (h1 : J (r + 1) p = I (r + 1) p) (h2 : J (r + 2) p = I (r + 2) p) (h3 : J (r + 3) (3 * p) = I (r + 3) (3 * p)) (h4 : J (r + 3) (3 * p + 1) = I (r + 3) (3 * p + 1)) (h5 : J (r + 3) (3 * p + 2) = I (r + 3) (3 * p + 2)) (h6 : J (r + 4) p = I (r + 4) p) (h7 : J (r + 5) p = I (r + 5) p) (h8 : J (r + 6) p = I (r + 6) p) : insAt J r p = insAt I r p := insAt_of h1 h2 h3 h4 h5 h6 h7 h8
theorem insAt_fr {I J : im_I} {r p : Nat} (h : ∀ b, r < b → b ≤ r + 6 → J b = I b) : insAt J r p = insAt I r p := by
  unfold insAt
  rw [h (r + 1) (by omega) (by omega), h (r + 2) (by omega) (by omega), h (r + 3) (by omega) (by omega), h (r + 4) (by omega) (by omega), h (r + 5) (by omega) (by omega), h (r + 6) (by omega) (by omega)]
theorem put88 {J : im_I} {x j : Nat} {v : Int32} (h : j < 88) : put_ J x 88 (nI j) v = im_up J x j v := put_nat h (by decide)
theorem put80' {J : im_I} {x j : Nat} {v : Int32} (h : j < 80) : put_ J x 80 (nI j) v = im_up J x j v := put_nat h (by decide)
theorem put264 {J : im_I} {x j : Nat} {v : Int32} (h : j < 264) : put_ J x 264 (nI j) v = im_up J x j v := put_nat h (by decide)
theorem put240 {J : im_I} {x j : Nat} {v : Int32} (h : j < 240) : put_ J x 240 (nI j) v = im_up J x j v := put_nat h (by decide)
theorem at88 {f : Nat → Int32} {j : Nat} (h : j < 88) : at_ f 88 (nI j) = f j := at_nat h (by decide)
theorem at80 {f : Nat → Int32} {j : Nat} (h : j < 80) : at_ f 80 (nI j) = f j := at_nat h (by decide)
theorem at264 {f : Nat → Int32} {j : Nat} (h : j < 264) : at_ f 264 (nI j) = f j := at_nat h (by decide)
theorem at240 {f : Nat → Int32} {j : Nat} (h : j < 240) : at_ f 240 (nI j) = f j := at_nat h (by decide)
theorem kindOf_nat {I : im_I} {r p : Nat} (h : p < 88) : kindOf_ I r (nI p) = insAt I r p 0 := at88 h
theorem writtenBy_nat {I : im_I} {r p : Nat} (h : p < 88) : writtenBy_ I r (nI p) = insAt I r p 1 := at88 h
theorem numberOf_nat {I : im_I} {r p : Nat} (h : p < 88) : numberOf_ I r (nI p) = insAt I r p 5 := at88 h
theorem blockOf_nat {I : im_I} {r p : Nat} (h : p < 88) : blockOf_ I r (nI p) = insAt I r p 6 := at88 h
theorem heightOf_nat {I : im_I} {r p : Nat} (h : p < 88) : heightOf_ I r (nI p) = insAt I r p 7 := at88 h
theorem readBy_nat {I : im_I} {r p k : Nat} (h : p < 88) (hk : k < 3) : readBy_ I r (nI p) (nI k) = insAt I r p (2 + k) := by
  unfold readBy_
  rw [nI_mul3, at264 (by omega)]
  match k, hk with
  | 0, _ => rfl
  | 1, _ => rfl
  | 2, _ => rfl
theorem readBy_0 {I : im_I} {r p : Nat} (h : p < 88) : readBy_ I r (nI p) 0 = insAt I r p 2 := readBy_nat (k := 0) h (by decide)
theorem readBy_1 {I : im_I} {r p : Nat} (h : p < 88) : readBy_ I r (nI p) 1 = insAt I r p 3 := readBy_nat (k := 1) h (by decide)
theorem readBy_2 {I : im_I} {r p : Nat} (h : p < 88) : readBy_ I r (nI p) 2 = insAt I r p 4 := readBy_nat (k := 2) h (by decide)
theorem isReading_nat {I : im_I} {r p : Nat} {v : Int32} (h : p < 88) : isReading_ I r (nI p) v = decide (insAt I r p 2 = v ∨ insAt I r p 3 = v ∨ insAt I r p 4 = v) := by
  have e0 : at_ (I (r + 3)) 264 (3 * nI p) = insAt I r p 2 := by rw [nI_mul30, at264 (by omega)]; rfl
  have e1 : at_ (I (r + 3)) 264 (3 * nI p + 1) = insAt I r p 3 := by rw [show (1 : Int32) = nI 1 from rfl, nI_mul3, at264 (by omega)]; rfl
  have e2 : at_ (I (r + 3)) 264 (3 * nI p + 2) = insAt I r p 4 := by rw [show (2 : Int32) = nI 2 from rfl, nI_mul3, at264 (by omega)]; rfl
  unfold isReading_
  simp only [e0, e1, e2]
  by_cases c0 : insAt I r p 2 = v
  · simp [c0]
  · by_cases c1 : insAt I r p 3 = v
    · simp [c0, c1]
    · simp [c0, c1]
/-- one line more, at n -/
def App (I J : im_I) (r n : Nat) (x : Ins) : Prop := (J r 0 = nI (n + 1)) ∧ (insAt J r n = x) ∧ (∀ p, p ≠ n → insAt J r p = insAt I r p) ∧ (∀ b, b < r ∨ r + 6 < b → J b = I b)
theorem add_nat {I : im_I} {r n : Nat} {kd v b : Int32} (h : I r 0 = nI n) (hn : n < 88) : add_ I r kd v b = im_up (im_up (im_up (im_up (im_up (im_up I (r + 1) n kd) (r + 2) n v) (r + 4) n 0) (r + 5) n b) (r + 6) n 0) r 0 (nI (n + 1)) := by
  have e : ∀ (J : im_I) (q : Nat) (y : Int32), im_up J (r + (q + 1)) n y r = J r := fun J q y => up_fr (by omega)
  unfold add_
  rw [h, if_neg (by rw [show (88 : Int32) = nI 88 from rfl]; exact nI_ge hn (by decide))]
  simp only [put88 hn, h, e (q := 0), e (q := 1), e (q := 3), e (q := 4), e (q := 5), Nat.reduceAdd, nI_succ]
theorem setReads_nat {I : im_I} {r n : Nat} {x y z : Int32} (h : I r 0 = nI (n + 1)) (hn : n < 88) : setReads_ I r x y z = im_up (im_up (im_up I (r + 3) (3 * n) x) (r + 3) (3 * n + 1) y) (r + 3) (3 * n + 2) z := by
  unfold setReads_
  simp only [h, nI_pred, nI_mul30]
  rw [show (1 : Int32) = nI 1 from rfl, show (2 : Int32) = nI 2 from rfl, nI_add, nI_add, put264 (by omega), put264 (by omega), put264 (by omega)]
theorem setNumber_nat {I : im_I} {r n : Nat} {x : Int32} (h : I r 0 = nI (n + 1)) (hn : n < 88) : setNumber_ I r x = im_up I (r + 4) n x := by
  unfold setNumber_
  rw [h, nI_pred, put88 hn]
theorem setHeight_nat {I : im_I} {r p : Nat} {x : Int32} (hp : p < 88) : setHeight_ I r (nI p) x = im_up I (r + 6) p x := by
  unfold setHeight_
  rw [put88 hp]
/-- all rows of the line at n, set -/
def putIns (I : im_I) (r n : Nat) (x : Ins) : im_I := fun b i =>
  if b = r ∧ i = 0 then nI (n + 1) else if b = r + 1 ∧ i = n then x 0 else if b = r + 2 ∧ i = n then x 1 else if b = r + 3 ∧ i = 3 * n then x 2 else if b = r + 3 ∧ i = 3 * n + 1 then x 3 else if b = r + 3 ∧ i = 3 * n + 2 then x 4 else if b = r + 4 ∧ i = n then x 5 else if b = r + 5 ∧ i = n then x 6 else if b = r + 6 ∧ i = n then x 7 else I b i
theorem putIns_app {I : im_I} {r n : Nat} {kd w x y z m b h : Int32} : App I (putIns I r n (ins_ kd w x y z m b h)) r n (ins_ kd w x y z m b h) := by
  refine ⟨?_, ?_, fun p hp => ?_, fun c hc => ?_⟩
  · simp [putIns]
  · refine insAt_of ?_ ?_ ?_ ?_ ?_ ?_ ?_ ?_ <;> simp [putIns, ins_]
  · have q0 : ¬ 3 * p = 3 * n := by omega
    have q1 : ¬ 3 * p = 3 * n + 1 := by omega
    have q2 : ¬ 3 * p = 3 * n + 2 := by omega
    have q3 : ¬ 3 * p + 1 = 3 * n := by omega
    have q4 : ¬ 3 * p + 1 = 3 * n + 1 := by omega
    have q5 : ¬ 3 * p + 1 = 3 * n + 2 := by omega
    have q6 : ¬ 3 * p + 2 = 3 * n := by omega
    have q7 : ¬ 3 * p + 2 = 3 * n + 1 := by omega
    have q8 : ¬ 3 * p + 2 = 3 * n + 2 := by omega
    refine insAt_congr ?_ ?_ ?_ ?_ ?_ ?_ ?_ ?_ <;> simp only [putIns, hp, q0, q1, q2, q3, q4, q5, q6, q7, q8, and_false, if_false, Nat.add_eq_left, Nat.succ_ne_self, false_and] <;> simp
  · funext i
    have c0 : ¬ c = r := by omega
    have c1 : ¬ c = r + 1 := by omega
    have c2 : ¬ c = r + 2 := by omega
    have c3 : ¬ c = r + 3 := by omega
    have c4 : ¬ c = r + 4 := by omega
    have c5 : ¬ c = r + 5 := by omega
    have c6 : ¬ c = r + 6 := by omega
    simp [putIns, c0, c1, c2, c3, c4, c5, c6]
/-- a line made and its reads told -/
theorem addR_app {I : im_I} {r n : Nat} {kd v b x y z : Int32} (h : I r 0 = nI n) (hn : n < 88) : App I (setReads_ (add_ I r kd v b) r x y z) r n (ins_ kd v x y z 0 b 0) := by
  rw [setReads_nat (n := n) (by rw [add_nat h hn, im_up_same]) hn, add_nat h hn]
  refine cast (congrArg (fun J => App I J r n _) ?_) (putIns_app (I := I) (r := r) (n := n) (kd := kd) (w := v) (x := x) (y := y) (z := z) (m := 0) (b := b) (h := 0))
  funext c i
  have c1 : ¬ r = r + 1 := by omega
  simp only [putIns, im_up, ins_]
  have q0 : ¬ 3 * n = 3 * n + 1 := by omega
  by_cases d : c = r
  · subst d; simp
  · simp only [d, false_and, if_false]
    by_cases d3 : c = r + 3
    · subst d3
      by_cases e2 : i = 3 * n + 2
      · subst e2; simp
      · by_cases e1 : i = 3 * n + 1
        · subst e1; simp
        · simp [e1, e2]
    · simp only [d3, false_and, if_false]
      by_cases d1 : c = r + 1
      · subst d1; simp
      · by_cases d2 : c = r + 2
        · subst d2; simp
        · by_cases d4 : c = r + 4
          · subst d4; simp
          · by_cases d5 : c = r + 5
            · subst d5; simp
            · simp [d1, d2, d4, d5]
/-- a line made, its number and its reads told -/
theorem addRN_app {I : im_I} {r n : Nat} {kd v b x y z m : Int32} (h : I r 0 = nI n) (hn : n < 88) : App I (setReads_ (setNumber_ (add_ I r kd v b) r m) r x y z) r n (ins_ kd v x y z m b 0) := by
  have e0 : add_ I r kd v b r 0 = nI (n + 1) := by rw [add_nat h hn, im_up_same]
  rw [setNumber_nat e0 hn, setReads_nat (n := n) ((congrFun (up_fr (by omega)) 0).trans e0) hn, add_nat h hn]
  refine cast (congrArg (fun J => App I J r n _) ?_) (putIns_app (I := I) (r := r) (n := n) (kd := kd) (w := v) (x := x) (y := y) (z := z) (m := m) (b := b) (h := 0))
  funext c i
  simp only [putIns, im_up, ins_]
  by_cases d : c = r
  · subst d; simp
  · simp only [d, false_and, if_false]
    by_cases d3 : c = r + 3
    · subst d3
      by_cases e2 : i = 3 * n + 2
      · subst e2; simp
      · by_cases e1 : i = 3 * n + 1
        · subst e1; simp
        · simp [e1, e2]
    · simp only [d3, false_and, if_false]
      by_cases d1 : c = r + 1
      · subst d1; simp
      · by_cases d2 : c = r + 2
        · subst d2; simp
        · by_cases d4 : c = r + 4
          · subst d4; by_cases e : i = n <;> simp [e]
          · by_cases d5 : c = r + 5
            · subst d5; simp
            · simp [d1, d2, d4, d5]
theorem App_row {I J : im_I} {r n : Nat} {x : Ins} (h : App I J r n x) : J r 0 = nI (n + 1) := h.1
theorem App_at {I J : im_I} {r n : Nat} {x : Ins} (h : App I J r n x) : insAt J r n = x := h.2.1
theorem App_old {I J : im_I} {r n p : Nat} {x : Ins} (h : App I J r n x) (hp : p < n) : insAt J r p = insAt I r p := h.2.2.1 p (by omega)
theorem App_fr {I J : im_I} {r n b : Nat} {x : Ins} (h : App I J r n x) (hb : b < r ∨ r + 6 < b) : J b = I b := h.2.2.2 b hb
/-- a line of another row of lines, copied -/
theorem addCopy_app {I : im_I} {a b n p : Nat} (h : I a 0 = nI n) (hn : n < 88) (hp : p < 88) (hd : a + 6 < b ∨ b + 6 < a) : App I (addCopy_ I a b (nI p)) a n (insAt I b p) := by
  have hb : ∀ J : im_I, (∀ c, c < a ∨ a + 6 < c → J c = I c) → insAt J b p = insAt I b p := fun J hJ => insAt_fr fun c h1 h2 => hJ c (by omega)
  have e0 : add_ I a (kindOf_ I b (nI p)) (writtenBy_ I b (nI p)) (blockOf_ I b (nI p)) a 0 = nI (n + 1) := by rw [add_nat h hn, im_up_same]
  have hA := fun x y z => addR_app (kd := kindOf_ I b (nI p)) (v := writtenBy_ I b (nI p)) (b := blockOf_ I b (nI p)) (x := x) (y := y) (z := z) h hn
  have f1 : ∀ c, c < a ∨ a + 6 < c → add_ I a (kindOf_ I b (nI p)) (writtenBy_ I b (nI p)) (blockOf_ I b (nI p)) c = I c := fun c hc => add_fr hc
  have i1 := hb _ f1
  have f2 := fun x y z (c : Nat) (hc : c < a ∨ a + 6 < c) => App_fr (hA x y z) hc
  have i2 := fun x y z => hb _ (f2 x y z)
  unfold addCopy_
  simp only [readBy_0 hp, readBy_1 hp, readBy_2 hp, i1, numberOf_nat hp, heightOf_nat hp, i2]
  have g1 := hA (insAt I b p 2) (insAt I b p 3) (insAt I b p 4)
  rw [setNumber_nat (App_row g1) hn]
  have f3 : insAt (im_up (setReads_ (add_ I a (kindOf_ I b (nI p)) (writtenBy_ I b (nI p)) (blockOf_ I b (nI p))) a (insAt I b p 2) (insAt I b p 3) (insAt I b p 4)) (a + 4) n (insAt I b p 5)) b p = insAt I b p := hb _ fun c hc => (up_fr (by omega)).trans (App_fr g1 hc)
  rw [f3, up_fr (show a ≠ a + 4 by omega), App_row g1, nI_pred, setHeight_nat hn]
  obtain ⟨k1, k2, k3, k4⟩ := g1
  rw [kindOf_nat hp, writtenBy_nat hp, blockOf_nat hp] at k1 k2 k3 k4 ⊢
  generalize setReads_ _ _ _ _ _ = K at k1 k2 k3 k4 ⊢
  refine ⟨?_, ?_, fun q hq => ?_, fun c hc => (up_fr (by omega)).trans ((up_fr (by omega)).trans (k4 c hc))⟩
  · rw [up_fr (by omega), up_fr (by omega)]; exact k1
  · have w0 := congrFun k2 0
    have w1 := congrFun k2 1
    have w2 := congrFun k2 2
    have w3 := congrFun k2 3
    have w4 := congrFun k2 4
    have w6 := congrFun k2 6
    refine (insAt_of (kd := insAt I b p 0) (w := insAt I b p 1) (x := insAt I b p 2) (y := insAt I b p 3) (z := insAt I b p 4) (n := insAt I b p 5) (b := insAt I b p 6) (h := insAt I b p 7) ?_ ?_ ?_ ?_ ?_ ?_ ?_ ?_).trans rfl
    · rw [up_fr (by omega), up_fr (by omega)]; exact w0
    · rw [up_fr (by omega), up_fr (by omega)]; exact w1
    · rw [up_fr (by omega), up_fr (by omega)]; exact w2
    · rw [up_fr (by omega), up_fr (by omega)]; exact w3
    · rw [up_fr (by omega), up_fr (by omega)]; exact w4
    · rw [up_fr (by omega), im_up_same]
    · rw [up_fr (by omega), up_fr (by omega)]; exact w6
    · rw [im_up_same]
  · refine (insAt_congr ?_ ?_ ?_ ?_ ?_ ?_ ?_ ?_).trans (k3 q hq)
    · rw [up_fr (by omega), up_fr (by omega)]
    · rw [up_fr (by omega), up_fr (by omega)]
    · rw [up_fr (by omega), up_fr (by omega)]
    · rw [up_fr (by omega), up_fr (by omega)]
    · rw [up_fr (by omega), up_fr (by omega)]
    · rw [up_fr (by omega), up_ne hq]
    · rw [up_fr (by omega), up_fr (by omega)]
    · rw [up_ne hq, up_fr (by omega)]
