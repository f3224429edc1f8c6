/-! DETERMINATION: heights, places, in either order -/
theorem at_congr {f g : Nat → Int32} {n : Nat} {i : Int32} (h : ∀ j, j < n → g j = f j) : at_ g n i = at_ f n i := by
  unfold at_
  by_cases c1 : i < 0
  · rw [if_pos c1, if_pos c1]
  · rw [if_neg c1, if_neg c1]
    by_cases c2 : Int32.ofNat n ≤ i
    · rw [if_pos c2, if_pos c2]
    · rw [if_neg c2, if_neg c2]
      obtain ⟨j, hj, rfl⟩ := nI_of c1
      rw [nI_clamp hj]
      apply h
      apply Nat.lt_of_not_le
      intro hle
      exact c2 (nI_le hle hj)
/-- the height alone is set -/
theorem insAt_up6 {I : im_I} {r i p : Nat} {x : Int32} : insAt (im_up I (r + 6) i x) r p = fun q => if p = i ∧ q = 7 then x else insAt I r p q := by
  funext q
  match q with
  | 0 => simp [insAt, ins_, im_up]
  | 1 => simp [insAt, ins_, im_up]
  | 2 => simp [insAt, ins_, im_up]
  | 3 => simp [insAt, ins_, im_up]
  | 4 => simp [insAt, ins_, im_up]
  | 5 => simp [insAt, ins_, im_up]
  | 6 => simp [insAt, ins_, im_up]
  | 7 => simp [insAt, ins_, im_up]
  | q + 8 => simp [insAt, ins_]
theorem above_E {I J : im_I} {r r' n i t : Nat} (h88 : n ≤ 88) (ht : t ≤ n) (hi : i < t) (hR : ∀ p, p < n → insAt J r' p = insAt I r p) : aboveOf_ J r' (nI i) (nI t) = aboveOf_ I r (nI i) (nI t) := by
  unfold aboveOf_
  rw [← nI_succ, loopC_nat (by omega) (by omega), loopC_nat (by omega) (by omega)]
  refine itN_congr fun j s hj => ?_
  simp only [heightOf_nat (show i + 1 + j < 88 by omega), isNeeding_nat (show i + 1 + j < 88 by omega) (show i < 88 by omega), hR (i + 1 + j) (by omega), hR i (by omega)]
theorem heights_E {I J : im_I} {a a' m m' n f t : Nat} (h88 : n ≤ 88) (hf : f ≤ t) (ht : t ≤ n) (hM : cyclesOf_ J m' = cyclesOf_ I m) (hm : m + 1 < a + 33) (hm' : m' + 1 < a' + 33) (hR : ∀ p, p < n → insAt J (a' + 27) p = insAt I (a + 27) p) :
    ∀ p, p < n → insAt (measureHeights_ J a' m' (nI f) (nI t)) (a' + 27) p = insAt (measureHeights_ I a m (nI f) (nI t)) (a + 27) p := by
  unfold measureHeights_
  rw [downC_nat (by omega) (by omega), downC_nat (by omega) (by omega)]
  have key := itN_rel (f := fun j => heightOne_ a m (nI t) (nI (t - 1 - j))) (g := fun j => heightOne_ a' m' (nI t) (nI (t - 1 - j))) (n := t - f) (s := I) (t := J) (fun j A B => (∀ p, p < n → insAt B (a' + 27) p = insAt A (a + 27) p) ∧ cyclesOf_ A m = cyclesOf_ I m ∧ cyclesOf_ B m' = cyclesOf_ J m') ⟨hR, rfl, rfl⟩ (fun j A B hj hAB => by
    obtain ⟨h1, h2, h3⟩ := hAB
    have hi : t - 1 - j < 88 := by omega
    unfold heightOne_
    rw [kindOf_nat hi, kindOf_nat hi, above_E h88 ht (by omega) h1, h1 (t - 1 - j) (by omega), h2, h3, hM, setHeight_nat hi, setHeight_nat hi]
    refine ⟨fun p hp => ?_, ?_, ?_⟩
    · rw [insAt_up6, insAt_up6, h1 p hp]
    · rw [← h2]; funext kd; unfold cyclesOf_; rw [up_fr (by omega)]
    · rw [← hM, ← h3]; funext kd; unfold cyclesOf_; rw [up_fr (by omega)])
  exact key.1
theorem need_congr {R R' : Nat → Ins} {l : List Nat} {j : Nat} (hj : R' j = R j) (h : ∀ i ∈ l, R' i = R i) : need R' l j = need R l j := by
  unfold need
  congr 1
  refine List.filter_congr fun i hi => ?_
  rw [hj, h i hi]
theorem highest_E {I J : im_I} {a a' f t : Nat} (hft : f ≤ t) (ht : t ≤ 88) (hR : ∀ p, p < t → insAt J (a' + 27) p = insAt I (a + 27) p) (hm : ∀ j, f ≤ j → j < t → J (a' + 35) j = I (a + 35) j) :
    highestReady_ J a' (nI f) (nI t) = highestReady_ I a (nI f) (nI t) ∧ (highestReady_ I a (nI f) (nI t) = -1 ∨ ∃ b, highestReady_ I a (nI f) (nI t) = nI b ∧ f ≤ b ∧ b < t) := by
  unfold highestReady_
  rw [loopC_nat (by omega) (by omega), loopC_nat (by omega) (by omega)]
  exact itN_rel (f := fun i => (fun b => if ¬ at_ (I (a + 35)) 88 (nI (f + i)) = 0 then b else if b = -1 then nI (f + i) else if heightOf_ I (a + 27) (nI (f + i)) ≤ heightOf_ I (a + 27) b then b else nI (f + i))) (g := fun i => (fun b => if ¬ at_ (J (a' + 35)) 88 (nI (f + i)) = 0 then b else if b = -1 then nI (f + i) else if heightOf_ J (a' + 27) (nI (f + i)) ≤ heightOf_ J (a' + 27) b then b else nI (f + i))) (n := t - f) (s := (-1 : Int32)) (t := (-1 : Int32))
    (fun i b c => c = b ∧ (b = -1 ∨ ∃ q, b = nI q ∧ f ≤ q ∧ q < t)) ⟨rfl, Or.inl rfl⟩ (fun i b c hi hbc => by
      obtain ⟨e, hb⟩ := hbc
      subst e
      simp only [at88 (show f + i < 88 by omega), hm (f + i) (by omega) (by omega), heightOf_nat (show f + i < 88 by omega), hR (f + i) (by omega)]
      have eh : heightOf_ J (a' + 27) c = heightOf_ I (a + 27) c ∨ c = -1 := by
        rcases hb with e | ⟨q, e, q1, q2⟩
        · exact Or.inr e
        · subst e
          rw [heightOf_nat (by omega), heightOf_nat (by omega), hR q q2]
          exact Or.inl rfl
      have hn : ∃ q, nI (f + i) = nI q ∧ f ≤ q ∧ q < t := ⟨f + i, rfl, by omega, by omega⟩
      by_cases c0 : I (a + 35) (f + i) = 0
      · have nn0 : ¬ ¬ I (a + 35) (f + i) = 0 := fun h => h c0
        rw [if_neg nn0, if_neg nn0]
        by_cases c1 : c = -1
        · rw [if_pos c1, if_pos c1]
          exact ⟨rfl, Or.inr hn⟩
        · rw [if_neg c1, if_neg c1]
          rcases eh with eh | eh
          · rw [eh]
            refine ⟨rfl, ?_⟩
            split
            · exact hb
            · exact Or.inr hn
          · exact absurd eh c1
      · rw [if_pos c0, if_pos c0]
        exact ⟨rfl, hb⟩)
/-- the lines of a block, while they are placed -/
def PlE0 (A B : im_I) (a a' f t c n : Nat) : Prop :=
  (A (a + 10) 0 = nI c ∧ B (a' + 10) 0 = nI c) ∧ (∀ p, p < c → insAt B (a' + 10) p = insAt A (a + 10) p) ∧ (∀ p, p < n → insAt B (a' + 27) p = insAt A (a + 27) p) ∧ (∀ j, f ≤ j → j < t → B (a' + 35) j = A (a + 35) j)
theorem addCopy_E {A B : im_I} {a a' f t c n b : Nat} (h : PlE0 A B a a' f t c n) (hn : n ≤ 88) (hb : b < n) (hc : c < 88) : PlE0 (addCopy_ A (a + 10) (a + 27) (nI b)) (addCopy_ B (a' + 10) (a' + 27) (nI b)) a a' f t (c + 1) n := by
  obtain ⟨⟨h1, h2⟩, h3, h4, h5⟩ := h
  have hA := addCopy_app (I := A) (a := a + 10) (b := a + 27) (n := c) (p := b) h1 hc (by omega) (Or.inl (by omega))
  have hB := addCopy_app (I := B) (a := a' + 10) (b := a' + 27) (n := c) (p := b) h2 hc (by omega) (Or.inl (by omega))
  refine ⟨⟨App_row hA, App_row hB⟩, fun p hp => ?_, fun p hp => ?_, fun j j1 j2 => ?_⟩
  · by_cases d : p = c
    · rw [d, App_at hA, App_at hB, h4 b hb]
    · rw [App_old hA (by omega), App_old hB (by omega)]
      exact h3 p (by omega)
  · rw [insAt_fr (I := B) fun z z1 z2 => App_fr hB (by omega), insAt_fr (I := A) fun z z1 z2 => App_fr hA (by omega)]
    exact h4 p hp
  · rw [App_fr hA (by omega), App_fr hB (by omega)]
    exact h5 j j1 j2
theorem placeN_E {a a' f t n : Nat} (hft : f ≤ t) (htn : t ≤ n) (hn : n ≤ 88) : ∀ (k c : Nat) (i : Int32) (A B : im_I), PlE0 A B a a' f t c n → c + k ≤ 88 → ∃ c', PlE0 (placeN_ a (nI f) (nI t) k i A) (placeN_ a' (nI f) (nI t) k i B) a a' f t c' n := by
  intro k
  induction k with
  | zero =>
    intro c i A B h _
    rw [placeN_0, placeN_0]
    exact ⟨c, h⟩
  | succ k ih =>
    intro c i A B h hc
    obtain ⟨e1, e2⟩ := highest_E (I := A) (J := B) (a := a) (a' := a') hft (by omega) (fun p hp => h.2.2.1 p (by omega)) h.2.2.2
    rw [placeN_s, placeN_s, e1]
    rcases e2 with e2 | ⟨b, e2, b1, b2⟩
    · rw [e2, if_pos rfl, if_pos rfl]
      exact ⟨c, h⟩
    · rw [e2, if_neg (nI_m1 (by omega)), if_neg (nI_m1 (by omega))]
      have h1 := addCopy_E h hn (show b < n by omega) (by omega)
      generalize addCopy_ A (a + 10) (a + 27) (nI b) = A1 at h1 ⊢
      generalize addCopy_ B (a' + 10) (a' + 27) (nI b) = B1 at h1 ⊢
      rw [put88 (show b < 88 by omega), put88 (show b < 88 by omega)]
      obtain ⟨l1, l2⟩ := lessLoop_nat (J := im_up A1 (a + 35) b (-1)) (a := a) (b := b) (t := t) (by omega) b2
      obtain ⟨m1, m2⟩ := lessLoop_nat (J := im_up B1 (a' + 35) b (-1)) (a := a') (b := b) (t := t) (by omega) b2
      refine ih (c + 1) _ _ _ ?_ (by omega)
      generalize loopC (nI b + 1) (nI t) (lessOne_ a (nI b)) (im_up A1 (a + 35) b (-1)) = E at l1 l2 ⊢
      generalize loopC (nI b + 1) (nI t) (lessOne_ a' (nI b)) (im_up B1 (a' + 35) b (-1)) = F at m1 m2 ⊢
      have fE : ∀ z, z ≠ a + 35 → E z = A1 z := fun z hz => (l2 z hz).trans (up_fr hz)
      have fF : ∀ z, z ≠ a' + 35 → F z = B1 z := fun z hz => (m2 z hz).trans (up_fr hz)
      obtain ⟨⟨g1, g2⟩, g3, g4, g5⟩ := h1
      refine ⟨⟨by rw [fE _ (by omega)]; exact g1, by rw [fF _ (by omega)]; exact g2⟩, fun p hp => ?_, fun p hp => ?_, fun j j1 j2 => ?_⟩
      · rw [insAt_fr (I := B1) fun z z1 z2 => fF z (by omega), insAt_fr (I := A1) fun z z1 z2 => fE z (by omega)]
        exact g3 p hp
      · rw [insAt_fr (I := B1) fun z z1 z2 => fF z (by omega), insAt_fr (I := A1) fun z z1 z2 => fE z (by omega)]
        exact g4 p hp
      · have r1 : ∀ p, insAt (im_up A1 (a + 35) b (-1)) (a + 27) p = insAt A1 (a + 27) p := fun p => insAt_fr fun z z1 z2 => up_fr (by omega)
        have r2 : ∀ p, insAt (im_up B1 (a' + 35) b (-1)) (a' + 27) p = insAt B1 (a' + 27) p := fun p => insAt_fr fun z z1 z2 => up_fr (by omega)
        have ej : im_up B1 (a' + 35) b (-1) (a' + 35) j = im_up A1 (a + 35) b (-1) (a + 35) j := by
          rw [up_row, up_row, g5 j j1 j2]
        rw [l1 j (by omega), m1 j (by omega), ej, r1, r1, r2, r2, g4 j (by omega), g4 b (by omega)]
/-- a block placed, in either order -/
def place_ (a : Nat) (o f t : Int32) (I : im_I) : im_I := if o = 0 then placeAsChosen_ I a f t else placeByHeight_ I a f t
theorem place_E {A B : im_I} {a a' f t n c : Nat} {o : Int32} (hft : f ≤ t) (htn : t ≤ n) (hn : n ≤ 88) (h1 : A (a + 10) 0 = nI c) (h2 : B (a' + 10) 0 = nI c) (hc : c + (t - f) ≤ 88) (h3 : ∀ p, p < c → insAt B (a' + 10) p = insAt A (a + 10) p) (h4 : ∀ p, p < n → insAt B (a' + 27) p = insAt A (a + 27) p) :
    ∃ c', (place_ a o (nI f) (nI t) A (a + 10) 0 = nI c' ∧ place_ a' o (nI f) (nI t) B (a' + 10) 0 = nI c') ∧ (∀ p, p < c' → insAt (place_ a' o (nI f) (nI t) B) (a' + 10) p = insAt (place_ a o (nI f) (nI t) A) (a + 10) p) := by
  unfold place_
  by_cases co : o = 0
  · rw [if_pos co, if_pos co]
    unfold placeAsChosen_
    rw [loopC_nat (by omega) (by omega), loopC_nat (by omega) (by omega)]
    have key := itN_rel (f := fun i => (fun J => addCopy_ J (a + 10) (a + 27) (nI (f + i)))) (g := fun i => (fun J => addCopy_ J (a' + 10) (a' + 27) (nI (f + i)))) (n := t - f) (s := A) (t := B) (fun i A B => PlE0 A B a a' 0 0 (c + i) n) ⟨⟨h1, h2⟩, h3, h4, fun j _ hj => absurd hj (by omega)⟩ (fun i A B hi hAB => addCopy_E (c := c + i) (b := f + i) hAB hn (by omega) (by omega))
    exact ⟨_, key.1, key.2.1⟩
  · rw [if_neg co, if_neg co]
    unfold placeByHeight_
    rw [cnt_nat (by omega) (by omega)]
    obtain ⟨a1, a2⟩ := countMissing_nat (I := A) (a := a) hft (show t ≤ 88 by omega)
    obtain ⟨b1, b2⟩ := countMissing_nat (I := B) (a := a') hft (show t ≤ 88 by omega)
    generalize countMissing_ A a (nI f) (nI t) = A1 at a1 a2 ⊢
    generalize countMissing_ B a' (nI f) (nI t) = B1 at b1 b2 ⊢
    obtain ⟨c', k1, k2, -⟩ := placeN_E (a := a) (a' := a') hft htn hn (t - f) c (nI f) A1 B1 ⟨⟨by rw [a2 _ (by omega)]; exact h1, by rw [b2 _ (by omega)]; exact h2⟩, fun p hp => by
      rw [insAt_fr (I := B) fun z z1 z2 => b2 z (by omega), insAt_fr (I := A) fun z z1 z2 => a2 z (by omega)]
      exact h3 p hp, fun p hp => by
      rw [insAt_fr (I := B) fun z z1 z2 => b2 z (by omega), insAt_fr (I := A) fun z z1 z2 => a2 z (by omega)]
      exact h4 p hp, fun j j1 j2 => by
      rw [a1 j j1 j2, b1 j j1 j2, need_congr (R := insAt A (a + 27)) (h4 j (by omega)) fun i hi => h4 i (by have := List.mem_range'_1.mp hi; omega)]⟩ hc
    exact ⟨c', k1, k2⟩
