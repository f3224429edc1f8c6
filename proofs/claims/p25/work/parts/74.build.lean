/-! PURE THEORY, THE PLAN: all BLOCKS placed -/
theorem need_s {R : Nat → Ins} {f m j : Nat} : need R (List.range' f (m + 1)) j = need R (List.range' f m) j + if f + m < j ∧ dep (R j) (R (f + m)) then 1 else 0 := by
  unfold need
  rw [List.range'_concat, List.filter_append, List.length_append, Nat.one_mul]
  congr 1
  by_cases c : f + m < j ∧ dep (R j) (R (f + m))
  · rw [if_pos c, List.filter_cons, if_pos (decide_eq_true c)]
    rfl
  · rw [if_neg c, List.filter_cons, if_neg (by rw [decide_eq_false c]; decide)]
    rfl
theorem need_far {R : Nat → Ins} {f j : Nat} : ∀ (d m : Nat), j ≤ f + m → need R (List.range' f (m + d)) j = need R (List.range' f m) j
  | 0, m, _ => rfl
  | d + 1, m, h => by
    rw [show m + (d + 1) = (m + d) + 1 by omega, need_s, if_neg (by omega), need_far d m h, Nat.add_zero]
theorem neededOf_nat {J : im_I} {r f j : Nat} (hf : f ≤ j) (hj : j < 88) : neededOf_ J r (nI f) (nI j) = nI (need (insAt J r) (List.range' f (j - f)) j) := by
  unfold neededOf_
  rw [loopC_nat (by omega) (by omega)]
  refine itN_inv (f := fun i => (fun c => if isNeeding_ J r (nI j) (nI (f + i)) = false then c else c + 1)) (n := j - f) (s := (0 : Int32)) (fun i c => c = nI (need (insAt J r) (List.range' f i) j)) nI_0.symm (fun i c hi hc => ?_)
  rw [isNeeding_nat hj (by omega), need_s, hc]
  by_cases d : dep (insAt J r j) (insAt J r (f + i))
  · rw [decide_eq_true d, if_neg (by decide), if_pos ⟨by omega, d⟩, nI_succ]
  · rw [decide_eq_false d, if_pos rfl, if_neg (fun e => d e.2), Nat.add_zero]
theorem countMissing_nat {I : im_I} {a f t : Nat} (hft : f ≤ t) (ht : t ≤ 88) : (∀ j, f ≤ j → j < t → countMissing_ I a (nI f) (nI t) (a + 35) j = nI (need (insAt I (a + 27)) (List.range' f (t - f)) j)) ∧ (∀ z, z ≠ a + 35 → countMissing_ I a (nI f) (nI t) z = I z) := by
  unfold countMissing_
  rw [loopC_nat (by omega) (by omega)]
  have key := itN_inv (f := fun i => (fun J => put_ J (a + 35) 88 (nI (f + i)) (neededOf_ J (a + 27) (nI f) (nI (f + i))))) (n := t - f) (s := I) (fun i J => (∀ j, f ≤ j → j < f + i → J (a + 35) j = nI (need (insAt I (a + 27)) (List.range' f (j - f)) j)) ∧ (∀ z, z ≠ a + 35 → J z = I z))
    ⟨fun j h1 h2 => absurd h2 (by omega), fun z hz => rfl⟩ (fun i J hi hJ => by
      obtain ⟨h1, h2⟩ := hJ
      have eR : insAt J (a + 27) = insAt I (a + 27) := funext fun p => insAt_fr fun z z1 z2 => h2 z (by omega)
      rw [put88 (by omega), neededOf_nat (by omega) (by omega), eR]
      refine ⟨fun j j1 j2 => ?_, fun z hz => (up_fr hz).trans (h2 z hz)⟩
      rw [up_row]
      by_cases c : j = f + i
      · rw [if_pos c, c]
      · rw [if_neg c]; exact h1 j j1 (by omega))
  refine ⟨fun j j1 j2 => ?_, key.2⟩
  rw [key.1 j j1 (by omega), show t - f = (j - f) + (t - j) by omega, need_far _ _ (by omega)]
theorem placeByHeight_P {I : im_I} {a f t c0 : Nat} (h0 : I (a + 10) 0 = nI c0) (hft : f ≤ t) (ht : t ≤ 88) (hc : c0 + (t - f) ≤ 88) (hok : ∀ j, f ≤ j → j < t → insOk (insAt I (a + 27) j)) : ∃ P, PlI I (placeByHeight_ I a (nI f) (nI t)) a f t c0 P [] := by
  obtain ⟨c1, c2⟩ := countMissing_nat (I := I) (a := a) hft ht
  unfold placeByHeight_
  rw [cnt_nat (by omega) (by omega)]
  refine placeN_P hft ht hc hok _ _ _ [] (List.range' f (t - f)) ⟨?_, fun k j hk => by simp at hk, fun p hp => insAt_fr fun z z1 z2 => c2 z (by omega), List.Perm.refl _, List.pairwise_lt_range', fun V => rfl, fun k j hk => by simp at hk, fun j j1 j2 => ?_, fun z z1 z2 => c2 z z2⟩ List.length_range'
  · rw [c2 _ (by omega), h0]; rfl
  · rw [c1 j j1 j2, if_pos (List.mem_range'_1.mpr ⟨j1, by omega⟩)]
/-- alike but for the height -/
def eqI (x y : Ins) : Prop := ∀ q, q < 7 → x q = y q
theorem eqI_rf {x : Ins} : eqI x x := fun _ _ => rfl
theorem eqI_tr {x y z : Ins} (h : eqI x y) (g : eqI y z) : eqI x z := fun q hq => (h q hq).trans (g q hq)
theorem eqI_sy {x y : Ins} (h : eqI x y) : eqI y x := fun q hq => (h q hq).symm
theorem eqI_ex {x y : Ins} (h : eqI x y) : exI x = exI y := by
  funext V
  unfold exI
  rw [h 0 (by decide), h 1 (by decide), h 2 (by decide), h 3 (by decide), h 4 (by decide), h 5 (by decide)]
theorem eqI_insOk {x y : Ins} (h : eqI x y) (hx : insOk x) : insOk y := by
  unfold insOk at hx ⊢
  rw [h 0 (by decide), h 1 (by decide), h 2 (by decide), h 3 (by decide), h 4 (by decide)] at hx
  refine ⟨hx.1, hx.2.1, fun i hi => ?_⟩
  rw [← h (2 + i) (by omega)]
  exact hx.2.2 i hi
theorem eqI_dep {x y u v : Ins} (h : eqI x y) (g : eqI u v) (hd : dep x u) : dep y v := by
  have a0 := h 0 (by decide)
  have a1 := h 1 (by decide)
  have a2 := h 2 (by decide)
  have a3 := h 3 (by decide)
  have a4 := h 4 (by decide)
  have b0 := g 0 (by decide)
  have b1 := g 1 (by decide)
  have b2 := g 2 (by decide)
  have b3 := g 3 (by decide)
  have b4 := g 4 (by decide)
  unfold dep rdS at hd ⊢
  rw [a0, a1, a2, a3, a4, b0, b1, b2, b3, b4] at hd
  exact hd
theorem exL_congr {R R' : Nat → Ins} {l : List Nat} (h : ∀ j ∈ l, eqI (R j) (R' j)) : ∀ V : Env, exL R l V = exL R' l V := by
  induction l with
  | nil => intro V; rw [exL_n, exL_n]
  | cons i t ih =>
    intro V
    rw [exL_c, exL_c, eqI_ex (h i List.mem_cons_self)]
    exact ih (fun j hj => h j (List.mem_cons_of_mem _ hj)) _
theorem insAt_h {I J : im_I} {r : Nat} (h : ∀ z, z ≠ r + 6 → J z = I z) (p : Nat) : eqI (insAt J r p) (insAt I r p) := by
  intro q hq
  match q, hq with
  | 0, _ => exact congrFun (h (r + 1) (by omega)) _
  | 1, _ => exact congrFun (h (r + 2) (by omega)) _
  | 2, _ => exact congrFun (h (r + 3) (by omega)) _
  | 3, _ => exact congrFun (h (r + 3) (by omega)) _
  | 4, _ => exact congrFun (h (r + 3) (by omega)) _
  | 5, _ => exact congrFun (h (r + 4) (by omega)) _
  | 6, _ => exact congrFun (h (r + 5) (by omega)) _
theorem measureHeights_h {I : im_I} {a m z : Nat} {f t : Int32} (h : z ≠ a + 33) : measureHeights_ I a m f t z = I z := downN_fr (fun _ _ => put_fr h) _ _ _
/-- blocks before b are placed: lists Pf say how -/
def BldI (I0 J : im_I) (a ne : Nat) (s : Nat → Nat) (b : Nat) (Pf : Nat → List Nat) : Prop :=
  (J (a + 10) 0 = nI (ne + s b)) ∧ (∀ p, p < ne → insAt J (a + 10) p = insAt I0 (a + 10) p) ∧
  (∀ i, i < b → (Pf i).Perm (List.range' (s i) (s (i + 1) - s i)) ∧ (∀ k j, (Pf i)[k]? = some j → eqI (insAt J (a + 10) (ne + s i + k)) (insAt I0 (a + 27) j)) ∧ (∀ V : Env, exL (insAt I0 (a + 27)) (Pf i) V = exL (insAt I0 (a + 27)) (List.range' (s i) (s (i + 1) - s i)) V) ∧
    (∀ k j, (Pf i)[k]? = some j → ∀ q, s i ≤ q → q < j → dep (insAt I0 (a + 27) j) (insAt I0 (a + 27) q) → q ∈ (Pf i).take k)) ∧
  (∀ i, i < b → J (a + 26) i = nI (ne + s i)) ∧ (∀ p, eqI (insAt J (a + 27) p) (insAt I0 (a + 27) p)) ∧ (∀ z, z < a + 10 ∨ a + 16 < z → z ≠ a + 26 → z ≠ a + 33 → z ≠ a + 35 → J z = I0 z)
set_option maxHeartbeats 1000000 in
theorem BldI_step {I0 J : im_I} {a m ne b n : Nat} {s : Nat → Nat} {Pf : Nat → List Nat} (h : BldI I0 J a ne s b Pf) (hb : b < 4) (hne : ne ≤ 8) (hn : s 4 = n) (hn80 : n ≤ 80) (hs : ∀ i, i < 4 → s i ≤ s (i + 1)) (hst : ∀ i, i < 5 → I0 (a + 34) i = nI (s i)) (hok : ∀ j, j < n → insOk (insAt I0 (a + 27) j)) : ∃ Pf', BldI I0 (buildBlock_ a m 1 (nI b) J) a ne s (b + 1) Pf' := by
  obtain ⟨h1, h2, h3, h4, h5, h6⟩ := h
  have hmono : ∀ d i, i + d ≤ 4 → s i ≤ s (i + d) := by
    intro d
    induction d with
    | zero => intro i _; exact Nat.le_refl _
    | succ d ih =>
      intro i hid
      exact Nat.le_trans (ih i (by omega)) (hs (i + d) (by omega))
  have hsn : ∀ i, i ≤ 4 → s i ≤ n := fun i hi => by
    have := hmono (4 - i) i (by omega)
    rwa [show i + (4 - i) = 4 by omega, hn] at this
  have s1 := hs b hb
  have s2 := hsn (b + 1) (by omega)
  have ef : at_ (J (a + 34)) 5 (nI b) = nI (s b) := by rw [at_nat (by omega) (by decide), h6 _ (by omega) (by omega) (by omega) (by omega)]; exact hst b (by omega)
  have et : at_ (J (a + 34)) 5 (nI b + 1) = nI (s (b + 1)) := by rw [← nI_succ, at_nat (by omega) (by decide), h6 _ (by omega) (by omega) (by omega) (by omega)]; exact hst (b + 1) (by omega)
  unfold buildBlock_
  simp only [ef, et]
  rw [if_neg (by decide), h1, put_nat (by omega) (by decide)]
  have eM : ∀ z, z ≠ a + 26 → z ≠ a + 33 → measureHeights_ (im_up J (a + 26) b (nI (ne + s b))) a m (nI (s b)) (nI (s (b + 1))) z = J z := fun z z1 z2 => (measureHeights_h z2).trans (up_fr z1)
  have eM26 : ∀ i, measureHeights_ (im_up J (a + 26) b (nI (ne + s b))) a m (nI (s b)) (nI (s (b + 1))) (a + 26) i = if i = b then nI (ne + s b) else J (a + 26) i := fun i => by rw [measureHeights_h (by omega), up_row]
  have eMR : ∀ p, eqI (insAt (measureHeights_ (im_up J (a + 26) b (nI (ne + s b))) a m (nI (s b)) (nI (s (b + 1)))) (a + 27) p) (insAt I0 (a + 27) p) := fun p => by
    refine eqI_tr ?_ (h5 p)
    refine eqI_tr (insAt_h (fun z hz => measureHeights_h (by omega)) p) ?_
    rw [insAt_fr (I := J) fun z z1 z2 => up_fr (by omega)]
    exact eqI_rf
  generalize measureHeights_ (im_up J (a + 26) b (nI (ne + s b))) a m (nI (s b)) (nI (s (b + 1))) = M at eM eM26 eMR ⊢
  obtain ⟨P, q1, q2, q3, q4, q5, q6, q7, q8, q9⟩ := placeByHeight_P (I := M) (a := a) (f := s b) (t := s (b + 1)) (c0 := ne + s b) (by rw [eM _ (by omega) (by omega)]; exact h1) s1 (by omega) (by omega) (fun j j1 j2 => eqI_insOk (eqI_sy (eMR j)) (hok j (by omega)))
  rw [List.append_nil] at q4 q6
  have hPl : P.length = s (b + 1) - s b := by
    have := q4.length_eq
    rwa [List.length_range'] at this
  generalize placeByHeight_ M a (nI (s b)) (nI (s (b + 1))) = E at q1 q2 q3 q8 q9 ⊢
  have hOld : ∀ p, p < ne + s b → insAt E (a + 10) p = insAt J (a + 10) p := fun p hp => (q3 p hp).trans (insAt_fr fun z z1 z2 => eM z (by omega) (by omega))
  refine ⟨fun i => if i = b then P else Pf i, ?_, fun p hp => (hOld p (by omega)).trans (h2 p hp), fun i hi => ?_, fun i hi => ?_, fun p => ?_, fun z z1 z2 z3 z4 => (q9 z z1 z4).trans ((eM z z2 z3).trans (h6 z z1 z2 z3 z4))⟩
  · rw [q1, hPl, show ne + s b + (s (b + 1) - s b) = ne + s (b + 1) by omega]
  · simp only
    by_cases c : i = b
    · subst c
      rw [if_pos rfl]
      refine ⟨q4, fun k j hk => ?_, fun V => ?_, fun k j hk q hq hqj hd => ?_⟩
      · rw [q2 k j hk]; exact eMR j
      · have e := q6 V
        rw [exL_congr (R' := insAt I0 (a + 27)) (fun j _ => eMR j), exL_congr (R' := insAt I0 (a + 27)) (fun j _ => eMR j)] at e
        exact e
      · exact q7 k j hk q hq hqj (eqI_dep (eqI_sy (eMR j)) (eqI_sy (eMR q)) hd)
    · rw [if_neg c]
      obtain ⟨g1, g2, g3, g4⟩ := h3 i (by omega)
      refine ⟨g1, fun k j hk => ?_, g3, g4⟩
      have hk2 : k < (Pf i).length := by
        apply Nat.lt_of_not_le
        intro hle
        rw [List.getElem?_eq_none hle] at hk
        cases hk
      have hl : (Pf i).length = s (i + 1) - s i := by
        have := g1.length_eq
        rwa [List.length_range'] at this
      have hm1 : s (i + 1) ≤ s b := by
        have := hmono (b - (i + 1)) (i + 1) (by omega)
        rwa [show i + 1 + (b - (i + 1)) = b by omega] at this
      rw [hOld _ (by omega)]
      exact g2 k j hk
  · rw [q9 _ (by omega) (by omega), eM26]
    by_cases c : i = b
    · rw [if_pos c, c]
    · rw [if_neg c]; exact h4 i (by omega)
  · rw [insAt_fr (I := M) fun z z1 z2 => q9 z (by omega) (by omega)]
    exact eMR p
