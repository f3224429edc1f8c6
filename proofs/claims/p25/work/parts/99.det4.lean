/-! THE PLAN, in either order: its lines are known, and are the same in two memories -/
theorem chosen_P {I : im_I} {a f t c0 : Nat} (h0 : I (a + 10) 0 = nI c0) (hft : f ≤ t) (ht : t ≤ 88) (hc : c0 + (t - f) ≤ 88) :
    (placeAsChosen_ I a (nI f) (nI t) (a + 10) 0 = nI (c0 + (t - f))) ∧ (∀ k, k < t - f → insAt (placeAsChosen_ I a (nI f) (nI t)) (a + 10) (c0 + k) = insAt I (a + 27) (f + k)) ∧ (∀ p, p < c0 → insAt (placeAsChosen_ I a (nI f) (nI t)) (a + 10) p = insAt I (a + 10) p) := by
  unfold placeAsChosen_
  rw [loopC_nat (by omega) (by omega)]
  have key := itN_inv (f := fun i => (fun J => addCopy_ J (a + 10) (a + 27) (nI (f + i)))) (n := t - f) (s := I) (fun i J => (J (a + 10) 0 = nI (c0 + i)) ∧ (∀ k, k < i → insAt J (a + 10) (c0 + k) = insAt I (a + 27) (f + k)) ∧ (∀ p, p < c0 → insAt J (a + 10) p = insAt I (a + 10) p) ∧ (∀ z, z < a + 10 ∨ a + 16 < z → J z = I z)) ⟨h0, fun k hk => absurd hk (by omega), fun p _ => rfl, fun z _ => rfl⟩ (fun i J hi hJ => by
    obtain ⟨g1, g2, g3, g4⟩ := hJ
    have hA := addCopy_app (I := J) (a := a + 10) (b := a + 27) (n := c0 + i) (p := f + i) g1 (by omega) (by omega) (Or.inl (by omega))
    rw [insAt_fr (I := I) (J := J) (r := a + 27) fun z z1 z2 => g4 z (by omega)] at hA
    refine ⟨App_row hA, fun k hk => ?_, fun p hp => ?_, fun z hz => (App_fr hA (by omega)).trans (g4 z hz)⟩
    · by_cases d : k = i
      · rw [d, App_at hA]
      · rw [App_old hA (by omega)]; exact g2 k (by omega)
    · rw [App_old hA (by omega)]; exact g3 p hp)
  exact ⟨key.1, key.2.1, key.2.2.1⟩
theorem place_P {I : im_I} {a f t c0 : Nat} {o : Int32} (h0 : I (a + 10) 0 = nI c0) (hft : f ≤ t) (ht : t ≤ 88) (hc : c0 + (t - f) ≤ 88) (hok : ∀ j, f ≤ j → j < t → insOk (insAt I (a + 27) j)) :
    ∃ P : List Nat, (place_ a o (nI f) (nI t) I (a + 10) 0 = nI (c0 + P.length)) ∧ (∀ k j, P[k]? = some j → insAt (place_ a o (nI f) (nI t) I) (a + 10) (c0 + k) = insAt I (a + 27) j) ∧ (∀ p, p < c0 → insAt (place_ a o (nI f) (nI t) I) (a + 10) p = insAt I (a + 10) p) ∧
      P.Perm (List.range' f (t - f)) ∧ (∀ V : Env, exL (insAt I (a + 27)) P V = exL (insAt I (a + 27)) (List.range' f (t - f)) V) ∧
      (∀ k j, P[k]? = some j → ∀ i, f ≤ i → i < j → dep (insAt I (a + 27) j) (insAt I (a + 27) i) → i ∈ P.take k) ∧ (∀ z, z < a + 10 ∨ a + 16 < z → z ≠ a + 35 → place_ a o (nI f) (nI t) I z = I z) := by
  unfold place_
  by_cases co : o = 0
  · rw [if_pos co]
    obtain ⟨c1, c2, c3⟩ := chosen_P h0 hft ht hc
    have hget : ∀ k j, (List.range' f (t - f))[k]? = some j → k < t - f ∧ j = f + k := fun k j hk => by
      have hk2 : k < t - f := by
        apply Nat.lt_of_not_le
        intro hle
        rw [List.getElem?_eq_none (by rw [List.length_range']; exact hle)] at hk
        cases hk
      rw [List.getElem?_range' hk2, Nat.one_mul] at hk
      exact ⟨hk2, (Option.some.inj hk).symm⟩
    refine ⟨List.range' f (t - f), by rw [List.length_range']; exact c1, fun k j hk => ?_, c3, List.Perm.refl _, fun V => rfl, fun k j hk i hi hij _ => ?_, fun z z1 z2 => placeAsChosen_fr z1⟩
    · obtain ⟨k1, k2⟩ := hget k j hk
      rw [k2]; exact c2 k k1
    · obtain ⟨k1, k2⟩ := hget k j hk
      rw [List.take_range'_of_length_ge (by omega), List.mem_range'_1]
      omega
  · rw [if_neg co]
    obtain ⟨P, q1, q2, q3, q4, q5, q6, q7, q8, q9⟩ := placeByHeight_P h0 hft ht hc hok
    rw [List.append_nil] at q4 q6
    exact ⟨P, q1, q2, q3, q4, q6, q7, q9⟩
set_option maxHeartbeats 1000000 in
theorem BldO_step {I0 J : im_I} {a m ne b n : Nat} {o : Int32} {s : Nat → Nat} {Pf : Nat → List Nat} (h : BldI I0 J a ne s b Pf) (hb : b < 4) (hne : ne ≤ 8) (hn : s 4 = n) (hn80 : n ≤ 80) (hs : ∀ i, i < 4 → s i ≤ s (i + 1)) (hst : ∀ i, i < 5 → I0 (a + 34) i = nI (s i)) (hok : ∀ j, j < n → insOk (insAt I0 (a + 27) j)) : ∃ Pf', BldI I0 (buildBlock_ a m o (nI b) J) a ne s (b + 1) Pf' := by
  obtain ⟨h1, h2, h3, h4, h5, h6⟩ := h
  have hmono : ∀ d i, i + d ≤ 4 → s i ≤ s (i + d) := by
    intro d
    induction d with
    | zero => intro i _; exact Nat.le_refl _
    | succ d ih =>
      intro i hid
      exact Nat.le_trans (ih i (by omega)) (hs (i + d) (by omega))
  have hsn : ∀ i, i ≤ 4 → s i ≤ n := fun i hi => by
    have := hmono (4 - i) i (by omega)
    rwa [show i + (4 - i) = 4 by omega, hn] at this
  have s1 := hs b hb
  have s2 := hsn (b + 1) (by omega)
  have ef : at_ (J (a + 34)) 5 (nI b) = nI (s b) := by rw [at_nat (by omega) (by decide), h6 _ (by omega) (by omega) (by omega) (by omega)]; exact hst b (by omega)
  have et : at_ (J (a + 34)) 5 (nI b + 1) = nI (s (b + 1)) := by rw [← nI_succ, at_nat (by omega) (by decide), h6 _ (by omega) (by omega) (by omega) (by omega)]; exact hst (b + 1) (by omega)
  unfold buildBlock_
  simp only [ef, et]
  rw [h1, put_nat (by omega) (by decide)]
  have eM : ∀ z, z ≠ a + 26 → z ≠ a + 33 → measureHeights_ (im_up J (a + 26) b (nI (ne + s b))) a m (nI (s b)) (nI (s (b + 1))) z = J z := fun z z1 z2 => (measureHeights_h z2).trans (up_fr z1)
  have eM26 : ∀ i, measureHeights_ (im_up J (a + 26) b (nI (ne + s b))) a m (nI (s b)) (nI (s (b + 1))) (a + 26) i = if i = b then nI (ne + s b) else J (a + 26) i := fun i => by rw [measureHeights_h (by omega), up_row]
  have eMR : ∀ p, eqI (insAt (measureHeights_ (im_up J (a + 26) b (nI (ne + s b))) a m (nI (s b)) (nI (s (b + 1)))) (a + 27) p) (insAt I0 (a + 27) p) := fun p => by
    refine eqI_tr ?_ (h5 p)
    refine eqI_tr (insAt_h (fun z hz => measureHeights_h (by omega)) p) ?_
    rw [insAt_fr (I := J) fun z z1 z2 => up_fr (by omega)]
    exact eqI_rf
  generalize measureHeights_ (im_up J (a + 26) b (nI (ne + s b))) a m (nI (s b)) (nI (s (b + 1))) = M at eM eM26 eMR ⊢
  obtain ⟨P, q1, q2, q3, q4, q6, q7, q9⟩ := place_P (I := M) (a := a) (o := o) (f := s b) (t := s (b + 1)) (c0 := ne + s b) (by rw [eM _ (by omega) (by omega)]; exact h1) s1 (by omega) (by omega) (fun j j1 j2 => eqI_insOk (eqI_sy (eMR j)) (hok j (by omega)))
  have hPl : P.length = s (b + 1) - s b := by
    have := q4.length_eq
    rwa [List.length_range'] at this
  have hpl : (if o = 0 then placeAsChosen_ M a (nI (s b)) (nI (s (b + 1))) else placeByHeight_ M a (nI (s b)) (nI (s (b + 1)))) = place_ a o (nI (s b)) (nI (s (b + 1))) M := rfl
  rw [hpl]
  generalize place_ a o (nI (s b)) (nI (s (b + 1))) M = E at q1 q2 q3 q9 ⊢
  have hOld : ∀ p, p < ne + s b → insAt E (a + 10) p = insAt J (a + 10) p := fun p hp => (q3 p hp).trans (insAt_fr fun z z1 z2 => eM z (by omega) (by omega))
  refine ⟨fun i => if i = b then P else Pf i, ?_, fun p hp => (hOld p (by omega)).trans (h2 p hp), fun i hi => ?_, fun i hi => ?_, fun p => ?_, fun z z1 z2 z3 z4 => (q9 z z1 z4).trans ((eM z z2 z3).trans (h6 z z1 z2 z3 z4))⟩
  · rw [q1, hPl, show ne + s b + (s (b + 1) - s b) = ne + s (b + 1) by omega]
  · simp only
    by_cases c : i = b
    · subst c
      rw [if_pos rfl]
      refine ⟨q4, fun k j hk => ?_, fun V => ?_, fun k j hk q hq hqj hd => ?_⟩
      · rw [q2 k j hk]; exact eMR j
      · have e := q6 V
        rw [exL_congr (R' := insAt I0 (a + 27)) (fun j _ => eMR j), exL_congr (R' := insAt I0 (a + 27)) (fun j _ => eMR j)] at e
        exact e
      · exact q7 k j hk q hq hqj (eqI_dep (eqI_sy (eMR j)) (eqI_sy (eMR q)) hd)
    · rw [if_neg c]
      obtain ⟨g1, g2, g3, g4⟩ := h3 i (by omega)
      refine ⟨g1, fun k j hk => ?_, g3, g4⟩
      have hk2 : k < (Pf i).length := by
        apply Nat.lt_of_not_le
        intro hle
        rw [List.getElem?_eq_none hle] at hk
        cases hk
      have hl : (Pf i).length = s (i + 1) - s i := by
        have := g1.length_eq
        rwa [List.length_range'] at this
      have hm1 : s (i + 1) ≤ s b := by
        have := hmono (b - (i + 1)) (i + 1) (by omega)
        rwa [show i + 1 + (b - (i + 1)) = b by omega] at this
      rw [hOld _ (by omega)]
      exact g2 k j hk
  · rw [q9 _ (by omega) (by omega), eM26]
    by_cases c : i = b
    · rw [if_pos c, c]
    · rw [if_neg c]; exact h4 i (by omega)
  · rw [insAt_fr (I := M) fun z z1 z2 => q9 z (by omega) (by omega)]
    exact eMR p
/-- a block in two memories -/
theorem BldE_step {I0 J0 A B : im_I} {a a' m m' ne b n : Nat} {o : Int32} {s : Nat → Nat} {Pf Pg : Nat → List Nat} (h : BldI I0 A a ne s b Pf) (h' : BldI J0 B a' ne s b Pg) (hb : b < 4) (hne : ne ≤ 8) (hn : s 4 = n) (hn80 : n ≤ 80) (hs : ∀ i, i < 4 → s i ≤ s (i + 1)) (hst : ∀ i, i < 5 → I0 (a + 34) i = nI (s i)) (hst' : ∀ i, i < 5 → J0 (a' + 34) i = nI (s i))
    (hok : ∀ j, j < n → insOk (insAt I0 (a + 27) j)) (hok' : ∀ j, j < n → insOk (insAt J0 (a' + 27) j)) (hM : cyclesOf_ J0 m' = cyclesOf_ I0 m) (hm : m + 1 < a + 10) (hm' : m' + 1 < a' + 10)
    (hl : ∀ p, p < ne + s b → insAt B (a' + 10) p = insAt A (a + 10) p) (hr : ∀ p, p < n → insAt B (a' + 27) p = insAt A (a + 27) p) :
    ∃ Pf' Pg', BldI I0 (buildBlock_ a m o (nI b) A) a ne s (b + 1) Pf' ∧ BldI J0 (buildBlock_ a' m' o (nI b) B) a' ne s (b + 1) Pg' ∧ (∀ p, p < ne + s (b + 1) → insAt (buildBlock_ a' m' o (nI b) B) (a' + 10) p = insAt (buildBlock_ a m o (nI b) A) (a + 10) p) ∧ (∀ p, p < n → insAt (buildBlock_ a' m' o (nI b) B) (a' + 27) p = insAt (buildBlock_ a m o (nI b) A) (a + 27) p) := by
  obtain ⟨Pf', k1⟩ := BldO_step (m := m) (o := o) h hb hne hn hn80 hs hst hok
  obtain ⟨Pg', k2⟩ := BldO_step (m := m') (o := o) h' hb hne hn hn80 hs hst' hok'
  refine ⟨Pf', Pg', k1, k2, ?_⟩
  have hmono : ∀ d i, i + d ≤ 4 → s i ≤ s (i + d) := by
    intro d
    induction d with
    | zero => intro i _; exact Nat.le_refl _
    | succ d ih =>
      intro i hid
      exact Nat.le_trans (ih i (by omega)) (hs (i + d) (by omega))
  have s2 : s (b + 1) ≤ n := by
    have := hmono (4 - (b + 1)) (b + 1) (by omega)
    rwa [show b + 1 + (4 - (b + 1)) = 4 by omega, hn] at this
  have s1 := hs b hb
  have c1 := k1.1
  have c2 := k2.1
  obtain ⟨h1, -, -, -, -, h6⟩ := h
  obtain ⟨g1, -, -, -, -, g6⟩ := h'
  have ef : at_ (A (a + 34)) 5 (nI b) = nI (s b) := by rw [at_nat (by omega) (by decide), h6 _ (by omega) (by omega) (by omega) (by omega)]; exact hst b (by omega)
  have et : at_ (A (a + 34)) 5 (nI b + 1) = nI (s (b + 1)) := by rw [← nI_succ, at_nat (by omega) (by decide), h6 _ (by omega) (by omega) (by omega) (by omega)]; exact hst (b + 1) (by omega)
  have ef' : at_ (B (a' + 34)) 5 (nI b) = nI (s b) := by rw [at_nat (by omega) (by decide), g6 _ (by omega) (by omega) (by omega) (by omega)]; exact hst' b (by omega)
  have et' : at_ (B (a' + 34)) 5 (nI b + 1) = nI (s (b + 1)) := by rw [← nI_succ, at_nat (by omega) (by decide), g6 _ (by omega) (by omega) (by omega) (by omega)]; exact hst' (b + 1) (by omega)
  have hb1 : ∀ (a m : Nat) (A : im_I), A (a + 10) 0 = nI (ne + s b) → at_ (A (a + 34)) 5 (nI b) = nI (s b) → at_ (A (a + 34)) 5 (nI b + 1) = nI (s (b + 1)) → buildBlock_ a m o (nI b) A = place_ a o (nI (s b)) (nI (s (b + 1))) (measureHeights_ (im_up A (a + 26) b (nI (ne + s b))) a m (nI (s b)) (nI (s (b + 1)))) := fun a m A e1 e2 e3 => by
    unfold buildBlock_ place_
    simp only [e2, e3]
    rw [e1, put_nat (by omega) (by decide)]
  rw [hb1 a m A h1 ef et] at c1 ⊢
  rw [hb1 a' m' B g1 ef' et'] at c2 ⊢
  have cA : cyclesOf_ (im_up A (a + 26) b (nI (ne + s b))) m = cyclesOf_ I0 m := by
    funext kd
    unfold cyclesOf_
    rw [up_fr (by omega), h6 _ (by omega) (by omega) (by omega) (by omega)]
  have cB : cyclesOf_ (im_up B (a' + 26) b (nI (ne + s b))) m' = cyclesOf_ J0 m' := by
    funext kd
    unfold cyclesOf_
    rw [up_fr (by omega), g6 _ (by omega) (by omega) (by omega) (by omega)]
  have hH := heights_E (I := im_up A (a + 26) b (nI (ne + s b))) (J := im_up B (a' + 26) b (nI (ne + s b))) (a := a) (a' := a') (m := m) (m' := m') (n := n) (f := s b) (t := s (b + 1)) (by omega) s1 s2 (by rw [cA, cB, hM]) (by omega) (by omega) (fun p hp => by
    rw [insAt_fr (I := B) fun z z1 z2 => up_fr (by omega), insAt_fr (I := A) fun z z1 z2 => up_fr (by omega)]
    exact hr p hp)
  have fA : ∀ z, z ≠ a + 26 → z ≠ a + 33 → measureHeights_ (im_up A (a + 26) b (nI (ne + s b))) a m (nI (s b)) (nI (s (b + 1))) z = A z := fun z z1 z2 => (measureHeights_h z2).trans (up_fr z1)
  have fB : ∀ z, z ≠ a' + 26 → z ≠ a' + 33 → measureHeights_ (im_up B (a' + 26) b (nI (ne + s b))) a' m' (nI (s b)) (nI (s (b + 1))) z = B z := fun z z1 z2 => (measureHeights_h z2).trans (up_fr z1)
  generalize measureHeights_ (im_up A (a + 26) b (nI (ne + s b))) a m (nI (s b)) (nI (s (b + 1))) = M at hH fA c1 ⊢
  generalize measureHeights_ (im_up B (a' + 26) b (nI (ne + s b))) a' m' (nI (s b)) (nI (s (b + 1))) = M' at hH fB c2 ⊢
  obtain ⟨c', ⟨p1, p2⟩, p3⟩ := place_E (A := M) (B := M') (a := a) (a' := a') (o := o) (c := ne + s b) s1 s2 (by omega) (by rw [fA _ (by omega) (by omega)]; exact h1) (by rw [fB _ (by omega) (by omega)]; exact g1) (by omega) (fun p hp => by
    rw [insAt_fr (I := B) fun z z1 z2 => fB z (by omega) (by omega), insAt_fr (I := A) fun z z1 z2 => fA z (by omega) (by omega)]
    exact hl p hp) hH
  have rA : ∀ p, insAt (place_ a o (nI (s b)) (nI (s (b + 1))) M) (a + 27) p = insAt M (a + 27) p := fun p => insAt_fr fun z z1 z2 => by
    unfold place_
    split
    · exact placeAsChosen_fr (by omega)
    · exact placeByHeight_fr (by omega)
  have rB : ∀ p, insAt (place_ a' o (nI (s b)) (nI (s (b + 1))) M') (a' + 27) p = insAt M' (a' + 27) p := fun p => insAt_fr fun z z1 z2 => by
    unfold place_
    split
    · exact placeAsChosen_fr (by omega)
    · exact placeByHeight_fr (by omega)
  refine ⟨fun p hp => p3 p ?_, fun p hp => by rw [rA, rB]; exact hH p hp⟩
  have hz : ∀ c : Nat, c = ne + s (b + 1) ∨ nI c ≠ nI (ne + s (b + 1)) ∨ 2 ^ 31 ≤ c := fun c => by
    by_cases d : c < 2 ^ 31
    · by_cases e : nI c = nI (ne + s (b + 1))
      · exact Or.inl (nI_inj d (by omega) e)
      · exact Or.inr (Or.inl e)
    · exact Or.inr (Or.inr (by omega))
  rcases hz c' with e | e | e
  · omega
  · exact absurd (p1.symm.trans c1) e
  · omega
