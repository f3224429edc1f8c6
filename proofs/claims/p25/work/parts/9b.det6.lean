/-! DETERMINATION: LIVES -/
/-- lives in two memories, while points are touched: values T are touched, cc CALLS seen -/
def TvE (A B : im_I) (v v' : Nat) (T : Nat → Prop) (cc : Nat) : Prop :=
  (A v 2 = nI cc ∧ ∀ q, q < 3 → B v' q = A v q) ∧ (∀ w, w < 88 → B (v' + 1) w = A (v + 1) w ∧ B (v' + 3) w = A (v + 3) w ∧ B (v' + 5) w = A (v + 5) w ∧ B (v' + 6) w = A (v + 6) w) ∧ (∀ w, w < 88 → T w → B (v' + 2) w = A (v + 2) w) ∧ (∀ k, k < cc → B (v' + 8) k = A (v + 8) k)
section TvE
variable {A B : im_I} {v v' cc w0 d : Nat} {T : Nat → Prop} {x : Int32}
theorem TvE_row (hd : d = 1 ∨ d = 3 ∨ d = 5 ∨ d = 6) (h : TvE A B v v' T cc) : TvE (im_up A (v + d) w0 x) (im_up B (v' + d) w0 x) v v' T cc := by
  obtain ⟨⟨h1, h2⟩, h3, h4, h5⟩ := h
  refine ⟨⟨?_, fun q hq => ?_⟩, fun w hw => ?_, fun w hw ht => ?_, fun k hk => ?_⟩
  · rw [up_fr (by omega)]; exact h1
  · rw [up_fr (by omega), up_fr (by omega)]; exact h2 q hq
  · obtain ⟨a1, a2, a3, a4⟩ := h3 w hw
    rcases hd with rfl | rfl | rfl | rfl <;> simp [up_at, a1, a2, a3, a4]
  · rw [up_fr (by omega), up_fr (by omega)]; exact h4 w hw ht
  · rw [up_fr (by omega), up_fr (by omega)]; exact h5 k hk
theorem TvE_sc (hd : d = 0 ∨ d = 1) (h : TvE A B v v' T cc) : TvE (im_up A v d x) (im_up B v' d x) v v' T cc := by
  obtain ⟨⟨h1, h2⟩, h3, h4, h5⟩ := h
  refine ⟨⟨?_, fun q hq => ?_⟩, fun w hw => ?_, fun w hw ht => ?_, fun k hk => ?_⟩
  · rw [up_ne (by omega)]; exact h1
  · rw [up_row, up_row, h2 q hq]
  · rw [up_fr (by omega), up_fr (by omega), up_fr (by omega), up_fr (by omega), up_fr (by omega), up_fr (by omega), up_fr (by omega), up_fr (by omega)]; exact h3 w hw
  · rw [up_fr (by omega), up_fr (by omega)]; exact h4 w hw ht
  · rw [up_fr (by omega), up_fr (by omega)]; exact h5 k hk
theorem TvE_last (h : TvE A B v v' T cc) : TvE (im_up A (v + 2) w0 x) (im_up B (v' + 2) w0 x) v v' (fun w => T w ∨ w = w0) cc := by
  obtain ⟨⟨h1, h2⟩, h3, h4, h5⟩ := h
  refine ⟨⟨?_, fun q hq => ?_⟩, fun w hw => ?_, fun w hw ht => ?_, fun k hk => ?_⟩
  · rw [up_fr (by omega)]; exact h1
  · rw [up_fr (by omega), up_fr (by omega)]; exact h2 q hq
  · rw [up_fr (by omega), up_fr (by omega), up_fr (by omega), up_fr (by omega), up_fr (by omega), up_fr (by omega), up_fr (by omega), up_fr (by omega)]; exact h3 w hw
  · rw [up_row, up_row]
    by_cases c : w = w0
    · rw [if_pos c, if_pos c]
    · rw [if_neg c, if_neg c]
      exact h4 w hw (ht.elim id fun e => absurd e c)
  · rw [up_fr (by omega), up_fr (by omega)]; exact h5 k hk
theorem TvE_call (h : TvE A B v v' T cc) : TvE (im_up (im_up A (v + 8) cc x) v 2 (nI (cc + 1))) (im_up (im_up B (v' + 8) cc x) v' 2 (nI (cc + 1))) v v' T (cc + 1) := by
  obtain ⟨⟨h1, h2⟩, h3, h4, h5⟩ := h
  refine ⟨⟨im_up_same, fun q hq => ?_⟩, fun w hw => ?_, fun w hw ht => ?_, fun k hk => ?_⟩
  · rw [up_row, up_row, up_fr (by omega), up_fr (by omega), h2 q hq]
  · simp only [up_fr (show v + 1 ≠ v by omega), up_fr (show v + 3 ≠ v by omega), up_fr (show v + 5 ≠ v by omega), up_fr (show v + 6 ≠ v by omega), up_fr (show v' + 1 ≠ v' by omega), up_fr (show v' + 3 ≠ v' by omega), up_fr (show v' + 5 ≠ v' by omega), up_fr (show v' + 6 ≠ v' by omega), up_fr (show v + 1 ≠ v + 8 by omega), up_fr (show v + 3 ≠ v + 8 by omega), up_fr (show v + 5 ≠ v + 8 by omega), up_fr (show v + 6 ≠ v + 8 by omega), up_fr (show v' + 1 ≠ v' + 8 by omega), up_fr (show v' + 3 ≠ v' + 8 by omega), up_fr (show v' + 5 ≠ v' + 8 by omega), up_fr (show v' + 6 ≠ v' + 8 by omega)]
    exact h3 w hw
  · rw [up_fr (by omega), up_fr (by omega), up_fr (by omega), up_fr (by omega)]; exact h4 w hw ht
  · rw [up_fr (show v' + 8 ≠ v' by omega), up_fr (show v + 8 ≠ v by omega), up_row, up_row]
    by_cases c : k = cc
    · rw [if_pos c, if_pos c]
    · rw [if_neg c, if_neg c]; exact h5 k (by omega)
theorem TvE_eq {T' : Nat → Prop} (h : TvE A B v v' T cc) (e : ∀ w, w < 88 → T' w → T w) : TvE A B v v' T' cc := ⟨h.1, h.2.1, fun w hw ht => h.2.2.1 w hw (e w hw ht), h.2.2.2⟩
theorem touchValue_E {p t : Int32} (hw : w0 < 88) (h : TvE A B v v' T cc) : TvE (touchValue_ A v (nI w0) p t) (touchValue_ B v' (nI w0) p t) v v' (fun w => T w ∨ w = w0) cc := by
  have e : ∀ (A : im_I) (v : Nat), touchValue_ A v (nI w0) p t = im_up (im_up (im_up A v 0 (max_ (A v 0) (nI w0 + 1))) (v + 2) w0 p) (v + 3) w0 (A (v + 3) w0 + t) := fun A v => by
    unfold touchValue_
    simp only [put88 hw, at88 hw]
    rw [up_fr (show v + 3 ≠ v + 2 by omega), up_fr (show v + 3 ≠ v by omega)]
  rw [e, e, (h.2.1 w0 hw).2.1, h.1.2 0 (by decide)]
  exact TvE_row (Or.inr (Or.inl rfl)) (TvE_last (TvE_sc (Or.inl rfl) h))
theorem touchRead_E {r r' p k : Nat} {t : Int32} (h88 : p < 88) (hk : k < 3) (hi : insAt B r' p = insAt A r p) (hx : insAt A r p (2 + k) = -1 ∨ ∃ y, y < 88 ∧ insAt A r p (2 + k) = nI y) (h : TvE A B v v' T cc) : TvE (touchRead_ v r (nI p) t (nI k) A) (touchRead_ v' r' (nI p) t (nI k) B) v v' (fun w => T w ∨ insAt A r p (2 + k) = nI w) cc := by
  unfold touchRead_
  simp only [readBy_nat h88 hk, hi]
  rcases hx with e | ⟨y, hy, e⟩
  · rw [if_pos e, if_pos e]
    exact TvE_eq h fun w hw ht => ht.elim id fun e2 => absurd (e2.symm.trans e) (nI_m1 (by omega))
  · rw [e, if_neg (nI_m1 (by omega)), if_neg (nI_m1 (by omega)), put88 hy, put88 hy, at88 hy, at88 hy, (h.2.1 y hy).2.2.2]
    exact TvE_eq (touchValue_E hy (TvE_row (Or.inr (Or.inr (Or.inr rfl))) h)) fun w hw ht => ht.imp id fun e2 => (nI_inj (by omega) (by omega) e2).symm
theorem touch2_E {r r' p : Nat} (h88 : p < 88) (hi : insAt B r' p = insAt A r p) (hw : w0 < 88) (hx : insAt A r p 1 = nI w0) (h4 : B 4 = A 4) (h : TvE A B v v' T cc) : TvE (touch2_ A v r (nI p)) (touch2_ B v' r' (nI p)) v v' (fun w => T w ∨ w = w0) cc := by
  have et : roundsOf_ B 3 (blockOf_ B r' (nI p)) = roundsOf_ A 3 (blockOf_ A r (nI p)) := by
    rw [blockOf_nat h88, blockOf_nat h88, hi]
    unfold roundsOf_
    rw [show B (3 + 1) = A (3 + 1) from h4]
  have h1 : TvE (touch1_ A v r (nI p)) (touch1_ B v' r' (nI p)) v v' T cc := by
    unfold touch1_
    simp only [writtenBy_nat h88, hi, hx, at88 hw, put88 hw, (h.2.1 w0 hw).1]
    by_cases c : A (v + 1) w0 = -1
    · rw [if_pos c, if_pos c]
      exact TvE_row (Or.inl rfl) h
    · rw [if_neg c, if_neg c]
      exact h
  unfold touch2_
  simp only [et]
  simp only [writtenBy_nat h88, hi, hx, put88 hw, at88 hw, (h1.2.1 w0 hw).2.2.1]
  exact touchValue_E hw (TvE_row (Or.inr (Or.inr (Or.inl rfl))) h1)
theorem touch_E {r r' p : Nat} (h88 : p < 88) (hcc : cc ≤ p) (hr : r + 6 < v) (hr' : r' + 6 < v') (hv : 4 < v) (hv' : 4 < v') (hi : insAt B r' p = insAt A r p) (hok : insOk (insAt A r p)) (h4 : B 4 = A 4) (h : TvE A B v v' T cc) : ∃ cc', cc' ≤ p + 1 ∧ TvE (touch_ A v r (nI p)) (touch_ B v' r' (nI p)) v v' (fun w => T w ∨ tch (insAt A r p) w) cc' := by
  obtain ⟨-, ⟨w, w88, hw⟩, hrd⟩ := hok
  have et : roundsOf_ B 3 (blockOf_ B r' (nI p)) = roundsOf_ A 3 (blockOf_ A r (nI p)) := by
    rw [blockOf_nat h88, blockOf_nat h88, hi]
    unfold roundsOf_
    rw [show B (3 + 1) = A (3 + 1) from h4]
  have k2 := touch2_E h88 hi w88 hw h4 h
  have fA : ∀ z, z < v ∨ v + 8 < z → touch2_ A v r (nI p) z = A z := fun z hz => touch2_fr hz
  have fB : ∀ z, z < v' ∨ v' + 8 < z → touch2_ B v' r' (nI p) z = B z := fun z hz => touch2_fr hz
  unfold touch_
  simp only [et, loopC3]
  generalize roundsOf_ A 3 (blockOf_ A r (nI p)) = t
  generalize touch2_ A v r (nI p) = A0 at k2 fA ⊢
  generalize touch2_ B v' r' (nI p) = B0 at k2 fB ⊢
  have iA : insAt A0 r p = insAt A r p := insAt_fr fun z z1 z2 => fA z (by omega)
  have iB : insAt B0 r' p = insAt A r p := (insAt_fr fun z z1 z2 => fB z (by omega)).trans hi
  have q0 := touchRead_E (r := r) (r' := r') (p := p) (k := 0) (t := t) h88 (by decide) (by rw [iA, iB]) (by rw [iA]; exact hrd 0 (by decide)) k2
  rw [nI_0, iA] at q0
  have fA1 : ∀ z, z < v ∨ v + 8 < z → touchRead_ v r (nI p) t 0 A0 z = A0 z := fun z hz => touchRead_fr hz
  have fB1 : ∀ z, z < v' ∨ v' + 8 < z → touchRead_ v' r' (nI p) t 0 B0 z = B0 z := fun z hz => touchRead_fr hz
  generalize touchRead_ v r (nI p) t 0 A0 = A1 at q0 fA1 ⊢
  generalize touchRead_ v' r' (nI p) t 0 B0 = B1 at q0 fB1 ⊢
  have iA1 : insAt A1 r p = insAt A r p := (insAt_fr fun z z1 z2 => fA1 z (by omega)).trans iA
  have iB1 : insAt B1 r' p = insAt A r p := (insAt_fr fun z z1 z2 => fB1 z (by omega)).trans iB
  have q1 := touchRead_E (r := r) (r' := r') (p := p) (k := 1) (t := t) h88 (by decide) (by rw [iA1, iB1]) (by rw [iA1]; exact hrd 1 (by decide)) q0
  rw [show nI 1 = 1 from rfl, iA1] at q1
  have fA2 : ∀ z, z < v ∨ v + 8 < z → touchRead_ v r (nI p) t 1 A1 z = A1 z := fun z hz => touchRead_fr hz
  have fB2 : ∀ z, z < v' ∨ v' + 8 < z → touchRead_ v' r' (nI p) t 1 B1 z = B1 z := fun z hz => touchRead_fr hz
  generalize touchRead_ v r (nI p) t 1 A1 = A2 at q1 fA2 ⊢
  generalize touchRead_ v' r' (nI p) t 1 B1 = B2 at q1 fB2 ⊢
  have iA2 : insAt A2 r p = insAt A r p := (insAt_fr fun z z1 z2 => fA2 z (by omega)).trans iA1
  have iB2 : insAt B2 r' p = insAt A r p := (insAt_fr fun z z1 z2 => fB2 z (by omega)).trans iB1
  have q2 := touchRead_E (r := r) (r' := r') (p := p) (k := 2) (t := t) h88 (by decide) (by rw [iA2, iB2]) (by rw [iA2]; exact hrd 2 (by decide)) q1
  rw [show nI 2 = 2 from rfl, iA2] at q2
  have fA3 : ∀ z, z < v ∨ v + 8 < z → touchRead_ v r (nI p) t 2 A2 z = A2 z := fun z hz => touchRead_fr hz
  have fB3 : ∀ z, z < v' ∨ v' + 8 < z → touchRead_ v' r' (nI p) t 2 B2 z = B2 z := fun z hz => touchRead_fr hz
  generalize touchRead_ v r (nI p) t 2 A2 = A3 at q2 fA3 ⊢
  generalize touchRead_ v' r' (nI p) t 2 B2 = B3 at q2 fB3 ⊢
  have iA3 : insAt A3 r p = insAt A r p := (insAt_fr fun z z1 z2 => fA3 z (by omega)).trans iA2
  have iB3 : insAt B3 r' p = insAt A r p := (insAt_fr fun z z1 z2 => fB3 z (by omega)).trans iB2
  have q3 : TvE A3 B3 v v' (fun w => T w ∨ tch (insAt A r p) w) cc := TvE_eq q2 fun u hu ht => by
    rcases ht with ht | ht | ht | ht | ht
    · exact Or.inl (Or.inl (Or.inl (Or.inl ht)))
    · exact Or.inl (Or.inl (Or.inl (Or.inr (nI_inj (by omega) (by omega) (ht.symm.trans hw)))))
    · exact Or.inl (Or.inl (Or.inr ht))
    · exact Or.inl (Or.inr ht)
    · exact Or.inr ht
  rw [kindOf_nat h88, kindOf_nat h88, iA3, iB3]
  by_cases c : insAt A r p 0 = 9
  · rw [if_pos c, if_pos c, q3.1.2 2 (by decide), q3.1.1, put88 (by omega), put88 (by omega)]
    refine ⟨cc + 1, by omega, ?_⟩
    rw [up_fr (show v ≠ v + 8 by omega), up_fr (show v' ≠ v' + 8 by omega), q3.1.2 2 (by decide), q3.1.1, ← nI_succ]
    exact TvE_call q3
  · rw [if_neg c, if_neg c]
    exact ⟨cc, by omega, q3⟩
end TvE
theorem measure0_E {I J : im_I} {v v' : Nat} : TvE (measure0_ I v) (measure0_ J v') v v' (fun _ => False) 0 := by
  have e : ∀ (I : im_I) (v : Nat), measure0_ I v = fillL_ (fillL_ (fillL_ (fillL_ (im_up (im_up (im_up I v 0 0) v 1 0) v 2 0) (v + 1) 88 (-1)) (v + 3) 88 0) (v + 5) 88 0) (v + 6) 88 0 := fun _ _ => rfl
  have e0 : ∀ (I : im_I) (v q : Nat), q < 3 → measure0_ I v v q = 0 := fun I v q hq => by
    rw [e, fillL_fr (by omega), fillL_fr (by omega), fillL_fr (by omega), fillL_fr (by omega), up_row, up_row, up_row]
    by_cases c2 : q = 2
    · rw [if_pos c2]
    · rw [if_neg c2]
      by_cases c1 : q = 1
      · rw [if_pos c1]
      · rw [if_neg c1, if_pos (by omega)]
  have er : ∀ (I : im_I) (v w : Nat), w < 88 → measure0_ I v (v + 1) w = -1 ∧ measure0_ I v (v + 3) w = 0 ∧ measure0_ I v (v + 5) w = 0 ∧ measure0_ I v (v + 6) w = 0 := fun I v w hw => by
    refine ⟨?_, ?_, ?_, ?_⟩
    · rw [e, fillL_fr (by omega), fillL_fr (by omega), fillL_fr (by omega), fillL_row (by decide) hw]
    · rw [e, fillL_fr (by omega), fillL_fr (by omega), fillL_row (by decide) hw]
    · rw [e, fillL_fr (by omega), fillL_row (by decide) hw]
    · rw [e, fillL_row (by decide) hw]
  refine ⟨⟨by rw [e0 I v 2 (by decide)]; exact nI_0.symm, fun q hq => by rw [e0 I v q hq, e0 J v' q hq]⟩, fun w hw => ?_, fun w _ h => h.elim, fun k hk => absurd hk (by omega)⟩
  obtain ⟨a1, a2, a3, a4⟩ := er I v w hw
  obtain ⟨b1, b2, b3, b4⟩ := er J v' w hw
  exact ⟨by rw [a1, b1], by rw [a2, b2], by rw [a3, b3], by rw [a4, b4]⟩
theorem measure1_E {I J : im_I} {v v' r r' N : Nat} (hN : I r 0 = nI N) (hN' : J r' 0 = nI N) (h88 : N ≤ 88) (hr : r + 6 < v) (hr' : r' + 6 < v') (hv : 4 < v) (hv' : 4 < v') (hi : ∀ p, p < N → insAt J r' p = insAt I r p) (hok : ∀ p, p < N → insOk (insAt I r p)) (h4 : J 4 = I 4) :
    ∃ cc, cc ≤ N ∧ TvE (measure1_ I v r) (measure1_ J v' r') v v' (fun w => ∃ q, q < N ∧ tch (insAt I r q) w) cc := by
  unfold measure1_
  rw [hN, hN', loopC_nat0 (by omega), loopC_nat0 (by omega)]
  have key := itN_rel (f := fun p J => touch_ J v r (nI p)) (g := fun p J => touch_ J v' r' (nI p)) (n := N) (s := measure0_ I v) (t := measure0_ J v') (fun p A B => (∃ cc, cc ≤ p ∧ TvE A B v v' (fun w => ∃ q, q < p ∧ tch (insAt I r q) w) cc) ∧ (∀ z, z < v ∨ v + 8 < z → A z = I z) ∧ (∀ z, z < v' ∨ v' + 8 < z → B z = J z))
    ⟨⟨0, Nat.le_refl _, TvE_eq measure0_E fun w _ ⟨q, hq, _⟩ => absurd hq (by omega)⟩, fun z hz => measure0_fr hz, fun z hz => measure0_fr hz⟩ (fun p A B hp hAB => by
      obtain ⟨⟨cc, c1, c2⟩, fA, fB⟩ := hAB
      have iA : insAt A r p = insAt I r p := insAt_fr fun z z1 z2 => fA z (by omega)
      have iB : insAt B r' p = insAt I r p := (insAt_fr fun z z1 z2 => fB z (by omega)).trans (hi p hp)
      obtain ⟨cc', d1, d2⟩ := touch_E (r := r) (r' := r') (p := p) (by omega) c1 hr hr' hv hv' (by rw [iA, iB]) (by rw [iA]; exact hok p hp) (by rw [fA 4 (by omega), fB 4 (by omega), h4]) c2
      rw [iA] at d2
      refine ⟨⟨cc', d1, TvE_eq d2 fun w hw ⟨q, q1, q2⟩ => ?_⟩, fun z hz => (touch_fr hz).trans (fA z hz), fun z hz => (touch_fr hz).trans (fB z hz)⟩
      by_cases c : q = p
      · subst c; exact Or.inr q2
      · exact Or.inl ⟨q, by omega, q2⟩)
  exact key.1
