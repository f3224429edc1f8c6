/-! PURE THEORY, LIVES: what the points touch -/
theorem max_nat {a b : Nat} (ha : a < 2 ^ 31) (hb : b < 2 ^ 31) : max_ (nI a) (nI b) = nI (max a b) := by
  unfold max_
  by_cases c : a < b
  · rw [if_pos (nI_lt c hb), Nat.max_eq_right (by omega)]
  · rw [if_neg (nI_nlt (by omega) ha), Nat.max_eq_left (by omega)]
/-- a touched value: its last point, and below the count -/
def TV (J : im_I) (v : Nat) (T : Nat → Nat → Prop) : Prop := (∃ c, c ≤ 88 ∧ J v 0 = nI c ∧ ∀ q w, T q w → w < c) ∧ (∀ q w, T q w → ∃ l, J (v + 2) w = nI l ∧ T l w ∧ q ≤ l)
theorem TV_fr {I J : im_I} {v : Nat} {T : Nat → Nat → Prop} (h : TV I v T) (h0 : J v 0 = I v 0) (h2 : J (v + 2) = I (v + 2)) : TV J v T := by
  unfold TV
  rw [h0, h2]
  exact h
theorem TV_eq {J : im_I} {v : Nat} {T T' : Nat → Nat → Prop} (h : TV J v T) (e : ∀ q w, T q w ↔ T' q w) : TV J v T' := by
  have : T = T' := by funext q w; exact propext (e q w)
  rw [← this]; exact h
theorem touchValue_TV {J : im_I} {v p w0 : Nat} {T : Nat → Nat → Prop} {t : Int32} (h : TV J v T) (hp : ∀ q w, T q w → q ≤ p) (hw : w0 < 88) : TV (touchValue_ J v (nI w0) (nI p) t) v (fun q w => T q w ∨ q = p ∧ w = w0) ∧ (∀ z, z ≠ v → z ≠ v + 2 → z ≠ v + 3 → touchValue_ J v (nI w0) (nI p) t z = J z) ∧ (∀ q, q ≠ 0 → touchValue_ J v (nI w0) (nI p) t v q = J v q) := by
  obtain ⟨⟨c, c1, c2, c3⟩, h2⟩ := h
  have e : touchValue_ J v (nI w0) (nI p) t = im_up (im_up (im_up J v 0 (nI (max c (w0 + 1)))) (v + 2) w0 (nI p)) (v + 3) w0 (at_ (im_up (im_up J v 0 (nI (max c (w0 + 1)))) (v + 2) w0 (nI p) (v + 3)) 88 (nI w0) + t) := by
    unfold touchValue_
    rw [c2, ← nI_succ, max_nat (by omega) (by omega), put88 hw, put88 hw]
  rw [e]
  generalize at_ (im_up (im_up J v 0 (nI (max c (w0 + 1)))) (v + 2) w0 (nI p) (v + 3)) 88 (nI w0) + t = u
  refine ⟨⟨⟨max c (w0 + 1), by omega, ?_, fun q w hq => ?_⟩, fun q w hq => ?_⟩, fun z z1 z2 z3 => ?_, fun q hq => ?_⟩
  · rw [up_fr (by omega), up_fr (by omega), im_up_same]
  · rcases hq with hq | ⟨-, hq⟩
    · have := c3 q w hq; omega
    · omega
  · rw [up_fr (by omega), up_row]
    by_cases d : w = w0
    · rw [if_pos d]
      refine ⟨p, rfl, Or.inr ⟨rfl, d⟩, ?_⟩
      rcases hq with hq | ⟨hq, -⟩
      · exact hp q w hq
      · omega
    · rw [if_neg d, show im_up J v 0 (nI (max c (w0 + 1))) (v + 2) = J (v + 2) from up_fr (by omega)]
      rcases hq with hq | ⟨-, hq⟩
      · obtain ⟨l, l1, l2, l3⟩ := h2 q w hq
        exact ⟨l, l1, Or.inl l2, l3⟩
      · exact absurd hq d
  · rw [up_fr z3, up_fr z2, up_fr z1]
  · rw [up_fr (by omega), up_fr (by omega), up_ne hq]
/-- a read, or none -/
def rdT (x : Int32) (w : Nat) : Prop := x = nI w
theorem touchRead_TV {J : im_I} {v r p k : Nat} {T : Nat → Nat → Prop} {t : Int32} (h : TV J v T) (hp : ∀ q w, T q w → q ≤ p) (h88 : p < 88) (hk : k < 3) (hx : insAt J r p (2 + k) = -1 ∨ ∃ y, y < 88 ∧ insAt J r p (2 + k) = nI y) (hT : ∀ q w, T q w → w < 88) : TV (touchRead_ v r (nI p) t (nI k) J) v (fun q w => T q w ∨ q = p ∧ w < 88 ∧ insAt J r p (2 + k) = nI w) ∧ (∀ z, z ≠ v → z ≠ v + 2 → z ≠ v + 3 → z ≠ v + 6 → touchRead_ v r (nI p) t (nI k) J z = J z) ∧ (∀ q, q ≠ 0 → touchRead_ v r (nI p) t (nI k) J v q = J v q) := by
  unfold touchRead_
  simp only [readBy_nat h88 hk]
  rcases hx with e | ⟨y, hy, e⟩
  · rw [if_pos e]
    exact ⟨TV_eq h fun q w => ⟨Or.inl, fun hh => hh.elim id fun ⟨_, w8, e2⟩ => absurd (e2.symm.trans e) (nI_m1 (by omega))⟩, fun z _ _ _ _ => rfl, fun q _ => rfl⟩
  · rw [e, if_neg (nI_m1 (by omega)), put88 hy]
    generalize at_ (J (v + 6)) 88 (nI y) + 1 = u
    obtain ⟨g1, g2, g3⟩ := touchValue_TV (J := im_up J (v + 6) y u) (t := t) (w0 := y) (TV_fr h (by rw [up_fr (by omega)]) (up_fr (by omega))) hp hy
    refine ⟨TV_eq g1 fun q w => ⟨?_, ?_⟩, fun z z1 z2 z3 z6 => (g2 z z1 z2 z3).trans (up_fr z6), fun q hq => by rw [g3 q hq, up_fr (by omega)]⟩
    · rintro (h | ⟨h1, h2⟩)
      · exact Or.inl h
      · exact Or.inr ⟨h1, by omega, by rw [h2]⟩
    · rintro (h | ⟨h1, h2, h3⟩)
      · exact Or.inl h
      · exact Or.inr ⟨h1, (nI_inj (by omega) (by omega) h3).symm⟩
def tch (x : Ins) (w : Nat) : Prop := x 1 = nI w ∨ rdS x (nI w)
/-- how many of the points before i write w -/
def wcN (R : Nat → Ins) (w : Nat) : Nat → Nat
  | 0 => 0
  | i + 1 => wcN R w i + if R i 1 = nI w then 1 else 0
/-- LIVES' state before point i -/
def TsI (I J : im_I) (v r i : Nat) : Prop :=
  TV J v (fun q w => q < i ∧ w < 88 ∧ tch (insAt I r q) w) ∧
  (∀ w, w < 88 → (J (v + 1) w = -1 ∧ ∀ q, q < i → insAt I r q 1 ≠ nI w) ∨ ∃ p, p < i ∧ J (v + 1) w = nI p ∧ insAt I r p 1 = nI w ∧ ∀ q, q < p → insAt I r q 1 ≠ nI w) ∧
  (∀ w, w < 88 → J (v + 5) w = nI (wcN (insAt I r) w i)) ∧
  (∃ cc, cc ≤ i ∧ J v 2 = nI cc ∧ (∀ k, k < cc → ∃ q, q < i ∧ J (v + 8) k = nI q) ∧ ∀ q, q < i → insAt I r q 0 = 9 → ∃ k, k < cc ∧ J (v + 8) k = nI q) ∧ (J v 1 = 0) ∧ (∀ z, z < v ∨ v + 8 < z → J z = I z)
theorem TsI_step {I J : im_I} {v r i : Nat} (h : TsI I J v r i) (hr : r + 6 < v) (hi : i < 88) (hok : insOk (insAt I r i)) : TsI I (touch_ J v r (nI i)) v r (i + 1) := by
  obtain ⟨h1, h2, h3, ⟨cc, c1, c2, c3, c4⟩, h5, h6⟩ := h
  obtain ⟨ar, ⟨w, w88, hw⟩, hrd⟩ := hok
  have eR : ∀ K : im_I, (∀ z, z < v ∨ v + 8 < z → K z = J z) → ∀ p, insAt K r p = insAt I r p := fun K hK p => insAt_fr fun z z1 z2 => (hK z (by omega)).trans (h6 z (by omega))
  have eJ : ∀ p, insAt J r p = insAt I r p := eR J (fun z _ => rfl)
  -- touch1
  have f1 : ∀ z, z ≠ v + 1 → touch1_ J v r (nI i) z = J z := fun z hz => by
    unfold touch1_
    split
    · exact put_fr hz
    · rfl
  have g1 : ∀ u, u < 88 → touch1_ J v r (nI i) (v + 1) u = if u = w ∧ J (v + 1) w = -1 then nI i else J (v + 1) u := fun u hu => by
    unfold touch1_
    simp only [writtenBy_nat hi, eJ, hw, at88 w88, put88 w88]
    by_cases c : J (v + 1) w = -1
    · rw [if_pos c, up_row]
      by_cases d : u = w
      · rw [if_pos d, if_pos ⟨d, c⟩]
      · rw [if_neg d, if_neg (fun e => d e.1)]
    · rw [if_neg c, if_neg (fun e => c e.2)]
  -- touch2
  have hT : ∀ q u, (q < i ∧ u < 88 ∧ tch (insAt I r q) u) → q ≤ i := fun q u hq => by omega
  have e2 : touch2_ J v r (nI i) = touchValue_ (im_up (touch1_ J v r (nI i)) (v + 5) w (J (v + 5) w + 1)) v (nI w) (nI i) (roundsOf_ J 3 (blockOf_ J r (nI i))) := by
    unfold touch2_
    simp only [writtenBy_nat hi, eJ, hw, put88 w88, at88 w88]
    rw [f1 (v + 5) (by omega)]
  obtain ⟨t1, t2, t3⟩ := touchValue_TV (J := im_up (touch1_ J v r (nI i)) (v + 5) w (J (v + 5) w + 1)) (v := v) (p := i) (w0 := w) (t := roundsOf_ J 3 (blockOf_ J r (nI i))) (TV_fr h1 (by rw [up_fr (by omega), f1 v (by omega)]) (by rw [up_fr (by omega), f1 (v + 2) (by omega)])) hT w88
  rw [← e2] at t1 t2 t3
  generalize ht : roundsOf_ J 3 (blockOf_ J r (nI i)) = t at t1 t2 t3 e2
  have eA : ∀ p, insAt (touch2_ J v r (nI i)) r p = insAt I r p := eR _ fun z hz => (t2 z (by omega) (by omega) (by omega)).trans ((up_fr (by omega)).trans (f1 z (by omega)))
  generalize hK0 : touch2_ J v r (nI i) = K0 at *
  obtain ⟨a1, a2, a3⟩ := touchRead_TV (J := K0) (v := v) (r := r) (p := i) (k := 0) (t := t) t1 (fun q u hq => by rcases hq with hq | hq <;> omega) hi (by decide) (by rw [eA]; exact hrd 0 (by decide)) (fun q u hq => by rcases hq with hq | hq <;> omega)
  generalize hK1 : touchRead_ v r (nI i) t (nI 0) K0 = K1 at *
  have eA1 : ∀ p, insAt K1 r p = insAt I r p := fun p => (insAt_fr fun z z1 z2 => a2 z (by omega) (by omega) (by omega) (by omega)).trans (eA p)
  rw [eA] at a1
  obtain ⟨b1, b2, b3⟩ := touchRead_TV (J := K1) (v := v) (r := r) (p := i) (k := 1) (t := t) a1 (fun q u hq => by rcases hq with (hq | hq) | hq <;> omega) hi (by decide) (by rw [eA1]; exact hrd 1 (by decide)) (fun q u hq => by rcases hq with (hq | hq) | hq <;> omega)
  generalize hK2 : touchRead_ v r (nI i) t (nI 1) K1 = K2 at *
  have eA2 : ∀ p, insAt K2 r p = insAt I r p := fun p => (insAt_fr fun z z1 z2 => b2 z (by omega) (by omega) (by omega) (by omega)).trans (eA1 p)
  rw [eA1] at b1
  obtain ⟨d1, d2, d3⟩ := touchRead_TV (J := K2) (v := v) (r := r) (p := i) (k := 2) (t := t) b1 (fun q u hq => by rcases hq with ((hq | hq) | hq) | hq <;> omega) hi (by decide) (by rw [eA2]; exact hrd 2 (by decide)) (fun q u hq => by rcases hq with ((hq | hq) | hq) | hq <;> omega)
  generalize hK3 : touchRead_ v r (nI i) t (nI 2) K2 = K3 at *
  have eA3 : ∀ p, insAt K3 r p = insAt I r p := fun p => (insAt_fr fun z z1 z2 => d2 z (by omega) (by omega) (by omega) (by omega)).trans (eA2 p)
  rw [eA2] at d1
  have fK : ∀ z, z ≠ v → z ≠ v + 1 → z ≠ v + 2 → z ≠ v + 3 → z ≠ v + 5 → z ≠ v + 6 → K3 z = J z := fun z z0 z1 z2 z3 z5 z6 =>
    (d2 z z0 z2 z3 z6).trans ((b2 z z0 z2 z3 z6).trans ((a2 z z0 z2 z3 z6).trans ((t2 z z0 z2 z3).trans ((up_fr z5).trans (f1 z z1)))))
  have fv : ∀ q, q ≠ 0 → K3 v q = J v q := fun q hq => by rw [d3 q hq, b3 q hq, a3 q hq, t3 q hq, up_fr (by omega), f1 v (by omega)]
  have f5 : K3 (v + 5) = im_up J (v + 5) w (J (v + 5) w + 1) (v + 5) := by
    rw [d2 _ (by omega) (by omega) (by omega) (by omega), b2 _ (by omega) (by omega) (by omega) (by omega), a2 _ (by omega) (by omega) (by omega) (by omega), t2 _ (by omega) (by omega) (by omega)]
    funext u
    rw [up_row, up_row, f1 (v + 5) (by omega)]
  have ff : K3 (v + 1) = touch1_ J v r (nI i) (v + 1) := by
    rw [d2 _ (by omega) (by omega) (by omega) (by omega), b2 _ (by omega) (by omega) (by omega) (by omega), a2 _ (by omega) (by omega) (by omega) (by omega), t2 _ (by omega) (by omega) (by omega), up_fr (by omega)]
  have hTV : TV K3 v (fun q u => q < i + 1 ∧ u < 88 ∧ tch (insAt I r q) u) := TV_eq d1 fun q u => by
    constructor
    · rintro (((((⟨x1, x2, x3⟩ | ⟨x1, x2⟩) | ⟨x1, x2, x3⟩) | ⟨x1, x2, x3⟩)) | ⟨x1, x2, x3⟩)
      · exact ⟨by omega, x2, x3⟩
      · subst x1; subst x2; exact ⟨by omega, w88, Or.inl hw⟩
      · subst x1; exact ⟨by omega, x2, Or.inr (Or.inl x3)⟩
      · subst x1; exact ⟨by omega, x2, Or.inr (Or.inr (Or.inl x3))⟩
      · subst x1; exact ⟨by omega, x2, Or.inr (Or.inr (Or.inr x3))⟩
    · rintro ⟨x1, x2, x3⟩
      by_cases c : q = i
      · subst c
        rcases x3 with x3 | x3 | x3 | x3
        · exact Or.inl (Or.inl (Or.inl (Or.inr ⟨rfl, nI_inj (by omega) (by omega) (x3.symm.trans hw)⟩)))
        · exact Or.inl (Or.inl (Or.inr ⟨rfl, x2, x3⟩))
        · exact Or.inl (Or.inr ⟨rfl, x2, x3⟩)
        · exact Or.inr ⟨rfl, x2, x3⟩
      · exact Or.inl (Or.inl (Or.inl (Or.inl ⟨by omega, x2, x3⟩)))
  have e3 : loopC 0 3 (touchRead_ v r (nI i) t) K0 = K3 := by
    rw [loopC3, show (0 : Int32) = nI 0 from nI_0.symm, hK1, show (1 : Int32) = nI 1 by decide, hK2, show (2 : Int32) = nI 2 by decide, hK3]
  have hfirst : ∀ u, u < 88 → (K3 (v + 1) u = -1 ∧ ∀ q, q < i + 1 → insAt I r q 1 ≠ nI u) ∨ ∃ p, p < i + 1 ∧ K3 (v + 1) u = nI p ∧ insAt I r p 1 = nI u ∧ ∀ q, q < p → insAt I r q 1 ≠ nI u := fun u hu => by
    rw [ff, g1 u hu]
    rcases h2 u hu with ⟨y1, y2⟩ | ⟨p, y1, y2, y3, y4⟩
    · by_cases c : u = w
      · subst c
        rw [if_pos ⟨rfl, y1⟩]
        exact Or.inr ⟨i, by omega, rfl, hw, y2⟩
      · rw [if_neg (fun e => c e.1)]
        refine Or.inl ⟨y1, fun q hq => ?_⟩
        by_cases d : q = i
        · subst d
          rw [hw]
          exact fun e => c (nI_inj (by omega) (by omega) e).symm
        · exact y2 q (by omega)
    · have hne : J (v + 1) u ≠ -1 := by rw [y2]; exact nI_m1 (by omega)
      rw [if_neg (by rintro ⟨e, e'⟩; subst e; exact hne e')]
      exact Or.inr ⟨p, by omega, y2, y3, y4⟩
  have hwc : ∀ u, u < 88 → K3 (v + 5) u = nI (wcN (insAt I r) u (i + 1)) := fun u hu => by
    rw [f5, up_row]
    show _ = nI (wcN (insAt I r) u i + if insAt I r i 1 = nI u then 1 else 0)
    by_cases c : u = w
    · subst c
      rw [if_pos rfl, if_pos hw, h3 u hu, nI_succ]
    · rw [if_neg c, if_neg (by rw [hw]; exact fun e => c (nI_inj (by omega) (by omega) e).symm), h3 u hu]
      rfl
  unfold touch_
  rw [hK0, ht, e3]
  simp only
  rw [kindOf_nat hi, eA3]
  by_cases c : insAt I r i 0 = 9
  · rw [if_pos c, fv 2 (by decide), c2, put88 (by omega), show im_up K3 (v + 8) cc (nI i) v = K3 v from up_fr (by omega), fv 2 (by decide), c2, ← nI_succ]
    refine ⟨TV_fr hTV (by rw [up_ne (by decide), up_fr (by omega)]) (by rw [up_fr (by omega), up_fr (by omega)]), fun u hu => ?_, fun u hu => ?_, ⟨cc + 1, by omega, im_up_same, fun k hk => ?_, fun q hq hq9 => ?_⟩, ?_, fun z hz => ?_⟩
    · rw [up_fr (by omega), up_fr (by omega)]; exact hfirst u hu
    · rw [up_fr (by omega), up_fr (by omega)]; exact hwc u hu
    · rw [up_fr (by omega), up_row]
      by_cases d : k = cc
      · rw [if_pos d]; exact ⟨i, by omega, rfl⟩
      · rw [if_neg d, fK _ (by omega) (by omega) (by omega) (by omega) (by omega) (by omega)]
        obtain ⟨q, q1, q2⟩ := c3 k (by omega)
        exact ⟨q, by omega, q2⟩
    · rw [up_fr (by omega)]
      by_cases d : q = i
      · exact ⟨cc, by omega, by rw [im_up_same, d]⟩
      · obtain ⟨k, k1, k2⟩ := c4 q (by omega) hq9
        exact ⟨k, by omega, by rw [up_ne (by omega), fK _ (by omega) (by omega) (by omega) (by omega) (by omega) (by omega)]; exact k2⟩
    · rw [up_ne (by decide), up_fr (by omega), fv 1 (by decide)]; exact h5
    · rw [up_fr (by omega), up_fr (by omega), fK z (by omega) (by omega) (by omega) (by omega) (by omega) (by omega)]; exact h6 z hz
  · rw [if_neg c]
    refine ⟨hTV, hfirst, hwc, ⟨cc, by omega, by rw [fv 2 (by decide)]; exact c2, fun k hk => ?_, fun q hq hq9 => ?_⟩, by rw [fv 1 (by decide)]; exact h5, fun z hz => (fK z (by omega) (by omega) (by omega) (by omega) (by omega) (by omega)).trans (h6 z hz)⟩
    · obtain ⟨q, q1, q2⟩ := c3 k hk
      exact ⟨q, by omega, by rw [fK _ (by omega) (by omega) (by omega) (by omega) (by omega) (by omega)]; exact q2⟩
    · by_cases d : q = i
      · subst d; exact absurd hq9 c
      · obtain ⟨k, k1, k2⟩ := c4 q (by omega) hq9
        exact ⟨k, k1, by rw [fK _ (by omega) (by omega) (by omega) (by omega) (by omega) (by omega)]; exact k2⟩
