theorem RawI_put {I J : im_I} {a nn n x b : Nat} {s : Nat → Nat} (h : RawI I J a nn n x s b 0 b) (hs : s b = n) (hb : b < 5) : RawI I (put_ J (a + 34) 5 (nI b) (J (a + 27) 0)) a nn n x s b 0 (b + 1) := by
  obtain ⟨⟨h1, h2, h3, h4, h5⟩, ⟨s1, s2, s3, s4⟩, hR, hU, hB, hW, hE, hF⟩ := h
  rw [put_nat hb (by decide), h1]
  have eR : ∀ p, insAt (im_up J (a + 34) b (nI n)) (a + 27) p = insAt J (a + 27) p := fun p => insAt_fr fun z z1 z2 => up_fr (by omega)
  have eR' : insAt (im_up J (a + 34) b (nI n)) (a + 27) = insAt J (a + 27) := funext eR
  unfold RawI
  rw [eR', up_fr (show a + 27 ≠ a + 34 by omega), up_fr (show a + 1 ≠ a + 34 by omega)]
  refine ⟨⟨h1, h2, h3, h4, h5⟩, ⟨s1, s2, s3, fun i hi => ?_⟩, hR, hU, hB, hW, hE, fun z z1 z2 z3 => ?_⟩
  · rw [up_row]
    by_cases c : i = b
    · rw [if_pos c, c, hs]
    · rw [if_neg c]; exact s4 i (by omega)
  · rw [up_fr (by omega)]; exact hF z z1 z2 z3
theorem RawI_next {I J : im_I} {a nn n x b : Nat} {s : Nat → Nat} (h : RawI I J a nn n x s b (ctN I b) (b + 1)) : RawI I J a nn n x (fun i => if i = b + 1 then n else s i) (b + 1) 0 (b + 1) := by
  obtain ⟨⟨h1, h2, h3, h4, h5⟩, ⟨s1, s2, s3, s4⟩, hR, hU, hB, hW, ⟨hE1, hE2⟩, hF⟩ := h
  have hmono : ∀ d i, i + d ≤ b → s i ≤ s (i + d) := by
    intro d
    induction d with
    | zero => intro i _; exact Nat.le_refl _
    | succ d ih =>
      intro i hid
      exact Nat.le_trans (ih i (by omega)) (s3 (i + d) (by omega))
  have hle : ∀ i, i ≤ b → s i ≤ n := fun i hi => by
    have := hmono (b - i) i (by omega)
    rw [show i + (b - i) = b by omega] at this
    omega
  refine ⟨⟨h1, h2, h3, h4, ?_⟩, ⟨?_, ?_, fun i hi => ?_, fun i hi => ?_⟩, hR, hU, fun p hp => ?_, ?_, ⟨fun i hi V y hy => ?_, fun V y hy => ?_⟩, hF⟩
  · show n ≤ totB I b + sumTo (szS I b) (ctN I b) + 0
    omega
  · show (if 0 = b + 1 then n else s 0) = 0
    rw [if_neg (by omega)]; exact s1
  · show (if b + 1 = b + 1 then n else s (b + 1)) ≤ n
    rw [if_pos rfl]; exact Nat.le_refl _
  · show (if i = b + 1 then n else s i) ≤ (if i + 1 = b + 1 then n else s (i + 1))
    rw [if_neg (by omega)]
    by_cases c : i + 1 = b + 1
    · rw [if_pos c]; exact hle i (by omega)
    · rw [if_neg c]; exact s3 i (by omega)
  · show _ = nI (if i = b + 1 then n else s i)
    rw [if_neg (by omega)]; exact s4 i hi
  · obtain ⟨i, i1, i2, i3, i4⟩ := hB p hp
    refine ⟨i, by omega, i2, ?_, fun hi => ?_⟩
    · show (if i = b + 1 then n else s i) ≤ p
      rw [if_neg (by omega)]; exact i3
    · show p < (if i + 1 = b + 1 then n else s (i + 1))
      by_cases c : i + 1 = b + 1
      · rw [if_pos c]; exact hp
      · rw [if_neg c]; exact i4 (by omega)
  · show _ ≤ 2 * (totB I b + sumTo (szS I b) (ctN I b) + 0)
    exact hW
  · show exR (insAt J (a + 27)) (if i = b + 1 then n else s i) ((if i + 1 = b + 1 then n else s (i + 1)) - (if i = b + 1 then n else s i)) V y = _
    rw [if_neg (show ¬ i = b + 1 by omega)]
    by_cases c : i + 1 = b + 1
    · rw [if_pos c, show i = b by omega]; exact hE2 V y hy
    · rw [if_neg c]; exact hE1 i (by omega) V y hy
  · show exR (insAt J (a + 27)) (if b + 1 = b + 1 then n else s (b + 1)) (n - (if b + 1 = b + 1 then n else s (b + 1))) V y = V y
    rw [if_pos rfl, Nat.sub_self]
    rfl
theorem RawI_block {I J : im_I} {a nn n x b : Nat} {s : Nat → Nat} (h : RawI I J a nn n x s b 0 b) (hsb : s b = n) (hC : ChOk I (a + 1) nn) (hs : stOk I nn) (ha : 11 < a) (hb : b < 4) : ∃ n' x' s', s' (b + 1) = n' ∧ RawI I (chooseBlock_ a (nI b) J) a nn n' x' s' (b + 1) 0 (b + 1) := by
  have h1 := RawI_put h hsb (by omega)
  unfold chooseBlock_
  simp only
  generalize put_ J (a + 34) 5 (nI b) (J (a + 27) 0) = E at h1 ⊢
  have e9 : statementsIn_ E 3 (nI b) = nI (ctN I b) := by
    unfold statementsIn_
    rw [at_nat hb (by decide), h1.2.2.2.2.2.2.2 (3 + 6) (by omega) (by omega) (by omega)]
    exact (hs.1 b hb).1
  have hct := (hs.1 b hb).2.1
  rw [e9, loopC_nat0 (by omega)]
  obtain ⟨n', x', h2⟩ := itN_inv (f := fun k => (fun J => chooseStatement_ J (a + 1) (a + 27) (nI b) (nI k))) (n := ctN I b) (s := E) (fun k J => ∃ n' x', RawI I J a nn n' x' s b k (b + 1)) ⟨n, x, h1⟩ (fun k J hk hJ => by
    obtain ⟨n', x', hJ⟩ := hJ
    exact RawI_stmt hJ hC hs ha hb hk)
  exact ⟨n', x', fun i => if i = b + 1 then n' else s i, if_pos rfl, RawI_next h2⟩
theorem RawI_0 {I : im_I} {a nn : Nat} (ha : 11 < a) (h11 : I (a + 1) 11 = 8) : RawI I (im_up I (a + 27) 0 0) a nn 0 8 (fun _ => 0) 0 0 0 := by
  have e8 : (8 : Int32) = nI 8 := by decide
  refine ⟨⟨by rw [im_up_same]; exact nI_0.symm, by rw [up_fr (by omega), h11]; exact e8, Nat.le_refl _, Nat.le_refl _, Nat.zero_le _⟩, ⟨rfl, Nat.le_refl _, fun i hi => absurd hi (by omega), fun i hi => absurd hi (by omega)⟩, fun p hp => absurd hp (by omega), fun p q w hp => absurd hp (by omega), fun p hp => absurd hp (by omega), Nat.zero_le _, ⟨fun i hi => absurd hi (by omega), fun V y hy => ?_⟩, fun z z1 z2 z3 => up_fr (by omega)⟩
  rw [Nat.sub_self]
  unfold exR stm
  rw [itN_0, itN_0]
theorem chooseAll_nat {I : im_I} {a : Nat} : chooseAll_ I a = put_ (chooseBlock_ a (nI 3) (chooseBlock_ a (nI 2) (chooseBlock_ a (nI 1) (chooseBlock_ a (nI 0) (im_up I (a + 27) 0 0))))) (a + 34) 5 (nI 4) ((chooseBlock_ a (nI 3) (chooseBlock_ a (nI 2) (chooseBlock_ a (nI 1) (chooseBlock_ a (nI 0) (im_up I (a + 27) 0 0))))) (a + 27) 0) := by
  have g0 : (0 : Int32) = nI 0 := nI_0.symm
  have g1 : (1 : Int32) = nI 1 := by decide
  have g2 : (2 : Int32) = nI 2 := by decide
  have g3 : (3 : Int32) = nI 3 := by decide
  have g4 : (4 : Int32) = nI 4 := by decide
  unfold chooseAll_
  rw [loopC4, ← g0, ← g1, ← g2, ← g3, ← g4]
theorem chooseAll_R {I : im_I} {a nn : Nat} (hC : ChOk I (a + 1) nn) (hs : stOk I nn) (ha : 11 < a) (h11 : I (a + 1) 11 = 8) : ∃ n x s, s 4 = n ∧ RawI I (chooseAll_ I a) a nn n x s 4 0 5 := by
  have h0 := RawI_0 (nn := nn) ha h11
  obtain ⟨n1, x1, s1, q1, h1⟩ := RawI_block h0 rfl hC hs ha (by decide)
  obtain ⟨n2, x2, s2, q2, h2⟩ := RawI_block h1 q1 hC hs ha (by decide)
  obtain ⟨n3, x3, s3, q3, h3⟩ := RawI_block h2 q2 hC hs ha (by decide)
  obtain ⟨n4, x4, s4, q4, h4⟩ := RawI_block h3 q3 hC hs ha (by decide)
  refine ⟨n4, x4, s4, q4, ?_⟩
  rw [chooseAll_nat]
  exact RawI_put h4 q4 (by decide)
