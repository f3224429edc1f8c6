/-- how many instructions a run has -/
def stepsN (e : Nat) (w tm : Nat → Nat) (b : Nat) : Nat := e + sumTo (fun i => tm i * w i) b
section Tm2
variable {K : im_I} {a m c R len : Nat}
theorem goThrough_time {J : im_I} {f t n B : Nat} (hJ : RunOf K J a) (hft : f ≤ t) (ht : t ≤ len) (hlen : len ≤ 528) (hk : KdOk K c len) (hl : LatOk K m) (hR : K m 0 = nI R) (hR1 : 1 ≤ R) (hR11 : R ≤ 11) (hc : c + 4 < a ∨ a + 4 < c) (hm : m + 1 < a ∨ a + 4 < m) (hn : n + (t - f) < 100000) (H : TmI J a n B) : ∃ B', TmI (goThrough_ J a m c (nI f) (nI t)) a (n + (t - f)) B' := by
  unfold goThrough_
  rw [loopC_nat (by omega) (by omega)]
  have key := itN_inv (f := fun i => runStep_ a m c (nI (f + i))) (n := t - f) (s := J) (fun i E => RunOf K E a ∧ ∃ B', TmI E a (n + i) B') ⟨hJ, B, H⟩ (fun i E hi hE => by
    obtain ⟨h1, B1, h2⟩ := hE
    refine ⟨fun z hz => (runStep_fr hz).trans (h1 z hz), ?_⟩
    have hlE : LatOk E m := fun j hj => by
      rw [h1 (m + 1) (by omega)]; exact hl j hj
    obtain ⟨B2, h3⟩ := runStep_time (J := E) (k := f + i) (by omega) hc hm hlE (by rw [h1 m (by omega)]; exact hR) hR1 hR11 (by rw [h1 (c + 1) (by omega)]; exact hk (f + i) (by omega)) (by omega) h2
    exact ⟨B2, h3⟩)
  exact key.2
theorem go0_time {J : im_I} (h : J = go0_ K a) : TmI J a 0 0 := by
  subst h
  have e : go0_ K a = fillL_ (fillL_ (fillL_ (fillL_ (im_up (im_up (im_up (im_up K a 0 0) a 1 0) a 2 0) a 9 (-1)) (a + 1) 528 (-1)) (a + 2) 11 0) (a + 3) 88 0) (a + 4) 11 0 := rfl
  have ea : go0_ K a a = im_up (im_up (im_up (im_up K a 0 0) a 1 0) a 2 0) a 9 (-1) a := by rw [e, fillL_fr (by omega), fillL_fr (by omega), fillL_fr (by omega), fillL_fr (by omega)]
  refine ⟨⟨Nat.le_refl _, by omega, ?_, ?_, ?_⟩, fun _ => ?_, fun h => absurd h (by omega), fun j hj => ⟨0, ?_, by omega⟩⟩
  · rw [ea, up_ne (by decide), up_ne (by decide), up_ne (by decide), im_up_same]; exact nI_0.symm
  · rw [ea, im_up_same]; decide
  · rw [ea, up_ne (by decide), im_up_same]; exact nI_0.symm
  · rw [ea, up_ne (by decide), up_ne (by decide), im_up_same]
  · rw [e, fillL_row (by decide) hj]; exact nI_0.symm
/-- the whole run: w b is the length of block b's code, e the ENTRY's -/
theorem go_time {x e : Nat} {f tm : Nat → Nat} (hlen : len ≤ 528) (hk : KdOk K c len) (hl : LatOk K m) (hR : K m 0 = nI R) (hR1 : 1 ≤ R) (hR11 : R ≤ 11) (hc : c + 4 < a ∨ a + 4 < c) (hm : m + 1 < a ∨ a + 4 < m) (hx : x < a ∨ a + 4 < x) (h4 : 4 < a)
    (hso : ∀ b, b < 5 → startOf_ K c (at_ (K x) 5 (nI b)) = nI (f b)) (hf : ∀ b, b < 4 → f b ≤ f (b + 1)) (hf4 : f 4 ≤ len) (ht : ∀ b, b < 4 → K 4 b = nI (tm b) ∧ tm b ≤ 9) : ∃ B, TmI (go_ K a m c x 5) a (stepsN (f 0) (fun b => f (b + 1) - f b) tm 4) B := by
  have f01 : f 0 ≤ f 1 := hf 0 (by decide)
  have f12 : f 1 ≤ f 2 := hf 1 (by decide)
  have f23 : f 2 ≤ f 3 := hf 2 (by decide)
  have f34 : f 3 ≤ f 4 := hf 3 (by decide)
  have hfl : ∀ b, b ≤ 4 → f b ≤ len := fun b hb => by
    match b, hb with
    | 0, _ => omega
    | 1, _ => omega
    | 2, _ => omega
    | 3, _ => omega
    | 4, _ => omega
  have h0 : RunOf K (go0_ K a) a := fun z hz => go0_fr hz
  have hg : ∀ (J : im_I) (f t : Int32), RunOf K J a → RunOf K (goThrough_ J a m c f t) a := fun J f t hJ z hz => (goThrough_fr hz).trans (hJ z hz)
  have hsoJ : ∀ J : im_I, RunOf K J a → ∀ b, b < 5 → startOf_ J c (at_ (J x) 5 (nI b)) = nI (f b) := fun J hJ b hb => by
    rw [hJ x hx]
    have := hso b hb
    unfold startOf_ at this ⊢
    rw [hJ (c + 4) (by omega)]
    exact this
  have e1 : go_ K a m c x 5 = loopC 0 4 (goBlock_ a m c x 5) (goThrough_ (go0_ K a) a m c 0 (startOf_ (go0_ K a) c (at_ (go0_ K a x) 5 0))) := rfl
  rw [e1, show at_ (go0_ K a x) 5 0 = at_ (go0_ K a x) 5 (nI 0) by rw [nI_0], hsoJ _ h0 0 (by decide)]
  have hfl0 := hfl 0 (by decide)
  have e2 := goThrough_time (f := 0) (t := f 0) h0 (Nat.zero_le _) hfl0 hlen hk hl hR hR1 hR11 hc hm (by omega) (go0_time (K := K) (a := a) rfl)
  rw [nI_0, Nat.zero_add, Nat.sub_zero] at e2
  rw [show (4 : Int32) = nI 4 by decide, loopC_nat0 (by decide)]
  have h1 := hg (go0_ K a) 0 (nI (f 0)) h0
  generalize goThrough_ (go0_ K a) a m c 0 (nI (f 0)) = J1 at h1 e2 ⊢
  have hw : ∀ i, i < 4 → tm i * (f (i + 1) - f i) ≤ 9 * 528 := fun i hi => Nat.mul_le_mul (ht i hi).2 (by have := hfl (i + 1) (by omega); omega)
  have hsum : ∀ b, b ≤ 4 → sumTo (fun i => tm i * (f (i + 1) - f i)) b ≤ b * (9 * 528) := by
    intro b
    induction b with
    | zero => intro _; exact Nat.zero_le _
    | succ b ih =>
      intro hb
      have h1 := ih (by omega)
      have h2 := hw b (by omega)
      show sumTo (fun i => tm i * (f (i + 1) - f i)) b + tm b * (f (b + 1) - f b) ≤ _
      omega
  have key : ∀ b, b ≤ 4 → RunOf K (itN (fun j => goBlock_ a m c x 5 (nI j)) b J1) a ∧ ∃ B, TmI (itN (fun j => goBlock_ a m c x 5 (nI j)) b J1) a (stepsN (f 0) (fun b => f (b + 1) - f b) tm b) B := by
    intro b
    induction b with
    | zero => intro _; exact ⟨h1, e2⟩
    | succ b ih =>
      intro hb
      obtain ⟨i1, B1, i2⟩ := ih (by omega)
      rw [itN_s]
      have hs1 := hsum b (by omega)
      have hw1 := hw b (by omega)
      have es : stepsN (f 0) (fun b => f (b + 1) - f b) tm (b + 1) = stepsN (f 0) (fun b => f (b + 1) - f b) tm b + tm b * (f (b + 1) - f b) := (Nat.add_assoc _ _ _).symm
      have hb0 : stepsN (f 0) (fun b => f (b + 1) - f b) tm b ≤ 528 + b * (9 * 528) := by
        show f 0 + sumTo (fun i => tm i * (f (i + 1) - f i)) b ≤ _
        omega
      rw [es]
      generalize stepsN (f 0) (fun b => f (b + 1) - f b) tm b = n0 at i2 hb0 ⊢
      generalize itN (fun j => goBlock_ a m c x 5 (nI j)) b J1 = E at i1 i2 ⊢
      unfold goBlock_
      have er : roundsOf_ E 3 (nI b) = nI (tm b) := by
        unfold roundsOf_
        rw [if_neg (nI_m1 (by omega)), at_nat (by omega) (by decide), i1 (3 + 1) (by omega)]
        exact (ht b (by omega)).1
      have htb := (ht b (by omega)).2
      rw [hsoJ E i1 b (by omega), ← nI_succ, hsoJ E i1 (b + 1) (by omega), er]
      simp only
      rw [loopC_nat0 (by omega)]
      have hfb := hf b (by omega)
      have hfb1 := hfl (b + 1) (by omega)
      have k2 : ∀ n, n ≤ tm b → RunOf K (itN (fun _ K => goThrough_ K a m c (nI (f b)) (nI (f (b + 1)))) n E) a ∧ ∃ B, TmI (itN (fun _ K => goThrough_ K a m c (nI (f b)) (nI (f (b + 1)))) n E) a (n0 + n * (f (b + 1) - f b)) B := by
        intro n
        induction n with
        | zero => intro _; rw [Nat.zero_mul]; exact ⟨i1, B1, i2⟩
        | succ n ihn =>
          intro hn
          obtain ⟨j1, B2, j2⟩ := ihn (by omega)
          rw [itN_s]
          have hmul : n * (f (b + 1) - f b) ≤ 9 * 528 := Nat.mul_le_mul (by omega) (by omega)
          obtain ⟨B3, j3⟩ := goThrough_time (f := f b) (t := f (b + 1)) j1 hfb hfb1 hlen hk hl hR hR1 hR11 hc hm (by omega) j2
          refine ⟨hg _ _ _ j1, B3, ?_⟩
          rw [Nat.succ_mul, ← Nat.add_assoc]
          exact j3
      exact k2 (tm b) (Nat.le_refl _)
  exact (key 4 (Nat.le_refl _)).2
end Tm2
