/-! PURE THEORY, ALL STATEMENTS: the instructions as chosen -/
theorem nv_congr {K A B : Nat → Int32} {H H' : Nat → Int32} {nn : Nat} (hp : pgOk K A B nn) (h : ∀ y, y < 8 → H y = H' y) : ∀ (n j : Nat), j < n → j < nn → nv K A B H j = nv K A B H' j := by
  have h80 := hp.1
  intro n
  induction n with
  | zero => intro j hj; omega
  | succ n ih =>
    intro j hj hjn
    rcases hp.2 j hjn with (e | ⟨e, v, hv, ha⟩) | ⟨hk, x, y, hx, hy, ha, hb⟩
    · rw [nv_num e, nv_num e]
    · rw [nv_use e (by omega) ha, nv_use e (by omega) ha, h v hv]
    · rw [nv_op hp hjn hx hy ha hb hk, nv_op hp hjn hx hy ha hb hk, ih x (by omega) (by omega), ih y (by omega) (by omega)]
def ctN (I : im_I) (b : Nat) : Nat := ofN (I 9 b)
def vaN (I : im_I) (b k : Nat) : Nat := ofN (I 10 (24 * b + k))
def roN (I : im_I) (b k : Nat) : Nat := ofN (I 11 (24 * b + k))
def szS (I : im_I) (b k : Nat) : Nat := szP (I 5) (I 6) (I 7) (roN I b k)
def totB (I : im_I) (b : Nat) : Nat := sumTo (fun i => sumTo (szS I i) (ctN I i)) b
/-- the statements, as the program's rows tell them -/
def stOk (I : im_I) (nn : Nat) : Prop := (∀ b, b < 4 → I 9 b = nI (ctN I b) ∧ ctN I b ≤ 24 ∧ ∀ k, k < ctN I b → I 10 (24 * b + k) = nI (vaN I b k) ∧ vaN I b k < 8 ∧ I 11 (24 * b + k) = nI (roN I b k) ∧ roN I b k < nn) ∧ totB I 4 ≤ 80
theorem sumTo_mono {g : Nat → Nat} {a : Nat} : ∀ {n : Nat}, a ≤ n → sumTo g a ≤ sumTo g n
  | 0, h => by rw [show a = 0 by omega]; exact Nat.le_refl _
  | n + 1, h => by
    by_cases c : a = n + 1
    · rw [c]; exact Nat.le_refl _
    · have := sumTo_mono (g := g) (a := a) (n := n) (by omega)
      show _ ≤ sumTo g n + g n
      omega
/-- what the STATEMENTS of a block do to the VARIABLES, k of them -/
def stm (I : im_I) (b k : Nat) (V : Env) : Env := itN (fun i W => upd W (vaN I b i) (nv (I 5) (I 6) (I 7) W (roN I b i))) k V
/-- the lines so far: n of them, values below x, blocks before b and k statements of b; block i begins at s i; e starts are noted -/
def RawI (I J : im_I) (a nn n x : Nat) (s : Nat → Nat) (b k e : Nat) : Prop :=
  (J (a + 27) 0 = nI n ∧ J (a + 1) 11 = nI x ∧ 8 ≤ x ∧ x ≤ 8 + n ∧ n ≤ totB I b + sumTo (szS I b) k) ∧
  (s 0 = 0 ∧ s b ≤ n ∧ (∀ i, i < b → s i ≤ s (i + 1)) ∧ (∀ i, i < e → J (a + 34) i = nI (s i))) ∧
  (∀ p, p < n → arOk (insAt J (a + 27) p 0) (insAt J (a + 27) p 2) (insAt J (a + 27) p 3) (insAt J (a + 27) p 4) ∧ (∃ w, w < x ∧ insAt J (a + 27) p 1 = nI w) ∧ ∀ i, i < 3 → insAt J (a + 27) p (2 + i) = -1 ∨ ∃ y, insAt J (a + 27) p (2 + i) = nI y ∧ (y < 8 ∨ 8 ≤ y ∧ ∃ q, q < p ∧ insAt J (a + 27) q 1 = nI y ∧ insAt J (a + 27) q 6 = insAt J (a + 27) p 6)) ∧
  (∀ p q w, p < n → q < n → insAt J (a + 27) p 1 = nI w → insAt J (a + 27) q 1 = nI w → 8 ≤ w → w < 1000 → p = q) ∧
  (∀ p, p < n → ∃ i, i ≤ b ∧ insAt J (a + 27) p 6 = nI i ∧ s i ≤ p ∧ (i < b → p < s (i + 1))) ∧
  (sumR (fun p => wt (insAt J (a + 27) p)) 0 n ≤ 2 * (totB I b + sumTo (szS I b) k)) ∧
  ((∀ i, i < b → ∀ V : Env, ∀ y, y < 8 → exR (insAt J (a + 27)) (s i) (s (i + 1) - s i) V y = stm I i (ctN I i) V y) ∧ (∀ V : Env, ∀ y, y < 8 → exR (insAt J (a + 27)) (s b) (n - s b) V y = stm I b k V y)) ∧
  (∀ z, z ≠ a + 1 → z < a + 7 ∨ a + 9 < z → z < a + 27 ∨ a + 34 < z → J z = I z)
theorem sumR_add {g : Nat → Nat} {a m : Nat} : ∀ {n : Nat}, sumR g a (m + n) = sumR g a m + sumR g (a + m) n
  | 0 => rfl
  | n + 1 => by
    show sumR g a (m + n + 1) = _
    rw [sumR_s, sumR_s, sumR_add (n := n)]
    rw [show a + (m + n) = a + m + n by omega]
    omega
set_option maxHeartbeats 2000000 in
theorem RawI_stmt {I J : im_I} {a nn n x b k e : Nat} {s : Nat → Nat} (h : RawI I J a nn n x s b k e) (hC : ChOk I (a + 1) nn) (hs : stOk I nn) (ha : 11 < a) (hb : b < 4) (hk : k < ctN I b) : ∃ n' x', RawI I (chooseStatement_ J (a + 1) (a + 27) (nI b) (nI k)) a nn n' x' s b (k + 1) e := by
  obtain ⟨⟨h1, h2, h3, h4, h5⟩, ⟨s1, s2, s3, s4⟩, hR, hU, hB, hW, ⟨hE1, hE2⟩, hF⟩ := h
  obtain ⟨c1, c2, c3⟩ := hs.1 b hb
  obtain ⟨v1, v2, v3, v4⟩ := c3 k hk
  have f5 := hF 5 (by omega) (by omega) (by omega)
  have f6 := hF 6 (by omega) (by omega) (by omega)
  have f7 := hF 7 (by omega) (by omega) (by omega)
  have htot : totB I b + sumTo (szS I b) (k + 1) ≤ 80 := by
    have m1 := sumTo_mono (g := szS I b) (show k + 1 ≤ ctN I b by omega)
    have m2 : totB I (b + 1) ≤ totB I 4 := sumTo_mono (by omega)
    have m3 : totB I (b + 1) = totB I b + sumTo (szS I b) (ctN I b) := rfl
    have := hs.2
    omega
  have hks : sumTo (szS I b) (k + 1) = sumTo (szS I b) k + szS I b k := rfl
  have hCJ : ChOk J (a + 1) nn := ChOk_fr hC fun z hz => hF z (by omega) (by omega) (by omega)
  have hp : placeOf_ (nI b) (nI k) = nI (24 * b + k) := by
    unfold placeOf_
    rw [show (24 : Int32) = nI 24 from rfl, pk_mul, nI_add, Nat.mul_comm]
  have hro : rootOf_ J 3 (nI b) (nI k) = nI (roN I b k) := by
    unfold rootOf_
    rw [hp, at_nat (by omega) (by decide), hF (3 + 8) (by omega) (by omega) (by omega)]
    exact v3
  have hva : variableOf_ J 3 (nI b) (nI k) = nI (vaN I b k) := by
    unfold variableOf_
    rw [hp, at_nat (by omega) (by decide), hF (3 + 7) (by omega) (by omega) (by omega)]
    exact v1
  have hsz : szP (J 5) (J 6) (J 7) (roN I b k) = szS I b k := by rw [f5, f6, f7]; rfl
  obtain ⟨n1, hS⟩ := chooseStatement_R (nn := nn) (q := roN I b k) (var := vaN I b k) hCJ (by omega) (by omega) v4 hro hva v2 h1 h2 h3 (by omega) (by rw [hsz]; omega)
  generalize chooseStatement_ J (a + 1) (a + 27) (nI b) (nI k) = E at hS ⊢
  obtain ⟨⟨t1, t2, t3, -, t5⟩, tE, ⟨tL1, tL2⟩, tX, tW, tO, tF⟩ := hS
  rw [hsz] at t5 tW
  have eo : ∀ p, p < n → insAt E (a + 27) p = insAt J (a + 27) p := tO
  have hwr : ∀ p, n ≤ p → p < n1 → (p + 1 < n1 ∧ insAt E (a + 27) p 1 = nI (x + (p - n))) ∨ (p + 1 = n1 ∧ insAt E (a + 27) p 1 = nI (vaN I b k)) := fun p q1 q2 => by
    by_cases c : p + 1 < n1
    · exact Or.inl ⟨c, (tE p q1 c).1⟩
    · refine Or.inr ⟨by omega, ?_⟩
      have := tL1
      rwa [show n1 - 1 = p by omega] at this
  have hEn : ∀ p, n ≤ p → p < n1 → EntOk (insAt E (a + 27) p) (nI b) x (x + (p - n)) := fun p q1 q2 => by
    by_cases c : p + 1 < n1
    · exact (tE p q1 c).2.2
    · have := tL2
      rw [show n1 - 1 = p by omega] at this
      exact this
  refine ⟨n1, x + (n1 - 1 - n), ⟨t1, t2, by omega, by omega, by omega⟩, ⟨s1, by omega, s3, fun i hi => ?_⟩, fun p hp => ?_, fun p q w hp hq e1 e2 w8 w9 => ?_, fun p hp => ?_, ?_, ⟨fun i hi V y hy => ?_, fun V y hy => ?_⟩, fun z z1 z2 z3 => ?_⟩
  · rw [tF (a + 34) (by omega) (by omega) (by omega) (by omega) (by omega)]
    exact s4 i hi
  · by_cases c : p < n
    · rw [eo p c]
      obtain ⟨r1, ⟨w, r2, r3⟩, r4⟩ := hR p c
      refine ⟨r1, ⟨w, by omega, r3⟩, fun i hi => ?_⟩
      rcases r4 i hi with r | ⟨y, r5, r6 | ⟨r6, q, r7, r8, r9⟩⟩
      · exact Or.inl r
      · exact Or.inr ⟨y, r5, Or.inl r6⟩
      · exact Or.inr ⟨y, r5, Or.inr ⟨r6, q, r7, by rw [eo q (by omega)]; exact r8, by rw [eo q (by omega)]; exact r9⟩⟩
    · obtain ⟨r1, r2, r3, r4⟩ := hEn p (by omega) hp
      refine ⟨r3, ?_, fun i hi => ?_⟩
      · rcases hwr p (by omega) hp with ⟨c1, c2⟩ | ⟨c1, c2⟩
        · exact ⟨_, by omega, c2⟩
        · exact ⟨_, by omega, c2⟩
      · rcases r4 i hi with r | ⟨y, r5, r6 | ⟨r6, r7⟩⟩
        · exact Or.inl r
        · exact Or.inr ⟨y, r5, Or.inl r6⟩
        · refine Or.inr ⟨y, r5, Or.inr ⟨by omega, n + (y - x), by omega, ?_, ?_⟩⟩
          · rcases hwr (n + (y - x)) (by omega) (by omega) with ⟨c1, c2⟩ | ⟨c1, c2⟩
            · rw [c2, show x + (n + (y - x) - n) = y by omega]
            · omega
          · rw [(hEn (n + (y - x)) (by omega) (by omega)).1, r1]
  · have inj : ∀ u v : Nat, u < 2000 → v < 2000 → nI u = nI v → u = v := fun u v hu hv e => nI_inj (by omega) (by omega) e
    by_cases c : p < n
    · rw [eo p c] at e1
      by_cases d : q < n
      · rw [eo q d] at e2
        exact hU p q w c d e1 e2 w8 w9
      · obtain ⟨-, ⟨w', r2, r3⟩, -⟩ := hR p c
        have e3 := inj _ _ (by omega) (by omega) (r3.symm.trans e1)
        rcases hwr q (by omega) hq with ⟨d1, d2⟩ | ⟨d1, d2⟩
        · have := inj _ _ (by omega) (by omega) (d2.symm.trans e2)
          omega
        · have := inj _ _ (by omega) (by omega) (d2.symm.trans e2)
          omega
    · by_cases d : q < n
      · rw [eo q d] at e2
        obtain ⟨-, ⟨w', r2, r3⟩, -⟩ := hR q d
        have e3 := inj _ _ (by omega) (by omega) (r3.symm.trans e2)
        rcases hwr p (by omega) hp with ⟨d1, d2⟩ | ⟨d1, d2⟩
        · have := inj _ _ (by omega) (by omega) (d2.symm.trans e1)
          omega
        · have := inj _ _ (by omega) (by omega) (d2.symm.trans e1)
          omega
      · rcases hwr p (by omega) hp with ⟨d1, d2⟩ | ⟨d1, d2⟩
        · have := inj _ _ (by omega) (by omega) (d2.symm.trans e1)
          rcases hwr q (by omega) hq with ⟨d3, d4⟩ | ⟨d3, d4⟩
          · have := inj _ _ (by omega) (by omega) (d4.symm.trans e2)
            omega
          · have := inj _ _ (by omega) (by omega) (d4.symm.trans e2)
            omega
        · have := inj _ _ (by omega) (by omega) (d2.symm.trans e1)
          omega
  · by_cases c : p < n
    · rw [eo p c]; exact hB p c
    · exact ⟨b, Nat.le_refl _, (hEn p (by omega) hp).1, by omega, fun hh => absurd hh (Nat.lt_irrefl _)⟩
  · have e1 : n1 = n + (n1 - n) := by omega
    rw [e1, sumR_add, sumR_congr (h := fun p => wt (insAt J (a + 27) p)) (fun p q1 q2 => by rw [eo p (by omega)]), Nat.zero_add]
    omega
  · have hmono : ∀ d i, i + d ≤ b → s i ≤ s (i + d) := by
      intro d
      induction d with
      | zero => intro i _; exact Nat.le_refl _
      | succ d ih =>
        intro i hid
        exact Nat.le_trans (ih i (by omega)) (s3 (i + d) (by omega))
    have e1 : s (i + 1) ≤ s b := by
      have := hmono (b - (i + 1)) (i + 1) (by omega)
      rwa [show i + 1 + (b - (i + 1)) = b by omega] at this
    have e2 := s3 i hi
    rw [exR_congr (g := insAt J (a + 27)) (fun p q1 q2 => eo p (by omega))]
    exact hE1 i hi V y hy
  · rw [show n1 - s b = (n - s b) + (n1 - n) by omega, exR_add, show s b + (n - s b) = n by omega, exR_congr (g := insAt J (a + 27)) (n := n - s b) (fun p q1 q2 => eo p (by omega))]
    have e1 : stm I b (k + 1) V = upd (stm I b k V) (vaN I b k) (nv (I 5) (I 6) (I 7) (stm I b k V) (roN I b k)) := rfl
    obtain ⟨x1, x2⟩ := tX (exR (insAt J (a + 27)) (s b) (n - s b) V)
    rw [e1, upd_at]
    by_cases c : y = vaN I b k
    · rw [if_pos c, c, x1, f5, f6, f7]
      exact nv_congr hC.1 (fun z hz => hE2 V z hz) (roN I b k + 1) _ (by omega) v4
    · rw [if_neg c, x2 y (by omega) c]
      exact hE2 V y hy
  · rw [tF z (by omega) (by omega) (by omega) (by omega) (by omega)]
    exact hF z z1 z2 z3
