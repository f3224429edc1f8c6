/-! PURE THEORY, THE RUN: all lines -/
def fiN (I : im_I) (a w : Nat) : Nat := ofN (I (a + 18) w)
def laN (I : im_I) (a w : Nat) : Nat := ofN (I (a + 19) w)
def bornN (I : im_I) (a N w : Nat) : Prop := w < 88 ∧ ∃ q, q < N ∧ insAt I (a + 10) q 1 = nI w
/-- what is known of a plan and its homes -/
def WkOk (I : im_I) (a h m N R : Nat) (st : Nat → Nat) : Prop := LnOk I a N st ∧ LvOk I a N st ∧ HmOk I h (a + 17) (a + 10) m N R (fiN I a) (laN I a) (bornN I a N)
/-- the values that are claimed have their homes filled -/
def SimI (I : im_I) (a h N : Nat) (Cl : Nat → Prop) (V : Env) (σ : RS) (p : Nat) : Prop := ∀ w, bornN I a N w → fiN I a w < p → p ≤ laN I a w → Cl w → homeV I h σ w = V w
section S4
variable {I : im_I} {a h m N R : Nat} {st : Nat → Nat}
theorem Wk_life (hk : WkOk I a h m N R st) {w : Nat} (hw : bornN I a N w) : I (a + 18) w = nI (fiN I a w) ∧ I (a + 19) w = nI (laN I a w) ∧ fiN I a w < N ∧ laN I a w ≤ N ∧ insAt I (a + 10) (fiN I a w) 1 = nI w ∧ (∀ q, q < N → tch (insAt I (a + 10) q) w → fiN I a w ≤ q ∧ q ≤ laN I a w) ∧
    (w < 8 → hb (I 3 2) w = true → laN I a w = N) ∧ (∀ b q, b < 4 → st b ≤ q → q < st (b + 1) → tch (insAt I (a + 10) q) w → fiN I a w < st b → 1 < I 4 b → st (b + 1) ≤ laN I a w) ∧ (I (a + 22) w = 1 → ∀ q, q < N → insAt I (a + 10) q 1 = nI w → q = fiN I a w) ∧
    (I (a + 24) w ≤ 0 → ∀ q, q < N → insAt I (a + 10) q 0 = 9 → fiN I a w < q → ¬ q < laN I a w) := by
  obtain ⟨f, la, f1, f2, f3, f4, -, f6, -, f8, f9, f10, f11, f12⟩ := hk.2.1.2.1 w hw.1 hw.2
  have hN : N ≤ 88 := hk.1.1.2.1
  have e1 : fiN I a w = f := by unfold fiN; rw [f1, ofN_nI (by omega)]
  have e2 : laN I a w = la := by unfold laN; rw [f2, ofN_nI (by omega)]
  rw [e1, e2]
  exact ⟨f1, f2, f3, f4, f6, f8, f9, f10, f11, f12⟩
theorem Wk_hsd (hk : WkOk I a h m N R st) {w : Nat} (hw : bornN I a N w) : hsd I h R w := by
  obtain ⟨h1, -, h3, -, h5, h6, -, -, hm⟩ := hk.2.2
  have := hm.2.2.1
  refine ⟨hw.1, ?_⟩
  rcases h1 w hw.1 with e | ⟨g, g1, g2, -⟩
  · refine Or.inr ⟨e, ?_⟩
    by_cases c : I (h + 3) w = 1
    · exact Or.inl c
    · exact Or.inr ⟨c, (h6 w hw.1 hw e).resolve_left c⟩
  · exact Or.inl ⟨g, by omega, g2, g1⟩
theorem Wk_read (hk : WkOk I a h m N R st) {p k y : Nat} (hp : p < N) (hk3 : k < 3) (hy : y < 88) (e : insAt I (a + 10) p (2 + k) = nI y) : bornN I a N y ∧ fiN I a y < p ∧ p ≤ laN I a y := by
  obtain ⟨q, q1, q2, -⟩ := hk.1.2.2.2.2.1 p k y hp hk3 hy e
  have hb : bornN I a N y := ⟨hy, q, by omega, q2⟩
  obtain ⟨-, -, -, -, -, t, -⟩ := Wk_life hk hb
  have h1 := (t q (by omega) (Or.inl q2)).1
  have h2 := (t p hp (Or.inr (by
    rw [← e]
    exact lt3 (P := fun k => rdS (insAt I (a + 10) p) (insAt I (a + 10) p (2 + k))) (Or.inl rfl) (Or.inr (Or.inl rfl)) (Or.inr (Or.inr rfl)) k hk3))).2
  exact ⟨hb, by omega, h2⟩
theorem sim_line (hk : WkOk I a h m N R st) {Cl : Nat → Prop} {V : Env} {G S : Nat → Int32} {p : Nat} (hp : p < N) (hcl : ∀ w, rdS (insAt I (a + 10) p) (nI w) → w < 88 → Cl w) (H : SimI I a h N Cl V (G, S) p) :
    SimI I a h N Cl (exI (insAt I (a + 10) p) V) (exCL (I m 1) R (LL I h m (a + 10) p) (G, S)) (p + 1) := by
  have hN : N ≤ 88 := hk.1.1.2.1
  have hio := hk.1.2.1 p hp
  obtain ⟨w0, w088, ew0⟩ := hio.2.1
  have hb0 : bornN I a N w0 := ⟨w088, p, hp, ew0⟩
  obtain ⟨h1, h2, h3, h4, h5, h6, -, -, hm⟩ := hk.2.2
  obtain ⟨l1, l2, l3, l4, l5, l6, -, -, l9, -⟩ := Wk_life hk hb0
  have hmk : I (h + 3) w0 = 1 → I (h + 1) w0 = -1 ∧ insAt I (a + 10) p 0 = 0 ∧ insAt I (a + 10) p 5 = I (h + 4) w0 := fun e => by
    rcases h5 w0 w088 with e2 | ⟨-, -, q3, -, q5, q6, q7⟩
    · rw [e2] at e; exact absurd e (by decide)
    · have : p = fiN I a w0 := l9 q5 p hp ew0
      rw [← this] at q6 q7
      exact ⟨q3, q6, q7.symm⟩
  have hrd : ∀ k y, k < 3 → y < 88 → insAt I (a + 10) p (2 + k) = nI y → hsd I h R y ∧ homeV I h (G, S) y = V y := fun k y hk3 hy e => by
    obtain ⟨r1, r2, r3⟩ := Wk_read hk hp hk3 hy e
    refine ⟨Wk_hsd hk r1, H y r1 r2 r3 (hcl y ?_ hy)⟩
    rw [← e]
    exact lt3 (P := fun k => rdS (insAt I (a + 10) p) (insAt I (a + 10) p (2 + k))) (Or.inl rfl) (Or.inr (Or.inl rfl)) (Or.inr (Or.inr rfl)) k hk3
  obtain ⟨e1, e2⟩ := line_eff (kept := I m 1) (two := I m 4) (V := V) (G := G) (S := S) hio ew0 (Wk_hsd hk hb0) hm.2.1 hm.2.2.1 hmk hm.2.2.2 hrd
  have eLL : LL I h m (a + 10) p = lineL I h (I m 4) (nI (R - 3)) (insAt I (a + 10) p) := by
    unfold LL
    rw [scratch_nat hm]
  rw [eLL]
  intro w hw hf hl hc
  by_cases c : w = w0
  · rw [c]; exact e1
  · obtain ⟨k1, k2, k3, k4, k5, k6, -, -, -, k10⟩ := Wk_life hk hw
    have hfp : fiN I a w < p := by
      apply Nat.lt_of_le_of_ne (by omega)
      intro e
      rw [e] at k5
      exact c (nI_inj (by have := hw.1; omega) (by omega) (k5.symm.trans ew0))
    have hp0 := l6 p hp (Or.inl ew0)
    have hV : exI (insAt I (a + 10) p) V w = V w := by
      unfold exI
      rw [ew0, ofN_nI (by omega), upd_at, if_neg c]
    rw [hV, ← H w hw hfp (by omega) hc]
    refine e2 w (Wk_hsd hk hw) (fun h9 g g8 eg => ?_) (fun g g8 eg0 eg => ?_) (fun s hs er es er' es' => ?_)
    · rcases h1 w hw.1 with e | ⟨g', q1, q2, q3, q4⟩
      · exact absurd (eg.symm.trans e) (nI_m1 (by omega))
      · have hR11 := hm.2.2.1
        have : g' = g := nI_inj (by omega) (by omega) (q1.symm.trans eg)
        subst this
        exact q4 (fun hle => k10 hle p hp h9 hfp (by omega))
    · rcases h2 w0 w g w088 hw.1 (fun e => c e.symm) (by omega) eg0 eg with d | d
      · omega
      · omega
    · rcases h4 w0 w s w088 hw.1 (fun e => c e.symm) hs es es' with d | d
      · omega
      · omega
/-- a stretch of lines -/
def exLn (I : im_I) (h m r R p n : Nat) (σ : RS) : RS := itN (fun i τ => exCL (I m 1) R (LL I h m r (p + i)) τ) n σ
theorem sim_range (hk : WkOk I a h m N R st) {Cl : Nat → Prop} {V : Env} {σ : RS} {p : Nat} (H : SimI I a h N Cl V σ p) : ∀ n, p + n ≤ N → (∀ q w, p ≤ q → q < p + n → rdS (insAt I (a + 10) q) (nI w) → w < 88 → Cl w) → SimI I a h N Cl (exR (insAt I (a + 10)) p n V) (exLn I h m (a + 10) R p n σ) (p + n) := by
  intro n
  induction n with
  | zero =>
    intro _ _
    unfold exR exLn
    rw [itN_0, itN_0]
    exact H
  | succ n ih =>
    intro hn hcl
    have h1 := ih (by omega) (fun q w h1 h2 => hcl q w h1 (by omega))
    rw [exR_s]
    have e : exLn I h m (a + 10) R p (n + 1) σ = exCL (I m 1) R (LL I h m (a + 10) (p + n)) (exLn I h m (a + 10) R p n σ) := itN_s
    rw [e]
    generalize exLn I h m (a + 10) R p n σ = τ at h1 ⊢
    obtain ⟨G, S⟩ := τ
    exact sim_line hk (by omega) (fun w hr hw => hcl (p + n) w (by omega) (by omega) hr hw) h1
/-- what block b claims -/
def ClB (I : im_I) (a N : Nat) (st : Nat → Nat) (b w : Nat) : Prop := (∃ q, st b ≤ q ∧ q < N ∧ tch (insAt I (a + 10) q) w) ∨ (w < 8 ∧ hb (I 3 2) w = true)
theorem st_le (hk : WkOk I a h m N R st) : (∀ b, b ≤ 4 → st b ≤ N) ∧ (∀ b, b < 4 → st b ≤ st (b + 1)) := by
  obtain ⟨-, -, -, l4, l5, -⟩ := hk.1.1
  have s01 : st 0 ≤ st 1 := l5 0 (by decide)
  have s12 : st 1 ≤ st 2 := l5 1 (by decide)
  have s23 : st 2 ≤ st 3 := l5 2 (by decide)
  have s34 : st 3 ≤ st 4 := l5 3 (by decide)
  refine ⟨fun b hb => ?_, l5⟩
  match b, hb with
  | 0, _ => omega
  | 1, _ => omega
  | 2, _ => omega
  | 3, _ => omega
  | 4, _ => omega
/-- a block's rounds -/
def exBk (I : im_I) (h m r R : Nat) (st : Nat → Nat) (b t : Nat) (σ : RS) : RS := itN (fun _ τ => exLn I h m r R (st b) (st (b + 1) - st b) τ) t σ
def enBk (I : im_I) (r : Nat) (st : Nat → Nat) (b t : Nat) (V : Env) : Env := itN (fun _ W => exR (insAt I r) (st b) (st (b + 1) - st b) W) t V
theorem sim_block (hk : WkOk I a h m N R st) {V : Env} {σ : RS} {b t : Nat} (hb : b < 4) (ht : I 4 b = nI t) (ht2 : t < 100) (H : SimI I a h N (ClB I a N st b) V σ (st b)) : ∀ n, n < t → SimI I a h N (ClB I a N st b) (enBk I (a + 10) st b (n + 1) V) (exBk I h m (a + 10) R st b (n + 1) σ) (st (b + 1)) := by
  obtain ⟨s1, s2⟩ := st_le hk
  have hs := s2 b hb
  have hsN := s1 (b + 1) (by omega)
  have hcl : ∀ q w, st b ≤ q → q < st b + (st (b + 1) - st b) → rdS (insAt I (a + 10) q) (nI w) → w < 88 → ClB I a N st b w := fun q w h1 h2 hr _ => Or.inl ⟨q, h1, by omega, Or.inr hr⟩
  have one : ∀ W τ, SimI I a h N (ClB I a N st b) W τ (st b) → SimI I a h N (ClB I a N st b) (exR (insAt I (a + 10)) (st b) (st (b + 1) - st b) W) (exLn I h m (a + 10) R (st b) (st (b + 1) - st b) τ) (st (b + 1)) := fun W τ hW => by
    have := sim_range hk hW (st (b + 1) - st b) (by omega) hcl
    rwa [show st b + (st (b + 1) - st b) = st (b + 1) by omega] at this
  intro n
  induction n with
  | zero =>
    intro _
    unfold enBk exBk
    rw [itN_s, itN_s, itN_0, itN_0]
    exact one V σ H
  | succ n ih =>
    intro hn
    have h1 := ih (by omega)
    have e1 : enBk I (a + 10) st b (n + 1 + 1) V = exR (insAt I (a + 10)) (st b) (st (b + 1) - st b) (enBk I (a + 10) st b (n + 1) V) := itN_s
    have e2 : exBk I h m (a + 10) R st b (n + 1 + 1) σ = exLn I h m (a + 10) R (st b) (st (b + 1) - st b) (exBk I h m (a + 10) R st b (n + 1) σ) := itN_s
    rw [e1, e2]
    refine one _ _ (fun w hw hf hl hc => h1 w hw (by omega) ?_ hc)
    obtain ⟨-, -, -, k4, -, k6, k7, k8, -⟩ := Wk_life hk hw
    rcases hc with ⟨q, q1, q2, q3⟩ | ⟨c1, c2⟩
    · by_cases d : q < st (b + 1)
      · refine k8 b q hb q1 d q3 hf ?_
        rw [ht, show (1 : Int32) = nI 1 by decide]
        exact nI_lt (by omega) (by omega)
      · have := (k6 q q2 q3).2
        omega
    · rw [k7 c1 c2]
      exact hsN
end S4
