/-! PURE THEORY, CHOOSING: what a STATEMENT's instructions are and do -/
abbrev Env : Type := Nat → Int32
def exI (x : Ins) (V : Env) : Env := upd V (ofN (x 1)) (opV (x 0) (x 5) (V (ofN (x 2))) (V (ofN (x 3))) (V (ofN (x 4))))
/-- the instructions a, a + 1, .. (n of them) -/
def exR (f : Nat → Ins) (a n : Nat) (V : Env) : Env := itN (fun j => exI (f (a + j))) n V
theorem exR_s {f : Nat → Ins} {a n : Nat} {V : Env} : exR f a (n + 1) V = exI (f (a + n)) (exR f a n V) := rfl
theorem exR_congr {f g : Nat → Ins} {a n : Nat} {V : Env} (h : ∀ p, a ≤ p → p < a + n → f p = g p) : exR f a n V = exR g a n V :=
  itN_congr fun j t hj => by rw [h (a + j) (by omega) (by omega)]
theorem exR_add {f : Nat → Ins} {a m n : Nat} {V : Env} : exR f a (m + n) V = exR f (a + m) n (exR f a m V) := by
  unfold exR
  rw [itN_add]
  exact itN_congr fun j t hj => by rw [Nat.add_assoc]
/-- what is not written stays -/
theorem exR_old {f : Nat → Ins} {a n y : Nat} {V : Env} (h : ∀ p, a ≤ p → p < a + n → ofN (f p 1) ≠ y) : exR f a n V y = V y := by
  induction n with
  | zero => rfl
  | succ n ih =>
    rw [exR_s]
    unfold exI
    rw [upd_at, if_neg (fun e => h (a + n) (by omega) (by omega) e.symm)]
    exact ih fun p h1 h2 => h p h1 (by omega)
/-- operands that are not there don't count -/
theorem opV_ar {kd n x y z : Int32} {X Y : Nat → Int32} (h : arOk kd x y z) (h0 : x ≠ -1 → X 0 = Y 0) (h1 : y ≠ -1 → X 1 = Y 1) (h2 : z ≠ -1 → X 2 = Y 2) : opV kd n (X 0) (X 1) (X 2) = opV kd n (Y 0) (Y 1) (Y 2) := by
  rcases h with ⟨e, -⟩ | ⟨e, a, -⟩ | ⟨e, a, b, -⟩ | ⟨e, a, -⟩ | ⟨e, a, b, c⟩
  · subst e; rfl
  · subst e; exact h0 a
  · have q0 := h0 a
    have q1 := h1 b
    rcases e with e | e | e | e <;> subst e <;> simp [opV, q0, q1]
  · subst e; have q0 := h0 a; simp [opV, q0]
  · subst e; have q0 := h0 a; have q1 := h1 b; have q2 := h2 c; simp [opV, q0, q1, q2]
/-- the covers stand -/
def ChOk (I : im_I) (c nn : Nat) : Prop := pgOk (I 5) (I 6) (I 7) nn ∧ ∀ j, j < nn → (I 5 j = 1 ∧ (∃ v, v < 8 ∧ I 6 j = nI v) ∧ covAt I c j = cov_ 0 1 0 (-1) (-1) (-1) (-1) (-1) (-1)) ∨ (I 5 j ≠ 1 ∧ CovF (I 5) (I 6) (I 7) j (covAt I c j))
theorem ChOk_fr {I J : im_I} {c nn : Nat} (h : ChOk I c nn) (hp : ∀ b, b = 5 ∨ b = 6 ∨ b = 7 ∨ c + 1 ≤ b ∧ b ≤ c + 5 → J b = I b) : ChOk J c nn := by
  have e : ∀ j, covAt J c j = covAt I c j := fun j => by
    unfold covAt
    rw [hp (c + 1) (by omega), hp (c + 2) (by omega), hp (c + 3) (by omega), hp (c + 4) (by omega), hp (c + 5) (by omega)]
  unfold ChOk
  rw [hp 5 (by omega), hp 6 (by omega), hp 7 (by omega)]
  simp only [e]
  exact h
theorem ptAt_cov {I : im_I} {c j : Nat} : ∀ k, k < 3 → ptAt I c j k = covAt I c j (6 + k) := lt3 rfl rfl rfl
theorem ChOk_pt {I : im_I} {c nn : Nat} (h : ChOk I c nn) : ptOk (ptAt I c) nn := by
  intro j hj k hk
  rw [ptAt_cov k hk]
  rcases h.2 j hj with ⟨-, -, e⟩ | ⟨-, hF⟩
  · rw [e]
    exact Or.inl (lt3 (P := fun k => cov_ 0 1 0 (-1) (-1) (-1) (-1) (-1) (-1) (6 + k) = -1) rfl rfl rfl k hk)
  · exact hF.2.1 k hk
theorem ChOk_len {I : im_I} {c nn j : Nat} (h : ChOk I c nn) (hj : j < nn) : (rpO (ptAt I c) j).length ≤ szP (I 5) (I 6) (I 7) j := by
  have h80 := h.1.1
  refine rpO_len (ChOk_pt h) (by omega) (fun i hi => ?_) (j + 1) j (by omega) hj
  rw [ptAt_cov 0 (by decide), ptAt_cov 1 (by decide), ptAt_cov 2 (by decide)]
  rcases h.2 i hi with ⟨e1, -, e⟩ | ⟨-, hF⟩
  · have q : ∀ k, k < 3 → covAt I c i (6 + k) = -1 := by rw [e]; exact lt3 rfl rfl rfl
    rw [q 0 (by decide), q 1 (by decide), q 2 (by decide), if_pos rfl, szP_leaf (by rw [e1]; decide)]
    omega
  · exact hF.2.2.2.2.1
def vr (I : im_I) (c : Nat) (x : Int32) : Int32 := if x = -1 then -1 else I (c + 6) (ofN x)
theorem valueRead_nat {I : im_I} {c m k : Nat} (hm : m < 80) (hk : k < 3) (h : covAt I c m (3 + k) = -1 ∨ ∃ q, q < 80 ∧ covAt I c m (3 + k) = nI q) : valueRead_ I c (nI m) (nI k) = vr I c (covAt I c m (3 + k)) := by
  have e : at_ (I (c + 4)) 240 (3 * nI m + nI k) = covAt I c m (3 + k) := by
    rw [nI_mul3, at240 (by omega)]
    exact lt3 (P := fun k => I (c + 4) (3 * m + k) = covAt I c m (3 + k)) rfl rfl rfl k hk
  unfold valueRead_ vr
  rw [e]
  rcases h with h | ⟨q, hq, h⟩
  · rw [h, if_pos rfl, at_m1]
  · rw [h, if_neg (nI_m1 (by omega)), ofN_nI (by omega), at80 hq]
/-- what emit lays for node m -/
def emIns (I : im_I) (c m : Nat) (v b : Int32) : Ins :=
  if covAt I c m 1 = 1 then ins_ 1 v (I 6 m) (-1) (-1) (covAt I c m 2) b 0
  else ins_ (covAt I c m 1) v (vr I c (covAt I c m 3)) (vr I c (covAt I c m 4)) (vr I c (covAt I c m 5)) (covAt I c m 2) b 0
theorem emit_app {I : im_I} {c r m n : Nat} {v b : Int32} (hr : c + 8 < r) (h7 : 7 < c) (h : I r 0 = nI n) (hn : n < 88) (hm : m < 80) (hc : ∀ k, k < 3 → covAt I c m (3 + k) = -1 ∨ ∃ q, q < 80 ∧ covAt I c m (3 + k) = nI q) : App I (emit_ I c r (nI m) v b) r n (emIns I c m v b) := by
  have fA : ∀ b2, b2 < r ∨ r + 6 < b2 → add_ I r (at_ (I (c + 2)) 80 (nI m)) v b b2 = I b2 := fun b2 hb => add_fr hb
  have fN : ∀ b2, b2 < r ∨ r + 6 < b2 → setNumber_ (add_ I r (at_ (I (c + 2)) 80 (nI m)) v b) r (I (c + 3) m) b2 = I b2 := fun b2 hb => (setNumber_fr hb).trans (fA b2 hb)
  have e1 : at_ (add_ I r (at_ (I (c + 2)) 80 (nI m)) v b (c + 3)) 80 (nI m) = I (c + 3) m := by rw [fA _ (by omega), at80 hm]
  have ev : ∀ k, k < 3 → valueRead_ (setNumber_ (add_ I r (at_ (I (c + 2)) 80 (nI m)) v b) r (I (c + 3) m)) c (nI m) (nI k) = vr I c (covAt I c m (3 + k)) := fun k hk => by
    rw [← valueRead_nat hm hk (hc k hk)]
    unfold valueRead_
    rw [fN _ (by omega), fN _ (by omega)]
  have e0 := ev 0 (by decide)
  have e1' := ev 1 (by decide)
  have e2 := ev 2 (by decide)
  rw [show nI 0 = 0 from nI_0] at e0
  rw [show nI 1 = 1 from rfl] at e1'
  rw [show nI 2 = 2 from rfl] at e2
  unfold emit_
  simp only [e1, e0, e1', e2, fN (3 + 3) (by omega)]
  rw [at80 (f := I (3 + 3)) hm]
  have ek : at_ (I (c + 2)) 80 (nI m) = covAt I c m 1 := at80 hm
  unfold emIns
  rw [ek]
  by_cases q : covAt I c m 1 = 1
  · rw [if_pos q, if_pos q, q]
    exact addRN_app h hn
  · rw [if_neg q, if_neg q]
    exact addRN_app h hn
/-- an instruction of a STATEMENT of block b, not its last: it writes w; values from x0 on are the STATEMENT's -/
def EntOk (x : Ins) (b : Int32) (x0 w : Nat) : Prop := (x 6 = b) ∧ (x 7 = 0) ∧ arOk (x 0) (x 2) (x 3) (x 4) ∧ (∀ k, k < 3 → x (2 + k) = -1 ∨ ∃ y, x (2 + k) = nI y ∧ (y < 8 ∨ x0 ≤ y ∧ y < w))
/-- how much an instruction weighs -/
def wt (x : Ins) : Nat := 1 + nrd (x 2) (x 3) (x 4)
def sumR (g : Nat → Nat) (a n : Nat) : Nat := sumTo (fun j => g (a + j)) n
def npt (I : im_I) (c m : Nat) : Nat := 1 + nrd (ptAt I c m 0) (ptAt I c m 1) (ptAt I c m 2)
def wtL (I : im_I) (c : Nat) : List Nat → Nat
  | [] => 0
  | m :: t => npt I c m + wtL I c t
/-- the state between a STATEMENT's instructions: nodes D are done, the lines from n0 to n laid -/
def Cs (I0 I : im_I) (c r : Nat) (b : Int32) (n0 x0 n : Nat) (D : List Nat) : Prop :=
  (I r 0 = nI n ∧ I c 11 = nI (x0 + (n - n0)) ∧ n0 ≤ n ∧ n ≤ n0 + D.length) ∧
  (∀ p, n0 ≤ p → p < n → insAt I r p 1 = nI (x0 + (p - n0)) ∧ insAt I r p 0 ≠ 1 ∧ EntOk (insAt I r p) b x0 (x0 + (p - n0))) ∧
  (∀ m, m ∈ D → ∃ y, I (c + 6) m = nI y ∧ (I 5 m = 1 ∧ y < 8 ∨ x0 ≤ y ∧ y < x0 + (n - n0)) ∧ ∀ V : Env, exR (insAt I r) n0 (n - n0) V y = nv (I 5) (I 6) (I 7) V m) ∧
  (sumR (fun p => wt (insAt I r p)) n0 (n - n0) ≤ wtL I0 c D) ∧
  (∀ p, p < n0 → insAt I r p = insAt I0 r p) ∧ (∀ q, q < r ∨ r + 6 < q → q ≠ c → q ≠ c + 6 → I q = I0 q)
