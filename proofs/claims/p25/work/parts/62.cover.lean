/-! PURE THEORY, COVERS. A node's cover as one value: 0 cost, 1 kind, 2 number, 3 to 5 reads, 6 to 8 parts -/
def cov_ (cs kd n x y z p q r : Int32) : Nat → Int32 := fun i => match i with | 0 => cs | 1 => kd | 2 => n | 3 => x | 4 => y | 5 => z | 6 => p | 7 => q | 8 => r | _ => 0
def covAt (I : im_I) (c j : Nat) : Nat → Int32 := cov_ (I (c + 1) j) (I (c + 2) j) (I (c + 3) j) (I (c + 4) (3 * j)) (I (c + 4) (3 * j + 1)) (I (c + 4) (3 * j + 2)) (I (c + 5) (3 * j)) (I (c + 5) (3 * j + 1)) (I (c + 5) (3 * j + 2))
theorem covAt_of {I : im_I} {c j : Nat} {cs kd n x y z p q r : Int32} (h0 : I (c + 1) j = cs) (h1 : I (c + 2) j = kd) (h2 : I (c + 3) j = n) (h3 : I (c + 4) (3 * j) = x) (h4 : I (c + 4) (3 * j + 1) = y) (h5 : I (c + 4) (3 * j + 2) = z) (h6 : I (c + 5) (3 * j) = p) (h7 : I (c + 5) (3 * j + 1) = q) (h8 : I (c + 5) (3 * j + 2) = r) : covAt I c j = cov_ cs kd n x y z p q r := by
  unfold covAt
  rw [h0, h1, h2, h3, h4, h5, h6, h7, h8]
/-- what a cover's maker does to node n alone: its cover is cv then -/
def covTo (c n : Nat) (I J : im_I) (cv : Nat → Int32) : Prop := (covAt J c n = cv) ∧ (∀ j, j ≠ n → covAt J c j = covAt I c j) ∧ (∀ b, b < c + 1 ∨ c + 5 < b → J b = I b) ∧ (∀ j, j ≠ n → J (c + 1) j = I (c + 1) j)
theorem covTo_rf {c n : Nat} {I : im_I} : covTo c n I I (covAt I c n) := ⟨rfl, fun _ _ => rfl, fun _ _ => rfl, fun _ _ => rfl⟩
theorem covTo_tr {c n : Nat} {I J K : im_I} {cv cw : Nat → Int32} (h : covTo c n I J cv) (g : covTo c n J K cw) : covTo c n I K cw :=
  ⟨g.1, fun j hj => (g.2.1 j hj).trans (h.2.1 j hj), fun b hb => (g.2.2.1 b hb).trans (h.2.2.1 b hb), fun j hj => (g.2.2.2 j hj).trans (h.2.2.2 j hj)⟩
theorem covTo_eq {c n : Nat} {I J : im_I} {cv cw : Nat → Int32} (h : covTo c n I J cv) (e : cv = cw) : covTo c n I J cw := e ▸ h
/-- all rows of the cover of n, set -/
def putCov (I : im_I) (c n : Nat) (x : Nat → Int32) : im_I := fun b i =>
  if b = c + 1 ∧ i = n then x 0 else if b = c + 2 ∧ i = n then x 1 else if b = c + 3 ∧ i = n then x 2 else if b = c + 4 ∧ i = 3 * n then x 3 else if b = c + 4 ∧ i = 3 * n + 1 then x 4 else if b = c + 4 ∧ i = 3 * n + 2 then x 5 else if b = c + 5 ∧ i = 3 * n then x 6 else if b = c + 5 ∧ i = 3 * n + 1 then x 7 else if b = c + 5 ∧ i = 3 * n + 2 then x 8 else I b i
theorem putCov_to {I : im_I} {c n : Nat} {cs kd m x y z p q r : Int32} : covTo c n I (putCov I c n (cov_ cs kd m x y z p q r)) (cov_ cs kd m x y z p q r) := by
  refine ⟨?_, fun j hj => ?_, fun b hb => ?_, fun j hj => ?_⟩
  · refine covAt_of ?_ ?_ ?_ ?_ ?_ ?_ ?_ ?_ ?_ <;> simp [putCov, cov_]
  · have q0 : ¬ 3 * j = 3 * n := by omega
    have q1 : ¬ 3 * j = 3 * n + 1 := by omega
    have q2 : ¬ 3 * j = 3 * n + 2 := by omega
    have q3 : ¬ 3 * j + 1 = 3 * n := by omega
    have q4 : ¬ 3 * j + 1 = 3 * n + 1 := by omega
    have q5 : ¬ 3 * j + 1 = 3 * n + 2 := by omega
    have q6 : ¬ 3 * j + 2 = 3 * n := by omega
    have q7 : ¬ 3 * j + 2 = 3 * n + 1 := by omega
    have q8 : ¬ 3 * j + 2 = 3 * n + 2 := by omega
    refine covAt_of ?_ ?_ ?_ ?_ ?_ ?_ ?_ ?_ ?_ <;> simp only [putCov, hj, q0, q1, q2, q3, q4, q5, q6, q7, q8, and_false, if_false] <;> simp
  · funext i
    have c1 : ¬ b = c + 1 := by omega
    have c2 : ¬ b = c + 2 := by omega
    have c3 : ¬ b = c + 3 := by omega
    have c4 : ¬ b = c + 4 := by omega
    have c5 : ¬ b = c + 5 := by omega
    simp [putCov, c1, c2, c3, c4, c5]
  · simp [putCov, hj]
theorem setNodes_nat {I : im_I} {x n : Nat} {f s t : Int32} (hn : n < 80) : setNodes_ I x 240 (nI n) f s t = im_up (im_up (im_up I x (3 * n) f) x (3 * n + 1) s) x (3 * n + 2) t := by
  unfold setNodes_
  simp only [nI_mul30]
  rw [show (1 : Int32) = nI 1 from rfl, show (2 : Int32) = nI 2 from rfl, nI_add, nI_add, put240 (by omega), put240 (by omega), put240 (by omega)]
/-- everything but the number set -/
theorem cov5_to {I : im_I} {c n : Nat} {cs kd x y z p q r : Int32} (hn : n < 80) : covTo c n I (setNodes_ (setNodes_ (im_up (im_up I (c + 2) n kd) (c + 1) n cs) (c + 4) 240 (nI n) x y z) (c + 5) 240 (nI n) p q r) (cov_ cs kd (I (c + 3) n) x y z p q r) := by
  rw [setNodes_nat hn, setNodes_nat hn]
  refine cast (congrArg (fun J => covTo c n I J _) ?_) (putCov_to (I := I) (c := c) (n := n) (cs := cs) (kd := kd) (m := I (c + 3) n) (x := x) (y := y) (z := z) (p := p) (q := q) (r := r))
  funext b i
  simp only [putCov, im_up, cov_]
  by_cases d1 : b = c + 1
  · subst d1; simp
  · by_cases d2 : b = c + 2
    · subst d2; simp
    · by_cases d3 : b = c + 3
      · subst d3; by_cases e : i = n <;> simp [e]
      · by_cases d4 : b = c + 4
        · subst d4
          by_cases e2 : i = 3 * n + 2
          · subst e2; simp
          · by_cases e1 : i = 3 * n + 1
            · subst e1; simp
            · simp [e1, e2]
        · by_cases d5 : b = c + 5
          · subst d5
            by_cases e2 : i = 3 * n + 2
            · subst e2; simp
            · by_cases e1 : i = 3 * n + 1
              · subst e1; simp
              · simp [e1, e2]
          · simp [d1, d2, d3, d4, d5]
/-- everything set -/
theorem cov6_to {I : im_I} {c n : Nat} {cs kd m x y z p q r : Int32} (hn : n < 80) : covTo c n I (setNodes_ (setNodes_ (im_up (im_up (im_up I (c + 2) n kd) (c + 1) n cs) (c + 3) n m) (c + 4) 240 (nI n) x y z) (c + 5) 240 (nI n) p q r) (cov_ cs kd m x y z p q r) := by
  rw [setNodes_nat hn, setNodes_nat hn]
  refine cast (congrArg (fun J => covTo c n I J _) ?_) (putCov_to (I := I) (c := c) (n := n) (cs := cs) (kd := kd) (m := m) (x := x) (y := y) (z := z) (p := p) (q := q) (r := r))
  funext b i
  simp only [putCov, im_up, cov_]
  by_cases d1 : b = c + 1
  · subst d1; simp
  · by_cases d2 : b = c + 2
    · subst d2; simp
    · by_cases d3 : b = c + 3
      · subst d3; by_cases e : i = n <;> simp [e]
      · by_cases d4 : b = c + 4
        · subst d4
          by_cases e2 : i = 3 * n + 2
          · subst e2; simp
          · by_cases e1 : i = 3 * n + 1
            · subst e1; simp
            · simp [e1, e2]
        · by_cases d5 : b = c + 5
          · subst d5
            by_cases e2 : i = 3 * n + 2
            · subst e2; simp
            · by_cases e1 : i = 3 * n + 1
              · subst e1; simp
              · simp [e1, e2]
          · simp [d1, d2, d3, d4, d5]
/-- nothing but the number set -/
theorem cov1_to {I : im_I} {c n : Nat} {m : Int32} : covTo c n I (im_up I (c + 3) n m) (cov_ (I (c + 1) n) (I (c + 2) n) m (I (c + 4) (3 * n)) (I (c + 4) (3 * n + 1)) (I (c + 4) (3 * n + 2)) (I (c + 5) (3 * n)) (I (c + 5) (3 * n + 1)) (I (c + 5) (3 * n + 2))) := by
  refine ⟨?_, fun j hj => ?_, fun b hb => up_fr (by omega), fun j hj => by rw [up_fr (by omega)]⟩
  · refine covAt_of ?_ ?_ ?_ ?_ ?_ ?_ ?_ ?_ ?_ <;> simp [im_up]
  · refine covAt_of ?_ ?_ ?_ ?_ ?_ ?_ ?_ ?_ ?_ <;> simp [im_up, hj]
/-! what the makers of covers make, over the program's rows K A B, latencies L, costs C -/
def ofN (x : Int32) : Nat := x.toNatClampNeg
theorem ofN_nI {n : Nat} (h : n < 2 ^ 31) : ofN (nI n) = n := nI_clamp h
def isSm (K A : Nat → Int32) (sm : Int32) (j : Nat) : Bool := if ¬ K j = 0 then false else if A j < -sm then false else if sm < A j then false else true
def covSmBy (A : Nat → Int32) (L : Int32 → Int32) (C : Nat → Int32) (kd : Int32) (rd ot : Nat) (cv : Nat → Int32) : Nat → Int32 :=
  if cv 0 ≤ L 5 + C rd then cv else cov_ (L 5 + C rd) 5 (if kd = 3 then -(A ot) else A ot) (nI rd) (-1) (-1) (nI rd) (-1) (-1)
def covSm (K A : Nat → Int32) (sm : Int32) (L : Int32 → Int32) (C : Nat → Int32) (kd : Int32) (x y : Nat) (cv : Nat → Int32) : Nat → Int32 :=
  if (kd = 2 ∨ kd = 3) ∧ isSm K A sm y = true then covSmBy A L C kd x y cv else if kd = 2 ∧ isSm K A sm x = true then covSmBy A L C kd y x cv else cv
def covFuBy (A B : Nat → Int32) (L : Int32 → Int32) (C : Nat → Int32) (mul z : Nat) (first : Bool) (cv : Nat → Int32) : Nat → Int32 :=
  if cv 0 ≤ L 6 + C (ofN (A mul)) + C (ofN (B mul)) + C z then cv
  else if first = true then cov_ (L 6 + C (ofN (A mul)) + C (ofN (B mul)) + C z) 6 0 (A mul) (B mul) (nI z) (A mul) (B mul) (nI z)
  else cov_ (L 6 + C (ofN (A mul)) + C (ofN (B mul)) + C z) 6 0 (A mul) (B mul) (nI z) (nI z) (A mul) (B mul)
def covFu (K A B : Nat → Int32) (fu : Int32) (L : Int32 → Int32) (C : Nat → Int32) (kd : Int32) (x y : Nat) (cv : Nat → Int32) : Nat → Int32 :=
  if fu = 0 then cv else if ¬ kd = 2 then cv else if K x = 4 then covFuBy A B L C x y true cv else if K y = 4 then covFuBy A B L C y x false cv else cv
def covPl (L : Int32 → Int32) (C : Nat → Int32) (ins : Int32) (x y : Nat) : Nat → Int32 := cov_ (L ins + C x + C y) ins 0 (nI x) (nI y) (-1) (nI x) (nI y) (-1)
def covLeaf (kd : Int32) (a l : Int32) : Nat → Int32 := if kd = 1 then cov_ 0 1 0 (-1) (-1) (-1) (-1) (-1) (-1) else cov_ l 0 a (-1) (-1) (-1) (-1) (-1) (-1)
def covNew (K A B : Nat → Int32) (L : Int32 → Int32) (sm fu : Int32) (C : Nat → Int32) (j : Nat) : Nat → Int32 :=
  if K j < 2 then covLeaf (K j) (A j) (L 0)
  else covFu K A B fu L C (K j) (ofN (A j)) (ofN (B j)) (covSm K A sm L C (K j) (ofN (A j)) (ofN (B j)) (covPl L C (if K j = 5 then 9 else K j) (ofN (A j)) (ofN (B j))))
/-- the program's nodes, as its rows tell them -/
def pgOk (K A B : Nat → Int32) (nn : Nat) : Prop := nn ≤ 80 ∧ ∀ j, j < nn → (K j = 0 ∨ K j = 1 ∧ ∃ v, v < 8 ∧ A j = nI v) ∨ (K j = 2 ∨ K j = 3 ∨ K j = 4 ∨ K j = 5) ∧ ∃ x y, x < j ∧ y < j ∧ A j = nI x ∧ B j = nI y
section Cov
variable {I : im_I} {c m n : Nat}
theorem covAt_0 : covAt I c n 0 = I (c + 1) n := rfl
theorem coverLeaf_to {kd : Int32} (hn : n < 80) (hc : 7 < c) (hm : m + 1 < c + 1 ∨ c + 5 < m + 1) (h3 : I (c + 3) n = 0) : covTo c n I (coverLeaf_ I c m (nI n) kd) (covLeaf kd (I 6 n) (cyclesOf_ I m 0)) := by
  unfold coverLeaf_ covLeaf
  simp only [setNodes_nat hn]
  split
  · rw [put80' hn, put80' hn]
    refine cast (congrArg (fun J => covTo c n I J _) ?_) (putCov_to (I := I) (c := c) (n := n) (cs := 0) (kd := 1) (m := 0) (x := -1) (y := -1) (z := -1) (p := -1) (q := -1) (r := -1))
    funext b i
    simp only [putCov, im_up, cov_]
    by_cases d1 : b = c + 1
    · subst d1; simp
    · by_cases d2 : b = c + 2
      · subst d2; simp
      · by_cases d3 : b = c + 3
        · subst d3; by_cases e : i = n
          · subst e; simp [h3]
          · simp [e]
        · by_cases d4 : b = c + 4
          · subst d4
            by_cases e2 : i = 3 * n + 2
            · subst e2; simp
            · by_cases e1 : i = 3 * n + 1
              · subst e1; simp
              · simp [e1, e2]
          · by_cases d5 : b = c + 5
            · subst d5
              by_cases e2 : i = 3 * n + 2
              · subst e2; simp
              · by_cases e1 : i = 3 * n + 1
                · subst e1; simp
                · simp [e1, e2]
            · simp [d1, d2, d3, d4, d5]
  · simp only [put80' hn, at80 hn]
    have e6 : ∀ J : im_I, (∀ b, b < c + 1 ∨ c + 5 < b → J b = I b) → cyclesOf_ J m 0 = cyclesOf_ I m 0 := fun J hJ => by unfold cyclesOf_; rw [hJ _ (by omega)]
    have e7 : ∀ (J : im_I) (w : Int32), im_up J (c + 1) n w (3 + 3) = J (3 + 3) := fun J w => up_fr (by omega)
    have e8 : ∀ (J : im_I) (i : Nat) (w : Int32), im_up J (c + 4) i w (3 + 3) = J (3 + 3) := fun J i w => up_fr (by omega)
    have e9 : ∀ (J : im_I) (i : Nat) (w : Int32), im_up J (c + 5) i w (3 + 3) = J (3 + 3) := fun J i w => up_fr (by omega)
    have e10 : ∀ (J : im_I) (w : Int32), im_up J (c + 2) n w (3 + 3) = J (3 + 3) := fun J w => up_fr (by omega)
    rw [e6 (im_up (im_up (im_up (im_up (im_up (im_up (im_up I (c + 4) (3 * n) (-1)) (c + 4) (3 * n + 1) (-1)) (c + 4) (3 * n + 2) (-1)) (c + 5) (3 * n) (-1)) (c + 5) (3 * n + 1) (-1)) (c + 5) (3 * n + 2) (-1)) (c + 2) n 0) (fun b hb => by rw [up_fr (by omega), up_fr (by omega), up_fr (by omega), up_fr (by omega), up_fr (by omega), up_fr (by omega), up_fr (by omega)])]
    simp only [e7, e8, e9, e10]
    refine cast (congrArg (fun J => covTo c n I J _) ?_) (putCov_to (I := I) (c := c) (n := n) (cs := cyclesOf_ I m 0) (kd := 0) (m := I 6 n) (x := -1) (y := -1) (z := -1) (p := -1) (q := -1) (r := -1))
    funext b i
    simp only [putCov, im_up, cov_]
    by_cases d1 : b = c + 1
    · subst d1; simp
    · by_cases d2 : b = c + 2
      · subst d2; simp
      · by_cases d3 : b = c + 3
        · subst d3; by_cases e : i = n <;> simp [e]
        · by_cases d4 : b = c + 4
          · subst d4
            by_cases e2 : i = 3 * n + 2
            · subst e2; simp
            · by_cases e1 : i = 3 * n + 1
              · subst e1; simp
              · simp [e1, e2]
          · by_cases d5 : b = c + 5
            · subst d5
              by_cases e2 : i = 3 * n + 2
              · subst e2; simp
              · by_cases e1 : i = 3 * n + 1
                · subst e1; simp
                · simp [e1, e2]
            · simp [d1, d2, d3, d4, d5]
end Cov
