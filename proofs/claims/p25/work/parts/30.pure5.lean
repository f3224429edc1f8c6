/-! the law's own methods, as pure functions -/
def below_ (v n : Int32) : Int32 := (v &&& 2147483647) - (v &&& 2147483647) / n * n
def cell_ (k : im_K) (i : Int32) : Int32 := if i < Int32.ofNat (kL k) then kxs k i.toNatClampNeg else 790386105 * (i + 3)
/-- an Own at a: its nodes row rn of nn, its statements row rs of ns -/
def o_X12 (S : im_S) (a rn nn rs ns : Nat) : Prop := im_k S a = (12, im_N 12) ∧ im_r S a 0 = rn + 1 ∧ im_k S rn = (21, nn) ∧ im_r S a 1 = rs + 1 ∧ im_k S rs = (21, ns) ∧ im_r S a 2 = a + 3 + 1 ∧ im_k S (a + 3) = (20, 4) ∧ im_r S a 3 = a + 4 + 1 ∧ im_k S (a + 4) = (20, 8)
section O12
variable {S : im_S} {a rn nn rs ns : Nat}
theorem o_X12_k (h : o_X12 S a rn nn rs ns) : im_k S a = (12, im_N 12) := h.1
theorem o_X12_r0 (h : o_X12 S a rn nn rs ns) : im_r S a 0 = rn + 1 := h.2.1
theorem o_X12_a0 (h : o_X12 S a rn nn rs ns) : im_k S rn = (21, nn) := h.2.2.1
theorem o_X12_r1 (h : o_X12 S a rn nn rs ns) : im_r S a 1 = rs + 1 := h.2.2.2.1
theorem o_X12_a1 (h : o_X12 S a rn nn rs ns) : im_k S rs = (21, ns) := h.2.2.2.2.1
theorem o_X12_r2 (h : o_X12 S a rn nn rs ns) : im_r S a 2 = a + 3 + 1 := h.2.2.2.2.2.1
theorem o_X12_a2 (h : o_X12 S a rn nn rs ns) : im_k S (a + 3) = (20, 4) := h.2.2.2.2.2.2.1
theorem o_X12_r3 (h : o_X12 S a rn nn rs ns) : im_r S a 3 = a + 4 + 1 := h.2.2.2.2.2.2.2.1
theorem o_X12_a3 (h : o_X12 S a rn nn rs ns) : im_k S (a + 4) = (20, 8) := h.2.2.2.2.2.2.2.2
end O12
/-- what the row r of n rows holds: each a row of three ints -/
def rowsOk (S : im_S) (r n : Nat) : Prop := ∀ j : Nat, j < n → im_r S r j = im_r S r j - 1 + 1 ∧ im_k S (im_r S r j - 1) = (20, 3)
/-- the j-th row's q-th int -/
def rowAt (S : im_S) (I : im_I) (r j q : Nat) : Int32 := I (im_r S r j - 1) q
/-- what a node of Own's is worth (fuel: more than the node) -/
def worth_ (f : Nat → Nat → Int32) (held : Nat → Int32) : Nat → Nat → Int32
  | 0, _ => 0
  | n + 1, j =>
    if f j 0 < 2 then (if f j 0 = 0 then f j 1 else held (f j 1).toNatClampNeg)
    else
      let x := worth_ f held n (f j 1).toNatClampNeg
      let y := worth_ f held n (f j 2).toNatClampNeg
      if f j 0 = 2 then x + y else if f j 0 = 3 then x - y else if f j 0 = 4 then x * y else 1 + 2 * y + 3 * x
termination_by n => n
theorem worth_s {f : Nat → Nat → Int32} {held : Nat → Int32} {n j : Nat} : worth_ f held (n + 1) j = if f j 0 < 2 then (if f j 0 = 0 then f j 1 else held (f j 1).toNatClampNeg) else
      (if f j 0 = 2 then worth_ f held n (f j 1).toNatClampNeg + worth_ f held n (f j 2).toNatClampNeg else if f j 0 = 3 then worth_ f held n (f j 1).toNatClampNeg - worth_ f held n (f j 2).toNatClampNeg else if f j 0 = 4 then worth_ f held n (f j 1).toNatClampNeg * worth_ f held n (f j 2).toNatClampNeg else 1 + 2 * worth_ f held n (f j 2).toNatClampNeg + 3 * worth_ f held n (f j 1).toNatClampNeg) := by rw [worth_]
/-- nodes as they are drawn: leaves read variables below 8, parts are nodes before -/
def nodesOk (f : Nat → Nat → Int32) (n : Nat) : Prop := ∀ j : Nat, j < n → (f j 0 < 2 → ¬ f j 0 = 0 → vp_in (f j 1) 8) ∧ (¬ f j 0 < 2 → (∃ x : Nat, x < j ∧ f j 1 = Int32.ofNat x) ∧ ∃ y : Nat, y < j ∧ f j 2 = Int32.ofNat y)
section R5
variable {X : im_X} {k : im_K} {Y : im_Y} {d : Nat} {Q : State → Prop} {pc : Nat} {L : List (Option Value)} {st : List Value} {S : im_S} {I : im_I}
theorem r_ialdc (hX : im_Ok X k Y d) {a n : Nat} {i : Int32} (j : Nat) (hj : i.toNatClampNeg = j) (hd : decode Y.2.1 pc = .ok (.iaload, 1)) (hk : im_k S a = (20, n)) (hi : vp_in i n) (h : im_E X k Q (pc + 1) L (.int (I a j) :: st) S I) : im_E X k Q pc L (.int i :: .ref a :: st) S I := by
  subst hj
  exact r_iald hX hd hk hi h
end R5
theorem vp_in3 (n : Nat) (i : Int32) (h : 0 ≤ i.toInt ∧ i.toInt < n) : vp_in i n := by rw [vp_in_iff]; exact h
