/-- the law's state while it writes: Own at 125 -/
def Lw (S : im_S) (I : im_I) (rn nn rs ns : Nat) : Prop := (oldS S) ∧
  (o_X12 S 125 rn nn rs ns) ∧
  (rowsOk S rn nn) ∧
  (rowsOk S rs ns) ∧
  (nn ≤ 80) ∧
  (ns ≤ 24) ∧
  (I 3 0 = Int32.ofNat nn) ∧
  (I 3 1 = Int32.ofNat ns) ∧
  (∀ j, j < nn → I 5 j = rowAt S I rn j 0) ∧
  (∀ j, j < nn → I 6 j = rowAt S I rn j 1) ∧
  (∀ j, j < nn → I 7 j = rowAt S I rn j 2) ∧
  (nodesOk (rowAt S I rn) nn) ∧
  (∀ j, j < nn → 0 ≤ (rowAt S I rn j 0).toInt ∧ (rowAt S I rn j 0).toInt ≤ 5) ∧
  (∀ t, t < ns → ∃ blk, blk < 4 ∧ rowAt S I rs t 0 = Int32.ofNat blk ∧ I 10 (24 * blk + inBlock (rowAt S I rs) (Int32.ofNat blk) t) = rowAt S I rs t 1 ∧ I 11 (24 * blk + inBlock (rowAt S I rs) (Int32.ofNat blk) t) = rowAt S I rs t 2) ∧
  (stmtsOk (rowAt S I rs) ns nn) ∧
  (∀ blk, blk < 4 → I 9 blk = Int32.ofNat (inBlock (rowAt S I rs) (Int32.ofNat blk) ns)) ∧
  (sumTo (looseSz I (rowAt S I rn)) nn + sumTo (rootSz (rowAt S I rn) (rowAt S I rs)) ns = nn)
section LwP
variable {S : im_S} {I : im_I} {rn nn rs ns : Nat}
theorem Lw_old (h : Lw S I rn nn rs ns) : oldS S := h.1
theorem Lw_own (h : Lw S I rn nn rs ns) : o_X12 S 125 rn nn rs ns := h.2.1
theorem Lw_rowsN (h : Lw S I rn nn rs ns) : rowsOk S rn nn := h.2.2.1
theorem Lw_rowsS (h : Lw S I rn nn rs ns) : rowsOk S rs ns := h.2.2.2.1
theorem Lw_n80 (h : Lw S I rn nn rs ns) : nn ≤ 80 := h.2.2.2.2.1
theorem Lw_s24 (h : Lw S I rn nn rs ns) : ns ≤ 24 := h.2.2.2.2.2.1
theorem Lw_c0 (h : Lw S I rn nn rs ns) : I 3 0 = Int32.ofNat nn := h.2.2.2.2.2.2.1
theorem Lw_c1 (h : Lw S I rn nn rs ns) : I 3 1 = Int32.ofNat ns := h.2.2.2.2.2.2.2.1
theorem Lw_n5 (h : Lw S I rn nn rs ns) : ∀ j, j < nn → I 5 j = rowAt S I rn j 0 := h.2.2.2.2.2.2.2.2.1
theorem Lw_n6 (h : Lw S I rn nn rs ns) : ∀ j, j < nn → I 6 j = rowAt S I rn j 1 := h.2.2.2.2.2.2.2.2.2.1
theorem Lw_n7 (h : Lw S I rn nn rs ns) : ∀ j, j < nn → I 7 j = rowAt S I rn j 2 := h.2.2.2.2.2.2.2.2.2.2.1
theorem Lw_nodes (h : Lw S I rn nn rs ns) : nodesOk (rowAt S I rn) nn := h.2.2.2.2.2.2.2.2.2.2.2.1
theorem Lw_kinds (h : Lw S I rn nn rs ns) : ∀ j, j < nn → 0 ≤ (rowAt S I rn j 0).toInt ∧ (rowAt S I rn j 0).toInt ≤ 5 := h.2.2.2.2.2.2.2.2.2.2.2.2.1
theorem Lw_stm (h : Lw S I rn nn rs ns) : ∀ t, t < ns → ∃ blk, blk < 4 ∧ rowAt S I rs t 0 = Int32.ofNat blk ∧ I 10 (24 * blk + inBlock (rowAt S I rs) (Int32.ofNat blk) t) = rowAt S I rs t 1 ∧ I 11 (24 * blk + inBlock (rowAt S I rs) (Int32.ofNat blk) t) = rowAt S I rs t 2 := h.2.2.2.2.2.2.2.2.2.2.2.2.2.1
theorem Lw_stOk (h : Lw S I rn nn rs ns) : stmtsOk (rowAt S I rs) ns nn := h.2.2.2.2.2.2.2.2.2.2.2.2.2.2.1
theorem Lw_cnts (h : Lw S I rn nn rs ns) : ∀ blk, blk < 4 → I 9 blk = Int32.ofNat (inBlock (rowAt S I rs) (Int32.ofNat blk) ns) := h.2.2.2.2.2.2.2.2.2.2.2.2.2.2.2.1
theorem Lw_sum (h : Lw S I rn nn rs ns) : sumTo (looseSz I (rowAt S I rn)) nn + sumTo (rootSz (rowAt S I rn) (rowAt S I rs)) ns = nn := h.2.2.2.2.2.2.2.2.2.2.2.2.2.2.2.2
end LwP
section LwS
variable {S : im_S} {I : im_I} {rn nn rs ns : Nat}
theorem Lw_hi (h : Lw S I rn nn rs ns) {x : Nat} (hx : im_k S x = (20, 3)) : 125 ≤ x := by
  apply Nat.le_of_not_lt
  intro hlt
  exact SM_k x hlt (((Lw_old h) x hlt).1.symm.trans hx)
theorem SM_21 : ∀ x, x < 125 → (im_k SM x).1 ≠ 21 := by decide +kernel
theorem Lw_hiR (h : Lw S I rn nn rs ns) {x n : Nat} (hx : im_k S x = (21, n)) : 125 ≤ x := by
  apply Nat.le_of_not_lt
  intro hlt
  have e := ((Lw_old h) x hlt).1.symm.trans hx
  exact SM_21 x hlt (congrArg Prod.fst e)
end LwS
/-- the program's rows with one node more -/
theorem addNode_mem {I : im_I} {nn : Nat} {kd x y : Int32} (h : I 3 0 = Int32.ofNat nn) (hn : nn < 80) :
    (addNode_ I 3 kd x y 3 0 = Int32.ofNat (nn + 1)) ∧ (∀ q, q ≠ 0 → addNode_ I 3 kd x y 3 q = I 3 q) ∧ (∀ j, addNode_ I 3 kd x y 5 j = if j = nn then kd else I 5 j) ∧ (∀ j, addNode_ I 3 kd x y 6 j = if j = nn then x else I 6 j) ∧ (∀ j, addNode_ I 3 kd x y 7 j = if j = nn then y else I 7 j) ∧ (∀ b, b ≠ 3 → b ≠ 5 → b ≠ 6 → b ≠ 7 → b ≠ 8 → addNode_ I 3 kd x y b = I b) := by
  have hp : ∀ (J : im_I) (r : Nat) (v : Int32), put_ J r 80 (Int32.ofNat nn) v = im_up J r nn v := fun J r v => put_c (ofNat_nlt (by omega)) (by rw [Int32.le_iff_toInt_le, ofNat_int (by omega), ofNat_int (by omega)]; omega) (ofNat_nat (by omega))
  have e3 : ∀ (J : im_I) (i v : Int32), put_ J 8 80 i v 3 = J 3 := fun J i v => put_fr (by decide)
  have e5 : ∀ (J : im_I) (i v : Int32), put_ J 8 80 i v 5 = J 5 := fun J i v => put_fr (by decide)
  have e6 : ∀ (J : im_I) (i v : Int32), put_ J 8 80 i v 6 = J 6 := fun J i v => put_fr (by decide)
  have e7 : ∀ (J : im_I) (i v : Int32), put_ J 8 80 i v 7 = J 7 := fun J i v => put_fr (by decide)
  refine ⟨?_, fun q hq => ?_, fun j => ?_, fun j => ?_, fun j => ?_, fun b h3 h5 h6 h7 h8 => ?_⟩
  · unfold addNode_
    simp only [h, hp, Nat.reduceAdd]
    rw [im_up_same]
    split
    · rw [← ofNat_succ (by omega), ← h]; simp [im_up]
    · rw [e3, e3, ← ofNat_succ (by omega), ← h]; simp [im_up]
  · unfold addNode_
    simp only [h, hp, Nat.reduceAdd]
    rw [up_ne hq]
    split
    · simp [im_up]
    · rw [e3, e3]; simp [im_up]
  · unfold addNode_
    simp only [h, hp, Nat.reduceAdd]
    rw [up_fr (by decide)]
    split
    · simp [im_up]
    · rw [e5, e5]; simp [im_up]
  · unfold addNode_
    simp only [h, hp, Nat.reduceAdd]
    rw [up_fr (by decide)]
    split
    · simp [im_up]
    · rw [e6, e6]; simp [im_up]
  · unfold addNode_
    simp only [h, hp, Nat.reduceAdd]
    rw [up_fr (by decide)]
    split
    · simp [im_up]
    · rw [e7, e7]; simp [im_up]
  · unfold addNode_
    simp only [h, hp, Nat.reduceAdd]
    rw [up_fr h3]
    split
    · rw [up_fr h8, up_fr h7, up_fr h6, up_fr h5]
    · rw [put_fr h8, put_fr h8, up_fr h8, up_fr h7, up_fr h6, up_fr h5]
