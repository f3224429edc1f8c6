/-! Own.meant, as a pure function: the statements' row rs of ns, the nodes' row rn of nn, the result's row b -/
def ownStep_ (S : im_S) (rn nn rs b : Nat) (blk i : Int32) (J : im_I) : im_I :=
  if rowAt S J rs i.toNatClampNeg 0 = blk then im_up J b (rowAt S J rs i.toNatClampNeg 1).toNatClampNeg (worth_ (rowAt S J rn) (J b) nn (rowAt S J rs i.toNatClampNeg 2).toNatClampNeg) else J
def ownSts_ (S : im_S) (rn nn rs ns b : Nat) (blk : Int32) (J : im_I) : im_I := loopC 0 (Int32.ofNat ns) (ownStep_ S rn nn rs b blk) J
def ownBlock_ (S : im_S) (a rn nn rs ns b : Nat) (blk : Int32) (J : im_I) : im_I := loopC 0 (J (a + 3) blk.toNatClampNeg) (fun _ K => ownSts_ S rn nn rs ns b blk K) J
def ownAll_ (S : im_S) (a rn nn rs ns b : Nat) (I : im_I) : im_I := loopC 0 4 (ownBlock_ S a rn nn rs ns b) I
theorem ownStep_fr {S : im_S} {rn nn rs b x : Nat} {blk i : Int32} {J : im_I} (hx : x ≠ b) : ownStep_ S rn nn rs b blk i J x = J x := by
  unfold ownStep_
  split
  · exact up_fr hx
  · rfl
theorem ownSts_fr {S : im_S} {rn nn rs ns b x : Nat} {blk : Int32} {J : im_I} (hx : x ≠ b) : ownSts_ S rn nn rs ns b blk J x = J x := loopN_fr (fun _ _ => ownStep_fr hx) _ _ _
theorem ownBlock_fr {S : im_S} {a rn nn rs ns b x : Nat} {blk : Int32} {J : im_I} (hx : x ≠ b) : ownBlock_ S a rn nn rs ns b blk J x = J x := loopN_fr (fun _ _ => ownSts_fr hx) _ _ _
theorem ownAll_fr {S : im_S} {a rn nn rs ns b x : Nat} {J : im_I} (hx : x ≠ b) : ownAll_ S a rn nn rs ns b J x = J x := loopN_fr (fun _ _ => ownBlock_fr hx) _ _ _
theorem nneg_step {i e : Int32} (h : ¬ i < 0) (c : ¬ e ≤ i) : ¬ i + 1 < 0 := by
  have c1 := Int32.le_iff_toInt_le.mp (Int32.not_lt.mp h)
  have c2 := Int32.lt_iff_toInt_lt.mp (Int32.not_le.mp c)
  have e0 : (0 : Int32).toInt = 0 := by decide
  have e1 : (1 : Int32).toInt = 1 := by decide
  have hm := e.toInt_le
  have hm2 : Int32.maxValue.toInt = 2147483647 := by decide
  rw [Int32.lt_iff_toInt_lt, Int32.toInt_add, e1, Int.bmod_eq_of_le (by omega) (by omega)]
  omega
/-- statements as they are drawn: they write variables below 8, and are of nodes -/
def stmtsOk (f : Nat → Nat → Int32) (ns nn : Nat) : Prop := ∀ j : Nat, j < ns → vp_in (f j 1) 8 ∧ ∃ x, x < nn ∧ x < nn ∧ f j 2 = Int32.ofNat x
theorem vp_nat {i : Int32} {n : Nat} (h : vp_in i n) : i.toNatClampNeg < n := Nat.not_le.mp fun e => h (Or.inr e)
theorem rowsOk_al {S : im_S} {b t n r q : Nat} (hb : im_n S + 2 = b) (hr : r ≠ b) (h : rowsOk S r q) : rowsOk (im_alS S b t n) r q := by
  intro j hj
  obtain ⟨h1, h2⟩ := h j hj
  have e : im_r (im_alS S b t n) r j = im_r S r j := rr_al hr rfl
  rw [e]
  exact ⟨h1, kk_al hb h2 (by decide)⟩
theorem rowAt_al {S : im_S} {b t n r : Nat} {I : im_I} (hr : r ≠ b) : rowAt (im_alS S b t n) I r = rowAt S I r := by
  funext j q
  show I (im_r (im_alS S b t n) r j - 1) q = I (im_r S r j - 1) q
  rw [show im_r (im_alS S b t n) r j = im_r S r j from rr_al hr rfl]
theorem o_X12_al {S : im_S} {b t n a rn nn rs ns : Nat} (hb : im_n S + 2 = b) (h : o_X12 S a rn nn rs ns) (ha : a ≠ b) : o_X12 (im_alS S b t n) a rn nn rs ns :=
  ⟨kk_al hb h.1 (by decide), rr_al ha (o_X12_r0 h), kk_al hb (o_X12_a0 h) (show 21 < 99 by decide), rr_al ha (o_X12_r1 h), kk_al hb (o_X12_a1 h) (show 21 < 99 by decide), rr_al ha (o_X12_r2 h), kk_al hb (o_X12_a2 h) (by decide), rr_al ha (o_X12_r3 h), kk_al hb (o_X12_a3 h) (by decide)⟩
theorem rowAt_eq {S : im_S} {I J : im_I} {r n : Nat} {P : (Nat → Nat → Int32) → Nat → Prop} (hP : ∀ f g : Nat → Nat → Int32, (∀ j, j < n → f j = g j) → P f n → P g n) (he : ∀ j, j < n → J (im_r S r j - 1) = I (im_r S r j - 1)) (h : P (rowAt S I r) n) : P (rowAt S J r) n :=
  hP _ _ (fun j hj => by funext q; exact (congrFun (he j hj) q).symm) h
theorem nodesOk_congr {f g : Nat → Nat → Int32} {n : Nat} (h : ∀ j, j < n → f j = g j) (hf : nodesOk f n) : nodesOk g n := by
  intro j hj
  have := hf j hj
  rw [h j hj] at this
  exact this
theorem stmtsOk_congr {f g : Nat → Nat → Int32} {n m : Nat} (h : ∀ j, j < n → f j = g j) (hf : stmtsOk f n m) : stmtsOk g n m := by
  intro j hj
  have := hf j hj
  rw [h j hj] at this
  exact this
