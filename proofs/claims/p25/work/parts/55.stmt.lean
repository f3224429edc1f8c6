/-! a statement more: the rows -/
def stmtS_ (S : im_S) (a rs ns b : Nat) : im_S := im_upr (withS_ (im_alS S b 20 3) rs b ns (b + 1)) a 1 (b + 1 + 1)
section StmtS
variable {S : im_S} {a rn nn b : Nat}
theorem stmtS_k {x : Nat} {v : Nat × Nat} (hb : im_n S + 2 = b) (h : im_k S x = v) (hv : v.1 < 99) : im_k (stmtS_ S a rn nn b) x = v :=
  kk_al (S := im_alS S b 20 3) (by show im_n S + 1 + 2 = b + 1; omega) (kk_al hb h hv) hv
theorem stmtS_kb (hb : im_n S + 2 = b) : im_k (stmtS_ S a rn nn b) b = (20, 3) :=
  kk_al (S := im_alS S b 20 3) (by show im_n S + 1 + 2 = b + 1; omega) (kk_new hb) (by decide)
theorem stmtS_kr (hb : im_n S + 2 = b) : im_k (stmtS_ S a rn nn b) (b + 1) = (21, nn + 1) :=
  kk_new (S := im_alS S b 20 3) (by show im_n S + 1 + 2 = b + 1; omega)
theorem stmtS_klt {x : Nat} (hb : im_n S + 2 = b) (hx : x < b) : im_k (stmtS_ S a rn nn b) x = im_k S x :=
  (al_klt (S := im_alS S b 20 3) (by show im_n S + 1 + 2 = b + 1; omega) (by omega)).trans (al_klt hb hx)
theorem stmtS_r {x j : Nat} (h1 : x ≠ b) (h2 : x ≠ b + 1) (h3 : ¬ (x = a ∧ j = 1)) : im_r (stmtS_ S a rn nn b) x j = im_r S x j := by
  unfold stmtS_ withS_
  rw [im_r_upr, if_neg h3, im_r_upr, if_neg (fun e => h2 e.1)]
  show (if x = b + 1 then _ else im_r (im_alS (im_alS S b 20 3) (b + 1) 21 (nn + 1)) x j) = _
  rw [if_neg h2]
  exact rr_al h2 (rr_al h1 rfl)
theorem stmtS_own : im_r (stmtS_ S a rn nn b) a 1 = b + 1 + 1 := rr_new
theorem stmtS_new (ha : b + 1 ≠ a) : im_r (stmtS_ S a rn nn b) (b + 1) nn = b + 1 := by
  unfold stmtS_ withS_
  rw [im_r_upr, if_neg (fun e => ha e.1), im_r_upr, if_pos ⟨rfl, rfl⟩]
theorem stmtS_row {j : Nat} (ha : b + 1 ≠ a) (h1 : rn ≠ b) (h2 : rn ≠ b + 1) (hj : j < nn) : im_r (stmtS_ S a rn nn b) (b + 1) j = im_r S rn j := by
  unfold stmtS_ withS_
  rw [im_r_upr, if_neg (fun e => ha e.1), im_r_upr, if_neg (fun e => absurd e.2 (by omega))]
  show (if b + 1 = b + 1 then va_cpy _ _ 0 0 nn j else _) = _
  rw [if_pos rfl]
  have e : im_r (im_alS (im_alS S b 20 3) (b + 1) 21 (nn + 1)) rn j = im_r S rn j := rr_al h2 (rr_al h1 rfl)
  rw [← e]
  simp [va_cpy, hj]
  rfl
end StmtS
/-- the program's rows with one statement more: block bl < 4, its count c < 24, node q < 80 -/
theorem addStatement_mem {I : im_I} {bl c q ns : Nat} {v : Int32} (hbl : bl < 4) (h9 : I 9 bl = Int32.ofNat c) (hc : c < 24) (hq : q < 80) (h1 : I 3 1 = Int32.ofNat ns) (hn : ns < 100) :
    addStatement_ I 3 (Int32.ofNat bl) v (Int32.ofNat q) = im_up (im_up (im_up (im_up (im_up I 10 (24 * bl + c) v) 11 (24 * bl + c) (Int32.ofNat q)) 8 q 1) 9 bl (Int32.ofNat (c + 1))) 3 1 (Int32.ofNat (ns + 1)) ∧ statementsIn_ I 3 (Int32.ofNat bl) = Int32.ofNat c := by
  have e24 : (24 : Int32).toInt = 24 := by decide
  have hs : statementsIn_ I 3 (Int32.ofNat bl) = Int32.ofNat c := by
    unfold statementsIn_
    rw [at_in (ofNat_nlt (by omega)) (by rw [Int32.le_iff_toInt_le, ofNat_int (by omega), ofNat_int (by omega)]; omega), ofNat_nat (by omega)]
    exact h9
  have hp : placeOf_ (Int32.ofNat bl) (Int32.ofNat c) = Int32.ofNat (24 * bl + c) := by
    unfold placeOf_
    apply Int32.toInt_inj.mp
    have m1 : (Int32.ofNat bl * 24).toInt = bl * 24 := by
      rw [Int32.toInt_mul, ofNat_int (by omega), e24]
      exact Int.bmod_eq_of_le (by omega) (by omega)
    rw [Int32.toInt_add, m1, ofNat_int (by omega), ofNat_int (by omega), Int.bmod_eq_of_le (by omega) (by omega)]
    omega
  have p96 : ∀ (J : im_I) (r : Nat) (z : Int32), put_ J r 96 (Int32.ofNat (24 * bl + c)) z = im_up J r (24 * bl + c) z := fun J r z => put_c (ofNat_nlt (by omega)) (by rw [Int32.le_iff_toInt_le, ofNat_int (by omega), ofNat_int (by omega)]; omega) (ofNat_nat (by omega))
  have p80 : ∀ (J : im_I) (r : Nat) (z : Int32), put_ J r 80 (Int32.ofNat q) z = im_up J r q z := fun J r z => put80 hq
  have p4 : ∀ (J : im_I) (r : Nat) (z : Int32), put_ J r 4 (Int32.ofNat bl) z = im_up J r bl z := fun J r z => put_c (ofNat_nlt (by omega)) (by rw [Int32.le_iff_toInt_le, ofNat_int (by omega), ofNat_int (by omega)]; omega) (ofNat_nat (by omega))
  refine ⟨?_, hs⟩
  unfold addStatement_
  simp only [hs, hp, p96, p80, p4, Nat.reduceAdd]
  rw [up_fr (show 3 ≠ 9 by decide), up_fr (show 3 ≠ 8 by decide), up_fr (show 3 ≠ 11 by decide), up_fr (show 3 ≠ 10 by decide), h1, ofNat_succ (by omega), ofNat_succ (by omega)]
