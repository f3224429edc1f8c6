/-! the law's write: what it draws -/
def wrX_ (k : im_K) (p i : Int32) : Int32 := cell_ k ((i + p) - (i + p) / 16 * 16)
def wrB_ (k : im_K) (p m i : Int32) : Int32 := if i * 4 / m + below_ (wrX_ k p i) 2 < 3 then i * 4 / m + below_ (wrX_ k p i) 2 else 3
def wrV_ (k : im_K) (p i : Int32) : Int32 := below_ (wrX_ k p i >>> ((3 : Int32) &&& 31)) 6
theorem min3 {z : Int32} (h : 0 ≤ z.toInt) : ∃ bl, bl < 4 ∧ (if z < 3 then z else 3) = Int32.ofNat bl := by
  by_cases c : z < 3
  · have c2 := Int32.lt_iff_toInt_lt.mp c
    rw [show (3 : Int32).toInt = 3 by decide] at c2
    refine ⟨z.toInt.toNat, by omega, ?_⟩
    rw [if_pos c]
    apply Int32.toInt_inj.mp
    rw [ofNat_int (show z.toInt.toNat ≤ 1000 by omega)]
    omega
  · exact ⟨3, by decide, by rw [if_neg c]; rfl⟩
theorem wr_block {k : im_K} {p : Int32} {m i : Nat} (hi : i < m) (hm : m ≤ 100) : ∃ bl, bl < 4 ∧ wrB_ k p (Int32.ofNat m) (Int32.ofNat i) = Int32.ofNat bl := by
  refine min3 ?_
  have e4 : (4 : Int32).toInt = 4 := by decide
  have hb := below_range (v := wrX_ k p (Int32.ofNat i)) (n := 2) (by decide)
  rw [show (2 : Int32).toInt = 2 by decide] at hb
  have d1 : (Int32.ofNat i * 4).toInt = i * 4 := by
    rw [Int32.toInt_mul, ofNat_int (by omega), e4]
    exact Int.bmod_eq_of_le (by omega) (by omega)
  have q1 : (0 : Int) ≤ (i : Int) * 4 / (m : Int) := Int.ediv_nonneg (by omega) (by omega)
  have q3 : (i : Int) * 4 / (m : Int) ≤ (i : Int) * 4 := Int.ediv_le_self _ (by omega)
  have d2 : (Int32.ofNat i * 4 / Int32.ofNat m).toInt = (i : Int) * 4 / (m : Int) := by
    rw [Int32.toInt_div, d1, ofNat_int (by omega), Int.tdiv_eq_ediv_of_nonneg (by omega)]
    exact Int.bmod_eq_of_le (by omega) (by omega)
  rw [Int32.toInt_add, d2, Int.bmod_eq_of_le (by omega) (by omega)]
  omega
/-- counting the statements of a block -/
def there_ (S : im_S) (I : im_I) (rs : Nat) (bl t c : Int32) : Int32 := c + if rowAt S I rs t.toNatClampNeg 0 = bl then 1 else 0
theorem there_n {S : im_S} {I : im_I} {rs : Nat} {bl : Int32} : ∀ (n i c : Nat), i + n ≤ 100 → c ≤ 1 + i → ∃ d, loopN n (Int32.ofNat i) (there_ S I rs bl) (Int32.ofNat c) = Int32.ofNat d ∧ d + inBlock (rowAt S I rs) bl i = c + inBlock (rowAt S I rs) bl (i + n)
  | 0, i, c, _, _ => ⟨c, by rw [loopN_0], rfl⟩
  | n + 1, i, c, h, hc => by
    rw [loopN_s, ofNat_succ (by omega)]
    unfold there_
    rw [ofNat_nat (by omega)]
    by_cases w : rowAt S I rs i 0 = bl
    · rw [if_pos w, ofNat_succ (by omega)]
      obtain ⟨d, e1, e2⟩ := there_n (S := S) (I := I) (rs := rs) (bl := bl) n (i + 1) (c + 1) (by omega) (by omega)
      refine ⟨d, e1, ?_⟩
      have e3 : inBlock (rowAt S I rs) bl (i + 1) = inBlock (rowAt S I rs) bl i + 1 := by
        show _ + (if _ then 1 else 0) = _
        rw [if_pos w]
      rw [e3, show i + 1 + n = i + (n + 1) by omega] at e2
      omega
    · rw [if_neg w, Int32.add_zero]
      obtain ⟨d, e1, e2⟩ := there_n (S := S) (I := I) (rs := rs) (bl := bl) n (i + 1) c (by omega) (by omega)
      refine ⟨d, e1, ?_⟩
      have e3 : inBlock (rowAt S I rs) bl (i + 1) = inBlock (rowAt S I rs) bl i := by
        show _ + (if _ then 1 else 0) = _
        rw [if_neg w]
        rfl
      rw [e3, show i + 1 + n = i + (n + 1) by omega] at e2
      omega
theorem there_all {S : im_S} {I : im_I} {rs ns : Nat} {bl : Int32} (h : ns ≤ 24) : loopC 0 (Int32.ofNat ns) (there_ S I rs bl) 1 = Int32.ofNat (inBlock (rowAt S I rs) bl ns) + 1 := by
  have e : cnt 0 (Int32.ofNat ns) = ns := by
    unfold cnt
    rw [ofNat_int (by omega), show (0 : Int32).toInt = 0 by decide]
    omega
  unfold loopC
  rw [e]
  obtain ⟨d, e1, e2⟩ := there_n (S := S) (I := I) (rs := rs) (bl := bl) ns 0 1 (by omega) (by omega)
  have e3 : inBlock (rowAt S I rs) bl 0 = 0 := rfl
  rw [Nat.zero_add, e3] at e2
  have hle := inBlock_le (g := rowAt S I rs) (z := bl) (t := ns)
  refine Eq.trans e1 ?_
  rw [ofNat_succ (by omega)]
  congr 1
  omega
