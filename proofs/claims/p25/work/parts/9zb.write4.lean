/-! the law's write, whole -/
section
variable {k : im_K} {S : im_S} {I : im_I} {rn nn rs ns : Nat}
theorem timesStep_fr {z : Nat} {i : Int32} {J : im_I} (h : z ≠ 2 ∧ z ≠ 4 ∧ z ≠ 128) : timesStep_ k i J z = J z :=
  (forget_fr h.1).trans ((put_fr h.2.1).trans (up_fr h.2.2))
theorem times_all : (∀ b, b < 4 → times_ k I 4 b = timesV_ k (nI b) ∧ times_ k I 128 b = timesV_ k (nI b)) ∧ ∀ z, z ≠ 2 ∧ z ≠ 4 ∧ z ≠ 128 → times_ k I z = I z := by
  unfold times_
  rw [show (4 : Int32) = nI 4 by decide, loopC_nat0 (by decide)]
  refine itN_inv (n := 4) (s := I) (fun j K => (∀ b, b < j → K 4 b = timesV_ k (nI b) ∧ K 128 b = timesV_ k (nI b)) ∧ ∀ z, z ≠ 2 ∧ z ≠ 4 ∧ z ≠ 128 → K z = I z) ⟨fun b hb => absurd hb (by omega), fun _ _ => rfl⟩ (fun j K hj hK => ?_)
  obtain ⟨k1, k2⟩ := hK
  refine ⟨fun b hb => ?_, fun z hz => (timesStep_fr hz).trans (k2 z hz)⟩
  unfold timesStep_
  rw [show (nI j).toNatClampNeg = j from ofNat_nat (by omega), forget_fr (show 4 ≠ 2 by decide), forget_fr (show 128 ≠ 2 by decide), put_nat hj (by decide), up_row, up_fr (show 128 ≠ 4 by decide), up_row, up_fr (show 4 ≠ 125 + 3 by decide)]
  by_cases c : b = j
  · rw [if_pos c, if_pos c, c]
    exact ⟨rfl, rfl⟩
  · rw [if_neg c, if_neg c]
    exact k1 b (by omega)
theorem wrOut_fr {z : Nat} (h : z ≠ 2 ∧ z ≠ 3 ∧ z ≠ 4 ∧ z ≠ 125 ∧ z ≠ 128) : wrOut_ k I z = I z :=
  (forget_fr h.1).trans ((up_fr h.2.1).trans ((up_fr h.2.2.2.1).trans (times_all.2 z ⟨h.1, h.2.2.1, h.2.2.2.2⟩)))
theorem wrOut_3 {q : Nat} : wrOut_ k I 3 q = if q = 2 then outV_ k else I 3 q := by
  unfold wrOut_
  rw [forget_fr (by decide), up_row, up_fr (show 3 ≠ 125 by decide), times_all.2 3 (by decide)]
theorem wrOut_125 {q : Nat} : wrOut_ k I 125 q = if q = 9 then outV_ k else I 125 q := by
  unfold wrOut_
  rw [forget_fr (by decide), up_fr (show 125 ≠ 3 by decide), up_row, times_all.2 125 (by decide)]
theorem wrOut_t {b : Nat} (hb : b < 4) : wrOut_ k I 4 b = timesV_ k (nI b) ∧ wrOut_ k I 128 b = timesV_ k (nI b) := by
  unfold wrOut_
  rw [forget_fr (show 4 ≠ 2 by decide), forget_fr (show 128 ≠ 2 by decide), up_fr (show 4 ≠ 3 by decide), up_fr (show 4 ≠ 125 by decide), up_fr (show 128 ≠ 3 by decide), up_fr (show 128 ≠ 125 by decide)]
  exact times_all.1 b hb
theorem latV_nat {i : Int32} : ∃ j, 1 ≤ j ∧ j ≤ 9 ∧ latV_ k i = nI j := by
  obtain ⟨j, e, h1, h2⟩ := one_below (v := cell_ k (i + 4) >>> ((3 : Int32) &&& 31)) (n := 9) (by decide) (by decide)
  rw [show (9 : Int32).toInt = 9 by decide] at h2
  exact ⟨j, h1, by omega, e⟩
theorem latV_ge' (k : im_K) (i : Int32) : ¬ latV_ k i < 1 := by
  obtain ⟨j, j1, j9, e⟩ := latV_nat (k := k) (i := i)
  rw [e]
  exact nI_nlt (a := j) (b := 1) j1 (by omega)
theorem latV_le' (k : im_K) (i : Int32) : latV_ k i ≤ 9 := by
  obtain ⟨j, j1, j9, e⟩ := latV_nat (k := k) (i := i)
  rw [e]
  exact nI_le (a := j) (b := 9) j9 (by decide)
theorem mach1_15 {p : Int32} : mach1_ k 125 p I 15 0 = machR_ k p ∧ mach1_ k 125 p I 15 1 = machK_ k p ∧ mach1_ k 125 p I 15 2 = machS_ k p ∧ mach1_ k 125 p I 15 3 = machF_ k p ∧ mach1_ k 125 p I 15 4 = machT_ k p := by
  unfold mach1_
  simp only [mach0_R, mach0_K, mach0_S, mach0_F, mach0_T, forget_fr (show 15 ≠ 2 by decide), up_row]
  exact ⟨rfl, rfl, rfl, rfl, rfl⟩
theorem mach1_125 {p : Int32} : mach1_ k 125 p I 125 = mach0_ k 125 p I 125 := by
  unfold mach1_
  simp only [forget_fr (show 125 ≠ 2 by decide), up_fr (show 125 ≠ 15 by decide)]
theorem mach1_8 {p : Int32} : mach1_ k 125 p I 2 8 = 0 := by
  unfold mach1_ forget_
  rw [up_row, if_neg (by decide), im_up_same]
theorem mach_all {p : Int32} (hl : LatOk I 15) : LatOk (mach_ k 125 p I) 15 ∧ mach_ k 125 p I 2 8 = 0 ∧ ∀ z, z ≠ 2 ∧ z ≠ 16 ∧ z ≠ 129 → mach_ k 125 p I z = mach1_ k 125 p I z := by
  unfold mach_
  rw [show (8 : Int32) = nI 8 by decide, loopC_nat0 (by decide)]
  refine itN_inv (n := 8) (s := mach1_ k 125 p I) (fun j K => LatOk K 15 ∧ K 2 8 = 0 ∧ ∀ z, z ≠ 2 ∧ z ≠ 16 ∧ z ≠ 129 → K z = mach1_ k 125 p I z) ⟨LatOk_f hl (mach1_fr (by decide) (by decide) (by decide)), mach1_8, fun _ _ => rfl⟩ (fun j K hj hK => ?_)
  obtain ⟨k1, k2, k3⟩ := hK
  refine ⟨fun q hq => ?_, ?_, fun z hz => (latStep_fr hz.2.2 hz.2.1 hz.1).trans (k3 z hz)⟩
  · unfold latStep_
    split
    · rw [forget_fr (show 15 + 1 ≠ 2 by decide)]
      show ∃ l, 1 ≤ l ∧ l ≤ 9 ∧ put_ (im_up K (125 + 4) (nI j).toNatClampNeg (latV_ k (nI j))) 16 8 (nI j) (latV_ k (nI j)) 16 q = nI l
      rw [put_nat hj (by decide), up_row]
      by_cases c : q = j
      · rw [if_pos c]
        exact latV_nat
      · rw [if_neg c, up_fr (show 16 ≠ 125 + 4 by decide)]
        exact k1 q hq
    · exact k1 q hq
  · unfold latStep_
    split
    · unfold forget_
      rw [up_row, if_neg (by decide), im_up_same]
    · exact k2
theorem machR_nat {p : Int32} : ∃ R, machR_ k p = nI R ∧ 5 ≤ R ∧ R ≤ 11 := by
  obtain ⟨j, e, hj⟩ := below_nat (v := cell_ k (p + 6) >>> ((2 : Int32) &&& 31)) (n := 7) (m := 7) rfl (by decide) (by decide)
  refine ⟨5 + j, ?_, by omega, by omega⟩
  unfold machR_
  rw [e, show (5 : Int32) = nI 5 from rfl, nI_add]
theorem machK_ok {p : Int32} : ∃ R, mcV (machR_ k p) (machK_ k p) R ∧ isMachine_ (machR_ k p) (machK_ k p) = true := by
  obtain ⟨R, hr, h5, h11⟩ := machR_nat (k := k) (p := p)
  obtain ⟨a, b⟩ := keeps_ok (v := cell_ k (p + 7)) hr h5 h11
  exact ⟨R, a, b⟩
theorem machS_ok {p : Int32} : ¬ machS_ k p < 0 ∧ machS_ k p ≤ 99 := by
  obtain ⟨j, e, hj⟩ := below_nat (v := cell_ k (p + 8)) (n := 25) (m := 25) (by decide) (by decide) (by decide)
  unfold machS_
  rw [e]
  exact ⟨nI_pos (by omega), nI_le (a := j) (b := 99) (by omega) (by decide)⟩
theorem machF_01 {p : Int32} : machF_ k p = 0 ∨ machF_ k p = 1 := by
  unfold machF_
  split
  · exact Or.inl rfl
  · exact Or.inr rfl
theorem machT_01 {p : Int32} : machT_ k p = 0 ∨ machT_ k p = 1 := by
  unfold machT_
  split
  · exact Or.inr rfl
  · exact Or.inl rfl
theorem out_ok : ¬ outV_ k < 0 ∧ outV_ k ≤ 255 := by
  obtain ⟨j, e, hj⟩ := below_nat (v := cell_ k 9) (n := 64) (m := 64) (by decide) (by decide) (by decide)
  have key : ∀ j, j < 64 → ¬ (nI j ||| 1) < 0 ∧ (nI j ||| 1) ≤ 255 := by decide
  unfold outV_
  rw [e]
  exact key j hj
/-- what stands when the write is done -/
theorem Rd_write {p : Int32} (h : Lw S I rn nn rs ns) (hRt : ∀ j, I 11 j < 1000) (hl : LatOk I 15) : ∃ tm, Rd S (wrEnd_ k p I) rn nn rs ns tm := by
  have hlO : LatOk (wrOut_ k I) 15 := LatOk_f hl (wrOut_fr (by decide))
  obtain ⟨m1, m2, m3⟩ := mach_all (k := k) (p := p) hlO
  have f1 : ∀ z, z ≠ 2 ∧ z ≠ 15 ∧ z ≠ 16 ∧ z ≠ 125 ∧ z ≠ 129 → wrEnd_ k p I z = wrOut_ k I z := fun z hz => (m3 z (by omega)).trans (mach1_fr (by omega) (by omega) (by omega))
  have f2 : ∀ z, z ≠ 2 ∧ z ≠ 3 ∧ z ≠ 4 ∧ z ≠ 15 ∧ z ≠ 16 ∧ z ≠ 125 ∧ z ≠ 128 ∧ z ≠ 129 → wrEnd_ k p I z = I z := fun z hz => (f1 z (by omega)).trans (wrOut_fr (by omega))
  have e15 : wrEnd_ k p I 15 = mach1_ k 125 p (wrOut_ k I) 15 := m3 15 (by decide)
  have e125 : wrEnd_ k p I 125 = mach0_ k 125 p (wrOut_ k I) 125 := (m3 125 (by decide)).trans mach1_125
  have e3 : ∀ q, wrEnd_ k p I 3 q = if q = 2 then outV_ k else I 3 q := fun q => (congrFun (f1 3 (by decide)) q).trans wrOut_3
  obtain ⟨a0, a1, a2, a3, a4⟩ := mach1_15 (k := k) (p := p) (I := wrOut_ k I)
  obtain ⟨R, hv, -⟩ := machK_ok (k := k) (p := p)
  obtain ⟨s0, s1⟩ := machS_ok (k := k) (p := p)
  have o9 : mach0_ k 125 p (wrOut_ k I) 125 9 = outV_ k := by
    unfold mach0_
    simp only [up_row]
    rw [if_neg (by decide), if_neg (by decide), if_neg (by decide), if_neg (by decide), if_neg (by decide), wrOut_125, if_pos rfl]
  refine ⟨fun b => (timesV_ k (nI b)).toNatClampNeg, Lw_fr h (by rw [e3, if_neg (by decide)]) (by rw [e3, if_neg (by decide)]) (fun z z1 z2 => f2 z (by omega)) (fun c hc => ?_), fun j => by rw [f2 11 (by decide)]; exact hRt j, fun b hb => ?_, ⟨⟨R, ?_⟩, m1, ?_, ?_⟩, ?_, fun x => absurd m2 x⟩
  · have c1 := Lw_hi h hc
    have n1 : c ≠ 125 := fun e => by rw [e, o_X12_k (Lw_own h)] at hc; cases hc
    have n2 : c ≠ 128 := fun e => by rw [e, show im_k S 128 = (20, 4) from o_X12_a2 (Lw_own h)] at hc; cases hc
    have n3 : c ≠ 129 := fun e => by rw [e, show im_k S 129 = (20, 8) from o_X12_a3 (Lw_own h)] at hc; cases hc
    exact f2 c (by omega)
  · obtain ⟨t, e, t1, t3⟩ := timesV_nat k (nI b)
    have et : (timesV_ k (nI b)).toNatClampNeg = t := by rw [e]; exact ofNat_nat (by omega)
    rw [f1 4 (by decide), f1 128 (by decide), (wrOut_t hb).1, (wrOut_t hb).2]
    show timesV_ k (nI b) = nI (timesV_ k (nI b)).toNatClampNeg ∧ timesV_ k (nI b) = nI (timesV_ k (nI b)).toNatClampNeg ∧ 1 ≤ (timesV_ k (nI b)).toNatClampNeg ∧ (timesV_ k (nI b)).toNatClampNeg ≤ 3
    rw [et]
    exact ⟨e, e, t1, t3⟩
  · exact mcV_ok hv (by rw [e15]; exact a0) (by rw [e15]; exact a1)
  · rw [e15, a3]; exact machF_01
  · rw [e15, a4]; exact machT_01
  · unfold RdO
    rw [e15, e125, a2, a3, mach0_S, mach0_F, o9, e3, if_pos rfl]
    exact ⟨rfl, s0, s1, machF_01, rfl, rfl⟩
end
