/-! the law's machine, as pure functions: the script's cells, own at a -/
def machR_ (k : im_K) (p : Int32) : Int32 := 5 + below_ (cell_ k (p + 6) >>> ((2 : Int32) &&& 31)) 7
def machK_ (k : im_K) (p : Int32) : Int32 := below_ (cell_ k (p + 7)) 256 &&& (1 <<< ((machR_ k p - 3) &&& 31) - 4)
def machS_ (k : im_K) (p : Int32) : Int32 := below_ (cell_ k (p + 8)) 25
def machF_ (k : im_K) (p : Int32) : Int32 := if below_ (cell_ k (p + 9)) 3 ≤ 0 then 0 else 1
def machT_ (k : im_K) (p : Int32) : Int32 := if below_ (cell_ k (p + 10)) 2 = 0 then 1 else 0
def mach0_ (k : im_K) (a : Nat) (p : Int32) (I : im_I) : im_I := im_up (im_up (im_up (im_up (im_up I a 4 (machR_ k p)) a 5 (machK_ k p)) a 6 (machS_ k p)) a 7 (machF_ k p)) a 8 (machT_ k p)
def mach1_ (k : im_K) (a : Nat) (p : Int32) (I : im_I) : im_I :=
  let J := mach0_ k a p I
  forget_ (im_up (im_up (im_up (im_up (im_up J 15 0 (J a 4)) 15 1 (J a 5)) 15 2 (J a 6)) 15 3 (J a 7)) 15 4 (J a 8)) 2
def latV_ (k : im_K) (i : Int32) : Int32 := 1 + below_ (cell_ k (i + 4) >>> ((3 : Int32) &&& 31)) 9
def latStep_ (k : im_K) (a : Nat) (i : Int32) (J : im_I) : im_I :=
  if below_ (cell_ k (i + 2) >>> ((5 : Int32) &&& 31)) 3 ≤ 0 then forget_ (put_ (im_up J (a + 4) i.toNatClampNeg (latV_ k i)) 16 8 i (latV_ k i)) 2 else J
def mach_ (k : im_K) (a : Nat) (p : Int32) (I : im_I) : im_I := loopC 0 8 (latStep_ k a) (mach1_ k a p I)
theorem mach0_R {k : im_K} {a : Nat} {p : Int32} {I : im_I} : mach0_ k a p I a 4 = machR_ k p := by simp [mach0_, im_up]
theorem mach0_K {k : im_K} {a : Nat} {p : Int32} {I : im_I} : mach0_ k a p I a 5 = machK_ k p := by simp [mach0_, im_up]
theorem mach0_S {k : im_K} {a : Nat} {p : Int32} {I : im_I} : mach0_ k a p I a 6 = machS_ k p := by simp [mach0_, im_up]
theorem mach0_F {k : im_K} {a : Nat} {p : Int32} {I : im_I} : mach0_ k a p I a 7 = machF_ k p := by simp [mach0_, im_up]
theorem mach0_T {k : im_K} {a : Nat} {p : Int32} {I : im_I} : mach0_ k a p I a 8 = machT_ k p := by simp [mach0_, im_up]
theorem mach0_fr {k : im_K} {a b : Nat} {p : Int32} {I : im_I} (h : b ≠ a) : mach0_ k a p I b = I b := (up_fr h).trans ((up_fr h).trans ((up_fr h).trans ((up_fr h).trans (up_fr h))))
theorem mach1_fr {k : im_K} {a b : Nat} {p : Int32} {I : im_I} (h : b ≠ a) (h2 : b ≠ 15) (h3 : b ≠ 2) : mach1_ k a p I b = I b := (up_fr h3).trans ((up_fr h3).trans ((up_fr h2).trans ((up_fr h2).trans ((up_fr h2).trans ((up_fr h2).trans ((up_fr h2).trans (mach0_fr h)))))))
theorem latStep_fr {k : im_K} {a b : Nat} {i : Int32} {J : im_I} (h : b ≠ a + 4) (h2 : b ≠ 16) (h3 : b ≠ 2) : latStep_ k a i J b = J b := by
  unfold latStep_
  split
  · exact (up_fr h3).trans ((up_fr h3).trans ((put_fr h2).trans (up_fr h)))
  · rfl
/-- own's latencies are the machine's -/
def latSame (a : Nat) (J : im_I) : Prop := ∀ i : Int32, ¬ i < 0 → ¬ 8 ≤ i → at_ (J 16) 8 i = J (a + 4) i.toNatClampNeg
theorem at_in {f : Nat → Int32} {n : Nat} {i : Int32} (h1 : ¬ i < 0) (h2 : ¬ Int32.ofNat n ≤ i) : at_ f n i = f i.toNatClampNeg := by
  unfold at_
  rw [if_neg h1, if_neg h2]
theorem latSame_step {k : im_K} {a : Nat} {i : Int32} {J : im_I} (ha : 16 < a) (hi : ¬ i < 0) (hi8 : ¬ 8 ≤ i) (h : latSame a J) : latSame a (latStep_ k a i J) := by
  unfold latStep_
  split
  · intro j hj hj8
    have h0 := h j hj hj8
    rw [at_in hj hj8] at h0 ⊢
    rw [put_c (j := i.toNatClampNeg) hi hi8 rfl]
    simp only [forget_, im_up]
    by_cases e : j.toNatClampNeg = i.toNatClampNeg
    · simp [e, show ¬ a + 4 = 16 by omega, show ¬ (16 : Nat) = a + 4 by omega, show ¬ a + 4 = 2 by omega]
    · simp [e, show ¬ a + 4 = 2 by omega]
      exact h0
  · exact h
