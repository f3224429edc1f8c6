/-! which rows the great calls leave as they are; the counts of instructions -/
theorem coverAll_fr {I : im_I} {c m b : Nat} (h : b < c ∨ c + 8 < b) : coverAll_ I c m b = I b := (loopN_fr (fun _ _ => coverOne_fr' h) _ _ _).trans (up_fr (by omega))
theorem push_fr {I : im_I} {c b : Nat} {nd : Int32} (h : b < c ∨ c + 8 < b) : push_ I c nd b = I b := by
  unfold push_
  split
  · rfl
  · exact (up_fr (by omega)).trans (put_fr (by omega))
theorem gatherOne_fr {I : im_I} {c b : Nat} {n : Int32} (h : b < c ∨ c + 8 < b) : gatherOne_ c n I b = I b :=
  (loopN_fr (fun _ _ => push_fr h) _ _ _).trans ((put_fr (by omega)).trans (up_fr (by omega)))
theorem gatherN_fr {c b : Nat} (h : b < c ∨ c + 8 < b) : ∀ (n : Nat) (i : Int32) (I : im_I), (gatherN_ c n i I).2 b = I b
  | 0, _, _ => by rw [gatherN_]
  | n + 1, i, I => by
    rw [gatherN_]
    split
    · rfl
    · split
      · rfl
      · exact (gatherN_fr h n _ _).trans (gatherOne_fr h)
theorem gather_fr {I : im_I} {c b : Nat} {x : Int32} (h : b < c ∨ c + 8 < b) : (gather_ I c x).2 b = I b := (gatherN_fr h _ _ _).trans ((push_fr h).trans (up_fr (by omega)))
theorem emit_fr {I : im_I} {c r b : Nat} {nd v bl : Int32} (h : b < r ∨ r + 6 < b) : emit_ I c r nd v bl b = I b := by
  unfold emit_
  try dsimp only
  split <;> exact (setReads_fr h).trans ((setNumber_fr h).trans (add_fr h))
theorem chooseOne_fr {I : im_I} {c r b : Nat} {bl i : Int32} (h : b < r ∨ r + 6 < b) (hc : b < c ∨ c + 8 < b) : chooseOne_ c r bl i I b = I b := by
  unfold chooseOne_
  try dsimp only
  split
  · exact put_fr (by omega)
  · exact (up_fr (by omega)).trans ((emit_fr h).trans (put_fr (by omega)))
theorem chooseStatement_fr {I : im_I} {c r b : Nat} {bl j : Int32} (h : b < r ∨ r + 6 < b) (hc : b < c ∨ c + 8 < b) : chooseStatement_ I c r bl j b = I b :=
  (emit_fr h).trans ((downN_fr (fun _ _ => chooseOne_fr h hc) _ _ _).trans (gather_fr hc))
theorem chooseBlock_fr {I : im_I} {a b : Nat} {bl : Int32} (h : b < a + 1 ∨ a + 9 < b ∧ b < a + 27 ∨ a + 34 < b) : chooseBlock_ a bl I b = I b :=
  (loopN_fr (fun _ _ => chooseStatement_fr (by omega) (by omega)) _ _ _).trans (put_fr (by omega))
theorem chooseAll_fr {I : im_I} {a b : Nat} (h : b < a + 1 ∨ a + 9 < b ∧ b < a + 27 ∨ a + 34 < b) : chooseAll_ I a b = I b :=
  (put_fr (by omega)).trans ((loopN_fr (fun _ _ => chooseBlock_fr h) _ _ _).trans (up_fr (by omega)))
theorem buildFirst_fr {I : im_I} {a m b : Nat} (h : b < a ∨ a + 35 < b) : buildFirst_ I a m b = I b :=
  (addEntry_fr (by omega)).trans ((up_fr (by omega)).trans ((chooseAll_fr (by omega)).trans (coverAll_fr (by omega))))
theorem buildAll_fr {I : im_I} {a m b : Nat} {o : Int32} (h : b < a ∨ a + 35 < b) : buildAll_ I a m o b = I b :=
  (loopN_fr (fun _ _ => buildBlock_fr (by omega)) _ _ _).trans (buildFirst_fr h)
theorem measure1_fr {I : im_I} {a r b : Nat} (h : b < a ∨ a + 8 < b) : measure1_ I a r b = I b := (loopN_fr (fun _ _ => touch_fr h) _ _ _).trans (measure0_fr h)
theorem measure_fr {I : im_I} {a r x n b : Nat} (h : b < a ∨ a + 8 < b) : measure_ I a r x n b = I b := (loopN_fr (fun _ _ => measureOne_fr h) _ _ _).trans (measure1_fr h)
theorem build_fr {I : im_I} {a m b : Nat} {o : Int32} (h : b < a ∨ a + 35 < b) : build_ I a m o b = I b :=
  (measure_fr (by omega)).trans ((put_fr (by omega)).trans (buildAll_fr h))
theorem step1_fr {I : im_I} {a m c b : Nat} {i : Int32} (h : b < a ∨ a + 4 < b) : step1_ a m c i I b = I b := by
  unfold step1_
  try dsimp only
  split
  · exact (put_fr (by omega)).trans ((up_fr (by omega)).trans ((up_fr (by omega)).trans ((up_fr (by omega)).trans (up_fr (by omega)))))
  · exact (up_fr (by omega)).trans ((up_fr (by omega)).trans ((up_fr (by omega)).trans (up_fr (by omega))))
theorem performCall_fr {I : im_I} {a m b : Nat} (h : b < a ∨ a + 4 < b) : performCall_ I a m b = I b :=
  (put_fr (by omega)).trans ((put_fr (by omega)).trans (loopN_fr (fun _ _ => loseOne_fr h) _ _ _))
theorem perform_fr {I : im_I} {a m b : Nat} {k f s t u : Int32} (h : b < a ∨ a + 4 < b) : perform_ I a m k f s t u b = I b := by
  unfold perform_
  split
  · exact put_fr (by omega)
  · split
    · exact performCall_fr h
    · exact (put_fr (by omega)).trans (put_fr (by omega))
theorem goThrough_fr {I : im_I} {a m c b : Nat} {f t : Int32} (h : b < a ∨ a + 4 < b) : goThrough_ I a m c f t b = I b :=
  loopN_fr (fun _ _ => (perform_fr h).trans (step1_fr h)) _ _ _
theorem go0_fr {I : im_I} {a b : Nat} (h : b < a ∨ a + 4 < b) : go0_ I a b = I b :=
  (fillL_fr (by omega)).trans ((fillL_fr (by omega)).trans ((fillL_fr (by omega)).trans ((fillL_fr (by omega)).trans ((up_fr (by omega)).trans ((up_fr (by omega)).trans ((up_fr (by omega)).trans (up_fr (by omega))))))))
theorem go_fr {I : im_I} {a m c x n b : Nat} (h : b < a ∨ a + 4 < b) : go_ I a m c x n b = I b :=
  (loopN_fr (fun _ _ => loopN_fr (fun _ _ => goThrough_fr h) _ _ _) _ _ _).trans ((goThrough_fr h).trans (go0_fr h))
theorem worksBuild_fr {I : im_I} {w m p b : Nat} (h : b < w ∨ w + 16 < b) : worksBuild_ I w m p b = I b :=
  (go_fr (by omega)).trans ((make_fr (by omega)).trans (give_fr (by omega)))
theorem beLike_fr {I : im_I} {a b c : Nat} (h : c < a ∨ a + 1 < c) : beLike_ I a b c = I c :=
  (loopN_fr (fun _ _ => put_fr (by omega)) _ _ _).trans ((up_fr (by omega)).trans ((up_fr (by omega)).trans ((up_fr (by omega)).trans ((up_fr (by omega)).trans (up_fr (by omega))))))
theorem work_fr {I : im_I} {a b : Nat} (h : b < a ∨ a + 2 < b) : work_ I a b = I b :=
  (loopN_fr (fun _ _ => loopN_fr (fun _ _ => loopN_fr (fun _ _ => (put_fr (by omega)).trans (loopN_fr (fun _ _ => put_fr (by omega)) _ _ _)) _ _ _) _ _ _) _ _ _).trans (fillL_fr (by omega))
theorem rebuilt_fr {I : im_I} {b : Nat} (h : b < 19 ∨ 54 < b ∧ b < 91 ∨ 107 < b) : rebuilt_ I b = I b := (worksBuild_fr (by omega)).trans (build_fr (by omega))
theorem builtNow_fr {I : im_I} {a b : Nat} (ha : a < 3) (h : b < 19 ∨ 54 < b ∧ b < 91 ∨ 107 < b) (hb : b ≠ a) : builtNow_ I a b = I b := by
  unfold builtNow_
  split
  · exact (up_fr hb).trans (rebuilt_fr h)
  · rfl
theorem meantNow_fr {I : im_I} {a b : Nat} (h : b < 12 ∨ 14 < b) (hb : b ≠ a) : meantNow_ I a b = I b := by
  unfold meantNow_
  split
  · exact (up_fr hb).trans (work_fr (by omega))
  · rfl
theorem builtWith_fr {I : im_I} {r k t : Int32} {b : Nat} (h : b < 17 ∨ 18 < b ∧ b < 108 ∨ 124 < b) : builtWith_ I r k t b = I b :=
  (worksBuild_fr (by omega)).trans ((up_fr (by omega)).trans ((up_fr (by omega)).trans ((up_fr (by omega)).trans (beLike_fr (by omega)))))
theorem unordM_fr {I : im_I} {b : Nat} (h : b < 17 ∨ 18 < b ∧ b < 55 ∨ 90 < b ∧ b < 108 ∨ 124 < b) : unordM_ I b = I b :=
  (worksBuild_fr (by omega)).trans ((build_fr (by omega)).trans (beLike_fr (by omega)))
theorem wouldM_fr {I : im_I} {x y : Int32} {b : Nat} (h : b < 17 ∨ 18 < b ∧ b < 55 ∨ 90 < b ∧ b < 108 ∨ 124 < b) : wouldM_ I x y b = I b :=
  (worksBuild_fr (by omega)).trans ((build_fr (by omega)).trans ((put_fr (by omega)).trans (beLike_fr (by omega))))
theorem fewOne_fr {r : Int32} {J : im_I} {b : Nat} (h : b < 17 ∨ 17 < b ∧ b < 109 ∨ 114 < b) : fewOne_ r J b = J b :=
  (give_fr (by omega)).trans ((up_fr (by omega)).trans (up_fr (by omega)))
theorem fewN_fr {b : Nat} (h : b < 17 ∨ 17 < b ∧ b < 109 ∨ 114 < b) : ∀ (n : Nat) (i : Int32) (J : im_I), (fewN_ n i J).2 b = J b
  | 0, _, _ => by rw [fewN_0]
  | n + 1, i, J => by
    rw [fewN_s]
    split
    · exact fewOne_fr h
    · exact (fewN_fr h n _ _).trans (fewOne_fr h)
theorem few_fr {I : im_I} {b : Nat} (h : b < 17 ∨ 18 < b ∧ b < 109 ∨ 114 < b) : (few_ I).2 b = I b := (fewN_fr (by omega) _ _ _).trans (beLike_fr (by omega))
-- the count of a row of instructions
def cntOk (I : im_I) (r : Nat) : Prop := 0 ≤ (I r 0).toInt ∧ (I r 0).toInt ≤ 88
theorem cntOk_fr {I J : im_I} {r : Nat} (h : cntOk I r) (e : J r = I r) : cntOk J r := by unfold cntOk; rw [e]; exact h
theorem cntOk_up {I : im_I} {r : Nat} : cntOk (im_up I r 0 0) r := by unfold cntOk; rw [im_up_same]; decide
theorem add_cnt {I : im_I} {a : Nat} {kd v bl : Int32} (h : cntOk I a) : cntOk (add_ I a kd v bl) a := by
  unfold add_
  split
  · exact h
  · next c =>
    unfold cntOk
    try dsimp only
    rw [im_up_same]
    simp only [put_fr (show a ≠ a + 1 by omega), put_fr (show a ≠ a + 2 by omega), put_fr (show a ≠ a + 4 by omega), put_fr (show a ≠ a + 5 by omega), put_fr (show a ≠ a + 6 by omega)]
    have c2 := Int32.lt_iff_toInt_lt.mp (Int32.not_le.mp c)
    have e88 : (88 : Int32).toInt = 88 := by decide
    have e1 : (1 : Int32).toInt = 1 := by decide
    obtain ⟨h1, h2⟩ := h
    rw [Int32.toInt_add, e1, Int.bmod_eq_of_le (by omega) (by omega)]
    omega
theorem loopN_cnt {f : Int32 → im_I → im_I} {r : Nat} (h : ∀ i J, cntOk J r → cntOk (f i J) r) : ∀ (n : Nat) (i : Int32) (J : im_I), cntOk J r → cntOk (loopN n i f J) r
  | 0, _, _ => fun hJ => by rw [loopN_0]; exact hJ
  | n + 1, _, _ => fun hJ => by rw [loopN_s]; exact loopN_cnt h n _ _ (h _ _ hJ)
theorem downN_cnt {f : Int32 → im_I → im_I} {r : Nat} (h : ∀ i J, cntOk J r → cntOk (f i J) r) : ∀ (n : Nat) (i : Int32) (J : im_I), cntOk J r → cntOk (downN n i f J) r
  | 0, _, _ => fun hJ => by rw [downN_0]; exact hJ
  | n + 1, _, _ => fun hJ => by rw [downN_s]; exact downN_cnt h n _ _ (h _ _ hJ)
theorem setReads_cnt {I : im_I} {a : Nat} {x y z : Int32} : setReads_ I a x y z a = I a := (put_fr (by omega)).trans ((put_fr (by omega)).trans (put_fr (by omega)))
theorem setNumber_cnt {I : im_I} {a : Nat} {x : Int32} : setNumber_ I a x a = I a := put_fr (by omega)
theorem emit_cnt {I : im_I} {c r : Nat} {nd v bl : Int32} (h : cntOk I r) : cntOk (emit_ I c r nd v bl) r := by
  unfold emit_
  try dsimp only
  split <;> exact cntOk_fr (cntOk_fr (add_cnt h) setNumber_cnt) setReads_cnt
theorem chooseOne_cnt {I : im_I} {c r : Nat} {bl i : Int32} (hc : r < c ∨ c + 8 < r) (h : cntOk I r) : cntOk (chooseOne_ c r bl i I) r := by
  unfold chooseOne_
  try dsimp only
  split
  · exact cntOk_fr h (put_fr (by omega))
  · exact cntOk_fr (emit_cnt (cntOk_fr h (put_fr (by omega)))) (up_fr (by omega))
theorem chooseStatement_cnt {I : im_I} {c r : Nat} {bl j : Int32} (hc : r < c ∨ c + 8 < r) (h : cntOk I r) : cntOk (chooseStatement_ I c r bl j) r :=
  emit_cnt (downN_cnt (fun _ _ => chooseOne_cnt hc) _ _ _ (cntOk_fr h (gather_fr hc)))
theorem chooseBlock_cnt {I : im_I} {a : Nat} {bl : Int32} (h : cntOk I (a + 27)) : cntOk (chooseBlock_ a bl I) (a + 27) :=
  loopN_cnt (fun _ _ => chooseStatement_cnt (by omega)) _ _ _ (cntOk_fr h (put_fr (by omega)))
/-- a small number: not below none -/
def smallOk (x : Int32) : Prop := x = -1 ∨ 0 ≤ x.toInt ∧ x.toInt ≤ 88
theorem put_c {I : im_I} {x n : Nat} {i v : Int32} {j : Nat} (h1 : ¬ i < 0) (h2 : ¬ Int32.ofNat n ≤ i) (h3 : i.toNatClampNeg = j) : put_ I x n i v = im_up I x j v := by
  unfold put_
  rw [if_neg h1, if_neg h2, h3]
theorem loopC4 {f : Int32 → im_I → im_I} {I : im_I} : loopC 0 4 f I = f 3 (f 2 (f 1 (f 0 I))) := by
  have e : cnt 0 4 = 4 := by decide
  unfold loopC
  rw [e, loopN_s, loopN_s, loopN_s, loopN_s, loopN_0]
  rfl
theorem chooseBlock_put {I : im_I} {a j : Nat} {bl : Int32} (h1 : ¬ bl < 0) (h2 : ¬ Int32.ofNat 5 ≤ bl) (h3 : bl.toNatClampNeg = j) : chooseBlock_ a bl I (a + 34) = upd (I (a + 34)) j (I (a + 27) 0) := by
  refine (loopN_fr (fun _ _ => chooseStatement_fr (by omega) (by omega)) _ _ _).trans ?_
  rw [put_c h1 h2 h3, im_up_upd]
theorem upd5 {f : Nat → Int32} {v0 v1 v2 v3 v4 : Int32} {P : Int32 → Prop} (h0 : P v0) (h1 : P v1) (h2 : P v2) (h3 : P v3) (h4 : P v4) (q : Nat) (hq : q < 5) : P (upd (upd (upd (upd (upd f 0 v0) 1 v1) 2 v2) 3 v3) 4 v4 q) := by
  have hq : q = 0 ∨ q = 1 ∨ q = 2 ∨ q = 3 ∨ q = 4 := by omega
  rcases hq with rfl | rfl | rfl | rfl | rfl <;> simp [upd] <;> assumption
theorem chooseAll_34 {I : im_I} {a : Nat} (b : Int32) : smallOk (at_ (chooseAll_ I a (a + 34)) 5 b) := by
  have k0 : cntOk (im_up I (a + 27) 0 0) (a + 27) := cntOk_up
  have k1 := chooseBlock_cnt (bl := 0) k0
  have k2 := chooseBlock_cnt (bl := 1) k1
  have k3 := chooseBlock_cnt (bl := 2) k2
  have k4 := chooseBlock_cnt (bl := 3) k3
  unfold chooseAll_
  try dsimp only
  rw [loopC4, put_c (j := 4) (by decide) (by decide) (by decide), im_up_upd, chooseBlock_put (j := 3) (by decide) (by decide) (by decide), chooseBlock_put (j := 2) (by decide) (by decide) (by decide), chooseBlock_put (j := 1) (by decide) (by decide) (by decide), chooseBlock_put (j := 0) (by decide) (by decide) (by decide)]
  unfold at_
  split
  · exact Or.inl rfl
  · next h1 =>
    split
    · exact Or.inl rfl
    · next h2 =>
      refine Or.inr ?_
      have h0 : b.toNatClampNeg < 5 := by
        have c1 := Int32.le_iff_toInt_le.mp (Int32.not_lt.mp h1)
        have c2 := Int32.lt_iff_toInt_lt.mp (Int32.not_le.mp h2)
        have e0 : (0 : Int32).toInt = 0 := by decide
        have e5 : (Int32.ofNat 5).toInt = 5 := by decide
        have e6 : b.toNatClampNeg = b.toInt.toNat := rfl
        omega
      exact upd5 (P := fun x => 0 ≤ x.toInt ∧ x.toInt ≤ 88) k0 k1 k2 k3 k4 _ h0
theorem small_gt {x : Int32} (h : smallOk x) : -2147483648 < x := by
  rcases h with rfl | ⟨h1, h2⟩
  · decide
  · rw [Int32.lt_iff_toInt_lt]
    have e0 : (-2147483648 : Int32).toInt = -2147483648 := by decide
    omega
theorem hs_all {I : im_I} {a : Nat} : ∀ b : Int32, -2147483648 < at_ (chooseAll_ I a (a + 34)) 5 b := fun b => small_gt (chooseAll_34 b)
