/-! the second digest is the first, continued -/
theorem NowE_pg {I J : im_I} (h : NowE I J) : PgE I J := fun z z1 z2 => h z (by omega)
theorem beLike_mc {I : im_I} : beLike_ I 17 15 17 0 = I 15 0 ∧ beLike_ I 17 15 17 1 = I 15 1 ∧ beLike_ I 17 15 17 2 = I 15 2 ∧ beLike_ I 17 15 17 3 = I 15 3 ∧ beLike_ I 17 15 17 4 = I 15 4 :=
  ⟨beLike_nat.2.1 0 (by decide), beLike_nat.2.1 1 (by decide), beLike_nat.2.1 2 (by decide), beLike_nat.2.1 3 (by decide), beLike_nat.2.1 4 (by decide)⟩
theorem unord_E {I J : im_I} {nn R : Nat} {tm : Nat → Nat} (hpg : PgOk I nn) (h : NowE I J) (hm : McOk I 15 R) (ht : ∀ b, b < 4 → I 4 b = nI (tm b) ∧ tm b ≤ 9) : unordM_ J 120 1 = unordM_ I 120 1 := by
  rw [← tm_108 (I := unordM_ J), ← tm_108 (I := unordM_ I)]
  unfold unordM_
  obtain ⟨a0, a1, a2, a3, a4⟩ := beLike_mc (I := I)
  obtain ⟨b0, b1, b2, b3, b4⟩ := beLike_mc (I := J)
  have c1 := (beLike_nat (I := I)).2.2
  have c2 := (beLike_nat (I := J)).2.2
  have n1 : NowE I (beLike_ I 17 15) := beLike_now
  have n2 : NowE I (beLike_ J 17 15) := NowE_tr h beLike_now
  generalize beLike_ I 17 15 = A at *
  generalize beLike_ J 17 15 = B at *
  have h15 : J 15 = I 15 := h 15 (by decide)
  have h16 : J 16 = I 16 := h 16 (by decide)
  have hcy : cyclesOf_ B 17 = cyclesOf_ A 17 := cyclesOf_E fun j hj => by rw [show B (17 + 1) j = B 18 j from rfl, c2 j hj, h16]; exact (c1 j hj).symm
  have hPA : PgOk A nn := PgOk_E hpg (NowE_pg n1)
  have hAB : PgE A B := NowE_pg (NowE_tr (NowE_sy n1) n2)
  obtain ⟨N, st, ⟨hL, hV⟩, ⟨hL', hV'⟩, hPl⟩ := build_E (I := A) (J := B) (a := 55) (a' := 55) (m := 17) (m' := 17) (o := 0) hPA hAB ⟨hcy, by rw [a2, b2, h15], by rw [a3, b3, h15]⟩ (by decide) (by decide) (by decide) (by decide)
  have fA : ∀ z, z < 55 → build_ A 55 17 0 z = A z := fun z hz => build_fr (by omega)
  have fB : ∀ z, z < 55 → build_ B 55 17 0 z = B z := fun z hz => build_fr (by omega)
  have hmA : McOk (build_ A 55 17 0) 17 R := by
    unfold McOk at hm ⊢
    rw [fA 17 (by decide), a0, a1]
    exact hm
  exact (works_E (I := build_ A 55 17 0) (J := build_ B 55 17 0) (p := 55) (p' := 55) (w := 108) (w' := 108) (m := 17) (m' := 17) (tm := tm) hL hV hL' hV' hPl (fun z z1 z2 => by rw [fA z (by omega), fB z (by omega)]; exact hAB z z1 z2) hmA (by
    unfold MhE
    rw [fA 17 (by decide), fB 17 (by decide), a0, a1, a4, b0, b1, b4, h15]
    exact ⟨rfl, rfl, rfl⟩) (by rw [show cyclesOf_ (build_ B 55 17 0) 17 = cyclesOf_ B 17 from cyclesOf_E fun j _ => by rw [fB (17 + 1) (by decide)], show cyclesOf_ (build_ A 55 17 0) 17 = cyclesOf_ A 17 from cyclesOf_E fun j _ => by rw [fA (17 + 1) (by decide)]]; exact hcy) (fun b hb => by rw [fA 4 (by decide), n1 4 (by decide)]; exact ht b hb) (by decide) (by decide) (by decide) (by decide) (by decide) (by decide) (by decide) (by decide)).2 13
theorem with_E {I J : im_I} {N : Nat} {st tm : Nat → Nat} {x : Int32} (hL : LnOk I 19 N st) (hV : LvOk I 19 N st) (hP : PlE I I 19 19 N) (h : NowE I J) (ht : ∀ b, b < 4 → I 4 b = nI (tm b) ∧ tm b ≤ 9) : tellMany_ (builtWith_ J 6 4 1) 108 19 x = tellMany_ (builtWith_ I 6 4 1) 108 19 x := by
  unfold builtWith_
  have c1 := (beLike_nat (I := I)).2.2
  have c2 := (beLike_nat (I := J)).2.2
  have n1 : NowE I (beLike_ I 17 15) := beLike_now
  have n2 : NowE I (beLike_ J 17 15) := NowE_tr h beLike_now
  generalize beLike_ I 17 15 = A0 at *
  generalize beLike_ J 17 15 = B0 at *
  have h16 : J 16 = I 16 := h 16 (by decide)
  have e : ∀ K : im_I, NowE K (im_up (im_up (im_up K 17 0 6) 17 1 4) 17 4 1) := fun K z hz => by rw [up_fr (by omega), up_fr (by omega), up_fr (by omega)]
  have e0 : ∀ K : im_I, im_up (im_up (im_up K 17 0 6) 17 1 4) 17 4 1 17 0 = 6 := fun K => by simp only [up_row]; rfl
  have e1 : ∀ K : im_I, im_up (im_up (im_up K 17 0 6) 17 1 4) 17 4 1 17 1 = 4 := fun K => by simp only [up_row]; rfl
  have e4 : ∀ K : im_I, im_up (im_up (im_up K 17 0 6) 17 1 4) 17 4 1 17 4 = 1 := fun K => by simp only [up_row]; rfl
  have e18 : ∀ K : im_I, im_up (im_up (im_up K 17 0 6) 17 1 4) 17 4 1 18 = K 18 := fun K => by rw [up_fr (by decide), up_fr (by decide), up_fr (by decide)]
  have m1 : NowE I (im_up (im_up (im_up A0 17 0 6) 17 1 4) 17 4 1) := NowE_tr n1 (e A0)
  have m2 : NowE I (im_up (im_up (im_up B0 17 0 6) 17 1 4) 17 4 1) := NowE_tr n2 (e B0)
  have u0 := e0 A0
  have u1 := e1 A0
  have u4 := e4 A0
  have u8 := e18 A0
  have w0 := e0 B0
  have w1 := e1 B0
  have w4 := e4 B0
  have w8 := e18 B0
  generalize im_up (im_up (im_up A0 17 0 6) 17 1 4) 17 4 1 = A at *
  generalize im_up (im_up (im_up B0 17 0 6) 17 1 4) 17 4 1 = B at *
  have hcy : cyclesOf_ B 17 = cyclesOf_ A 17 := cyclesOf_E fun j hj => by rw [show B (17 + 1) j = B 18 j from rfl, show A (17 + 1) j = A 18 j from rfl, w8, u8, c2 j hj, h16]; exact (c1 j hj).symm
  have hmA : McOk A 17 6 := by
    unfold McOk
    rw [u0, u1]
    exact ⟨rfl, by decide, by decide, by decide +kernel⟩
  exact (works_E (I := A) (J := B) (p := 19) (p' := 19) (w := 108) (w' := 108) (m := 17) (m' := 17) (tm := tm) (LnOk_fr hL fun z hz => m1 z (by omega)) (LvOk_fr hV fun z hz => m1 z (by omega)) (LnOk_fr hL fun z hz => m2 z (by omega)) (LvOk_fr hV fun z hz => m2 z (by omega)) (PlE_fr hP (fun z _ _ => m1 z (by omega)) (fun z _ _ => m2 z (by omega))) (NowE_pg (NowE_tr (NowE_sy m1) m2)) hmA (by
    unfold MhE
    rw [u0, u1, u4, w0, w1, w4]
    exact ⟨rfl, rfl, rfl⟩) hcy (fun b hb => by rw [m1 4 (by decide)]; exact ht b hb) (by decide) (by decide) (by decide) (by decide) (by decide) (by decide) (by decide) (by decide)).2 x
theorem mixVariables_E {I J : im_I} (h : NowE I J) : mixVariables_ J 91 = mixVariables_ I 91 := by
  have h13 := h 13 (by decide)
  have h3 := h 3 (by decide)
  have h37 := h 37 (by decide)
  have h95 := h 95 (by decide)
  have h96 := h 96 (by decide)
  have h94 := h 94 (by decide)
  have h93 := h 93 (by decide)
  have h106 := h 106 (by decide)
  have h105 := h 105 (by decide)
  have e1 : mixVar1_ J = mixVar1_ I := by
    unfold mixVar1_
    rw [h13]
  have e2 : mixVar2_ J 91 = mixVar2_ I 91 := by
    unfold mixVar2_ tellAnswer_ isLiving_ isRemade_ homeNumberOf_ isSpilled_ slotOf_ registerOf_
    simp only [Nat.reduceAdd, h3, h37, h93, h94, h95, h96, h105, h106]
  unfold mixVariables_
  rw [e1, e2]
theorem mixLines_E {I J : im_I} (h : NowE I J) : mixLines_ J = mixLines_ I := by
  have h29 := h 29 (by decide)
  have h30 := h 30 (by decide)
  have h31 := h 31 (by decide)
  have h32 := h 32 (by decide)
  have h33 := h 33 (by decide)
  have h34 := h 34 (by decide)
  have h35 := h 35 (by decide)
  unfold mixLines_ mixLine_ tellLine_ kindOf_ writtenBy_ readBy_ numberOf_ blockOf_ heightOf_
  simp only [Nat.reduceAdd, h29, h30, h31, h32, h33, h34, h35]
theorem mixValues_E {I J : im_I} (h : NowE I J) : mixValues_ J 91 = mixValues_ I 91 := by
  have h36 := h 36 (by decide)
  have h37 := h 37 (by decide)
  have h38 := h 38 (by decide)
  have h40 := h 40 (by decide)
  have h41 := h 41 (by decide)
  have h42 := h 42 (by decide)
  have h43 := h 43 (by decide)
  have h93 := h 93 (by decide)
  have h94 := h 94 (by decide)
  have h95 := h 95 (by decide)
  unfold mixValues_ mixValue_ tellValue_ isLiving_ firstOf_ lastOf_ weightOf_ registerOf_ slotOf_ isRemade_ crossedBy_ touchesOf_
  simp only [Nat.reduceAdd, h36, h37, h38, h40, h41, h42, h43, h93, h94, h95]
theorem mixCalls_E {I J : im_I} (h : NowE I J) : mixCalls_ J 91 = mixCalls_ I 91 := by
  have h36 := h 36 (by decide)
  have h37 := h 37 (by decide)
  have h38 := h 38 (by decide)
  have h44 := h 44 (by decide)
  have h93 := h 93 (by decide)
  have h94 := h 94 (by decide)
  have h95 := h 95 (by decide)
  have e1 : tellCallOne_ J 91 19 = tellCallOne_ I 91 19 := by
    unfold tellCallOne_ isCrossing_ isLiving_ firstOf_ lastOf_ registerOf_ slotOf_ isRemade_
    simp only [Nat.reduceAdd, h37, h38, h93, h94, h95]
  unfold mixCalls_ mixCall_ tellCall_ pointOfCall_
  simp only [Nat.reduceAdd, h36, h44, e1]
theorem mixCode_E {I J : im_I} (h : NowE I J) : mixCode_ J 91 = mixCode_ I 91 := by
  have h98 := h 98 (by decide)
  have h99 := h 99 (by decide)
  have h100 := h 100 (by decide)
  have h101 := h 101 (by decide)
  have h104 := h 104 (by decide)
  unfold mixCode_ mixPlace_ tellPlace_ codeKindOf_ operandOf_
  simp only [Nat.reduceAdd, h98, h99, h100, h101, h104]
theorem mixMany_E {I J : im_I} (h : ∀ w, tellMany_ J 91 19 w = tellMany_ I 91 19 w) : mixMany_ J = mixMany_ I := by
  unfold mixMany_
  simp only [h]
theorem tellMany_now {I J : im_I} {x : Int32} (h : ∀ z, 3 ≤ z ∧ z ≤ 11 ∨ 19 ≤ z ∧ z ≤ 54 ∨ 91 ≤ z ∧ z ≤ 107 → J z = I z) : tellMany_ J 91 19 x = tellMany_ I 91 19 x := by
  have hl := loose_E (I := I) (J := J) (fun z z1 z2 => h z (by omega))
  have hc : ∀ kd, countOf_ J (91 + 7) kd = countOf_ I (91 + 7) kd := fun kd => by
    unfold countOf_ codeKindOf_
    rw [h (91 + 7) (by omega), h (91 + 7 + 1) (by omega)]
  have hm : ∀ e, mostAtOnce_ J (19 + 17) e = mostAtOnce_ I (19 + 17) e := fun e => mostAtOnce_congr (h _ (by omega)) (h _ (by omega)) (h _ (by omega))
  unfold tellMany_
  rw [hl, hc, hc, hc, hm, h 3 (by decide), h (19 + 10) (by omega), h (19 + 17) (by omega), h (91 + 1) (by omega), h (91 + 7) (by omega), h (91 + 12) (by omega)]
set_option maxHeartbeats 1000000 in
theorem digest_twice {I J : im_I} {nn R : Nat} {tm : Nat → Nat} (hB : PB I) (hpg : PgOk I nn) (hm : McOk I 15 R) (ht : ∀ b, b < 4 → I 4 b = nI (tm b) ∧ tm b ≤ 9) (h : NowE (meantNow_ I 2) J) : digestV_ J 2 = digestV_ I 2 := by
  have hJ : meantNow_ J 2 = J := meantNow_id (by rw [show J 2 = meantNow_ I 2 2 from h 2 (by decide)]; exact meantNow_9)
  have hK : ∀ z, z ≠ 2 ∧ (z < 12 ∨ 14 < z) → meantNow_ I 2 z = I z := fun z hz => meantNow_f hz
  obtain ⟨N, st, hL, hV, hP⟩ := plan_of hB hpg
  have hMany : mixMany_ J = mixMany_ I := mixMany_E fun w => tellMany_now fun z hz => (h z (by omega)).trans (hK z (by omega))
  have hA : digestA_ J 2 = digestA_ I 2 := by
    unfold digestA_
    rw [hJ, mixCode_E h, mixCalls_E h, mixValues_E h, mixLines_E h, mixVariables_E h, hMany]
  generalize hKd : meantNow_ I 2 = K at h hK
  have hLK : LnOk K 19 N st := LnOk_fr hL fun z hz => hK z (by omega)
  have hVK : LvOk K 19 N st := LvOk_fr hV fun z hz => hK z (by omega)
  have hPK : PlE K K 19 19 N := PlE_fr hP (fun z _ _ => hK z (by omega)) (fun z _ _ => hK z (by omega))
  have hpK : PgOk K nn := PgOk_E hpg fun z _ _ => hK z (by omega)
  have hmK : McOk K 15 R := by unfold McOk at hm ⊢; rw [hK 15 (by decide)]; exact hm
  have htK : ∀ b, b < 4 → K 4 b = nI (tm b) ∧ tm b ≤ 9 := fun b hb => by rw [hK 4 (by decide)]; exact ht b hb
  have nK : NowE K (few_ K).2 := few_now
  have nJ : NowE K (few_ J).2 := NowE_tr h few_now
  have nK2 : NowE K (unordM_ (few_ K).2) := NowE_tr nK unord_now
  have nJ2 : NowE K (unordM_ (few_ J).2) := NowE_tr nJ unord_now
  have e1 : (few_ J).1 = (few_ K).1 := few_E hLK hVK hPK h
  have e2 : unordM_ (few_ J).2 120 1 = unordM_ (few_ K).2 120 1 := (unord_E (J := (few_ J).2) hpK nJ hmK htK).trans (unord_E (J := (few_ K).2) hpK nK hmK htK).symm
  have e3 : unordM_ (few_ J).2 103 1 = unordM_ (few_ K).2 103 1 := by rw [nJ2 103 (by decide), nK2 103 (by decide)]
  have e4 : ∀ x, tellMany_ (builtWith_ (unordM_ (few_ J).2) 6 4 1) 108 19 x = tellMany_ (builtWith_ (unordM_ (few_ K).2) 6 4 1) 108 19 x := fun x => (with_E hLK hVK hPK nJ2 htK).trans (with_E hLK hVK hPK nK2 htK).symm
  unfold digestV_
  simp only
  rw [hJ, hKd, hA, e1, e2, e3, e4, e4]
/-- unordered is not far below -/
theorem unord_bound {I : im_I} {nn R n B : Nat} {tm : Nat → Nat} (hpg : PgOk I nn) (hm : McOk I 15 R) (hl : LatOk I 15) (ht : ∀ b, b < 4 → I 4 b = nI (tm b) ∧ tm b ≤ 3) (hn : n ≤ 1008) (hT : TmI I 103 n B) : -9999 ≤ unordM_ I 120 1 - unordM_ I 103 1 := by
  rw [show unordM_ I 103 = I 103 from unord_now 103 (by decide)]
  have key : ∃ x, x ≤ 100000 ∧ unordM_ I 120 1 = nI x := by
    unfold unordM_
    obtain ⟨a0, a1, a2, a3, a4⟩ := beLike_mc (I := I)
    have c1 := (beLike_nat (I := I)).2.2
    have n1 : NowE I (beLike_ I 17 15) := beLike_now
    generalize beLike_ I 17 15 = A at *
    have hPA : PgOk A nn := PgOk_E hpg (NowE_pg n1)
    obtain ⟨N, st, -, hL, hV⟩ := build_LO (I := A) (a := 55) (m := 17) (o := 0) hPA (by decide) (by decide)
    have fA : ∀ z, z < 55 → build_ A 55 17 0 z = A z := fun z hz => build_fr (by omega)
    have hmA : McOk (build_ A 55 17 0) 17 R := by
      unfold McOk at hm ⊢
      rw [fA 17 (by decide), a0, a1]
      exact hm
    have hlA : LatOk (build_ A 55 17 0) 17 := fun j hj => by
      rw [fA (17 + 1) (by decide), show A (17 + 1) j = A 18 j from rfl, c1 j hj]
      exact hl j hj
    obtain ⟨n', B', hn', hT'⟩ := run_time (P := build_ A 55 17 0) (p := 55) (w := 108) (m := 17) (tm := tm) hL hV hmA hlA (fun b hb => by rw [fA 4 (by decide), n1 4 (by decide)]; exact ht b hb) (by decide) (by decide) (by decide)
    obtain ⟨⟨t1, t2, -⟩, t3, t4, -⟩ := hT'
    by_cases c : n' = 0
    · exact ⟨0, by omega, t3 c⟩
    · obtain ⟨l, l1, l2, e⟩ := t4 (by omega)
      exact ⟨B' - 1 + l, by omega, e⟩
  have key2 : ∃ x, x ≤ 9080 ∧ I 103 1 = nI x := by
    obtain ⟨⟨t1, t2, -⟩, t3, t4, -⟩ := hT
    by_cases c : n = 0
    · exact ⟨0, by omega, t3 c⟩
    · obtain ⟨l, l1, l2, e⟩ := t4 (by omega)
      exact ⟨B - 1 + l, by omega, e⟩
  obtain ⟨x, hx, ex⟩ := key
  obtain ⟨y, hy, ey⟩ := key2
  rw [ex, ey, Int32.le_iff_toInt_le, Int32.toInt_sub, nI_toInt (by omega), nI_toInt (by omega), Int.bmod_eq_of_le (by omega) (by omega), show (-9999 : Int32).toInt = -9999 by decide]
  omega
