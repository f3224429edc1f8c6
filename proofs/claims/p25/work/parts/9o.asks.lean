/-! WHAT WOULD BE, IS: with and many, cyclesWith and many -/
theorem tellMany_fr {I J : im_I} {a p : Nat} {x : Int32} (h : ∀ z, 3 ≤ z → J z = I z) (hp : 3 ≤ p) (ha : 3 ≤ a) : tellMany_ J a p x = tellMany_ I a p x := by
  have hl := loose_E (I := I) (J := J) (fun z z1 _ => h z z1)
  have hc : ∀ kd, countOf_ J (a + 7) kd = countOf_ I (a + 7) kd := fun kd => by
    unfold countOf_ codeKindOf_
    rw [h (a + 7) (by omega), h (a + 7 + 1) (by omega)]
  have hm : ∀ e, mostAtOnce_ J (p + 17) e = mostAtOnce_ I (p + 17) e := fun e => mostAtOnce_congr (h _ (by omega)) (h _ (by omega)) (h _ (by omega))
  unfold tellMany_
  rw [hl, hc, hc, hc, hm, h 3 (by decide), h (p + 10) (by omega), h (p + 17) (by omega), h (a + 1) (by omega), h (a + 7) (by omega), h (a + 12) (by omega)]
/-- the plan that stands is the one that the program and the machine make -/
def PB (I : im_I) : Prop := ∃ M0 : im_I, PgE M0 I ∧ MpE M0 I 15 15 ∧ ∀ z, 19 ≤ z → z ≤ 54 → I z = build_ M0 19 15 1 z
theorem PB_fr {I J : im_I} (h : PB I) (e : ∀ z, 3 ≤ z ∧ z ≤ 11 ∨ z = 15 ∨ z = 16 ∨ 19 ≤ z ∧ z ≤ 54 → J z = I z) : PB J := by
  obtain ⟨M0, h1, h2, h3⟩ := h
  refine ⟨M0, fun z z1 z2 => (e z (by omega)).trans (h1 z z1 z2), ?_, fun z z1 z2 => (e z (by omega)).trans (h3 z z1 z2)⟩
  unfold MpE at h2 ⊢
  have ec : cyclesOf_ J 15 = cyclesOf_ I 15 := by funext kd; unfold cyclesOf_; rw [e (15 + 1) (by omega)]
  rw [ec, e 15 (by omega)]
  exact h2
theorem cyclesOf_E {I J : im_I} {m m' : Nat} (h : ∀ j, j < 8 → J (m' + 1) j = I (m + 1) j) : cyclesOf_ J m' = cyclesOf_ I m := by
  funext kd
  unfold cyclesOf_
  exact at_congr h
theorem beLike_nat {I : im_I} : (∀ z, z ≠ 17 → z ≠ 18 → beLike_ I 17 15 z = I z) ∧ (∀ q, q < 5 → beLike_ I 17 15 17 q = I 15 q) ∧ (∀ j, j < 8 → beLike_ I 17 15 18 j = I 16 j) := by
  have e0 : ∀ q, q < 5 → beLike0_ I 17 15 17 q = I 15 q := by
    intro q hq
    have hc : q = 0 ∨ q = 1 ∨ q = 2 ∨ q = 3 ∨ q = 4 := by omega
    unfold beLike0_
    rcases hc with rfl | rfl | rfl | rfl | rfl <;> simp [im_up]
  have f0 : ∀ z, z ≠ 17 → beLike0_ I 17 15 z = I z := fun z hz => by
    unfold beLike0_
    simp only [up_fr hz]
  unfold beLike_
  rw [show (8 : Int32) = nI 8 by decide, loopC_nat0 (by decide)]
  have key := itN_inv (f := fun i J => put_ J (17 + 1) 8 (nI i) (at_ (J (15 + 1)) 8 (nI i))) (n := 8) (s := beLike0_ I 17 15) (fun i J => (∀ z, z ≠ 18 → J z = beLike0_ I 17 15 z) ∧ ∀ j, j < i → J 18 j = I 16 j) ⟨fun z _ => rfl, fun j hj => absurd hj (by omega)⟩ (fun i J hi hJ => by
    obtain ⟨h1, h2⟩ := hJ
    rw [at_nat hi (by decide), put_nat hi (by decide), h1 (15 + 1) (by decide), f0 (15 + 1) (by decide)]
    refine ⟨fun z hz => (up_fr hz).trans (h1 z hz), fun j hj => ?_⟩
    show im_up J 18 i _ 18 j = _
    rw [up_row]
    by_cases c : j = i
    · rw [if_pos c, c]
    · rw [if_neg c]; exact h2 j (by omega))
  exact ⟨fun z h17 h18 => (key.1 z h18).trans (f0 z h17), fun q hq => (congrFun (key.1 17 (by decide)) q).trans (e0 q hq), key.2⟩
theorem PgOk_E {I J : im_I} {nn : Nat} (h : PgOk I nn) (hP : PgE I J) : PgOk J nn := by
  obtain ⟨h0, hp, hs⟩ := h
  obtain ⟨p1, s1⟩ := stOk_pg hp hs hP
  exact ⟨by rw [hP 3 (by decide) (by decide)]; exact h0, p1, s1⟩
theorem PgE_tr {I J K : im_I} (h : PgE I J) (g : PgE J K) : PgE I K := fun z z1 z2 => (g z z1 z2).trans (h z z1 z2)
theorem MpE_sy {I J : im_I} {m m' : Nat} (h : MpE I J m m') : MpE J I m' m := ⟨h.1.symm, h.2.1.symm, h.2.2.symm⟩
theorem MpE_tr {I J K : im_I} {m m' m'' : Nat} (h : MpE I J m m') (g : MpE J K m' m'') : MpE I K m m'' := ⟨g.1.trans h.1, g.2.1.trans h.2.1, g.2.2.trans h.2.2⟩
/-- many, once built anew -/
theorem many_rebuilt {M : im_I} {x : Int32} (h : M 2 8 = 0) : tellMany_ (builtNow_ M 2) 91 19 x = tellMany_ (worksBuild_ (build_ M 19 15 1) 91 15 19) 91 19 x := by
  unfold builtNow_
  rw [if_pos h]
  exact tellMany_fr (fun z hz => up_fr (by omega)) (by decide) (by decide)
theorem built_fr {M : im_I} {z : Nat} (hz : z < 19) : build_ M 19 15 1 z = M z := build_fr (by omega)
set_option maxHeartbeats 1000000 in
/-- what a plan that stands makes on the other machine is what a plan made anew makes on it -/
theorem with_many {B M : im_I} {nn R : Nat} {tm : Nat → Nat} {r kp t : Int32} (hB : PB B) (hpg : PgOk B nn) (hP : PgE B M) (hM0 : M 2 8 = 0) (h0 : M 15 0 = r) (h1 : M 15 1 = kp) (h4 : M 15 4 = t) (h2 : M 15 2 = B 15 2) (h3 : M 15 3 = B 15 3) (h16 : M 16 = B 16) (hm : McOk M 15 R) (ht : ∀ b, b < 4 → B 4 b = nI (tm b) ∧ tm b ≤ 9) (x : Int32) :
    tellMany_ (builtWith_ B r kp t) 108 19 x = tellMany_ (builtNow_ M 2) 91 19 x := by
  rw [many_rebuilt hM0]
  obtain ⟨M0, b1, b2, b3⟩ := hB
  have hpg0 : PgOk M0 nn := PgOk_E hpg (PgE_sy b1)
  have hBM : MpE B M 15 15 := ⟨cyclesOf_E fun j _ => by rw [show M (15 + 1) = B (15 + 1) from h16], h2, h3⟩
  obtain ⟨N, st, ⟨hL, hV⟩, ⟨hL', hV'⟩, hPl⟩ := build_E (I := M0) (J := M) (a := 19) (a' := 19) (m := 15) (m' := 15) (o := 1) hpg0 (PgE_tr b1 hP) (MpE_tr b2 hBM) (by decide) (by decide) (by decide) (by decide)
  unfold builtWith_
  obtain ⟨l1, l2, l3⟩ := beLike_nat (I := B)
  have eL : ∀ z, z ≠ 17 → z ≠ 18 → im_up (im_up (im_up (beLike_ B 17 15) 17 0 r) 17 1 kp) 17 4 t z = B z := fun z z1 z2 => by rw [up_fr z1, up_fr z1, up_fr z1]; exact l1 z z1 z2
  have eL17 : ∀ q, im_up (im_up (im_up (beLike_ B 17 15) 17 0 r) 17 1 kp) 17 4 t 17 q = if q = 4 then t else if q = 1 then kp else if q = 0 then r else beLike_ B 17 15 17 q := fun q => by rw [up_row, up_row, up_row]
  have eL18 : im_up (im_up (im_up (beLike_ B 17 15) 17 0 r) 17 1 kp) 17 4 t 18 = beLike_ B 17 15 18 := by rw [up_fr (by decide), up_fr (by decide), up_fr (by decide)]
  generalize im_up (im_up (im_up (beLike_ B 17 15) 17 0 r) 17 1 kp) 17 4 t = L at eL eL17 eL18 ⊢
  have eP : ∀ z, 3 ≤ z ∧ z ≤ 11 ∨ 19 ≤ z ∧ z ≤ 54 → L z = build_ M0 19 15 1 z := fun z hz => by
    rw [eL z (by omega) (by omega)]
    rcases hz with hz | hz
    · rw [built_fr (by omega)]; exact b1 z hz.1 hz.2
    · exact b3 z hz.1 hz.2
  have hLL : LnOk L 19 N st := LnOk_fr hL fun z hz => eP z (by omega)
  have hLV : LvOk L 19 N st := LvOk_fr hV fun z hz => eP z (by omega)
  have fM : ∀ z, z < 19 → build_ M 19 15 1 z = M z := fun z hz => built_fr hz
  have m15 := fM 15 (by decide)
  have hPL : PgE L (build_ M 19 15 1) := fun z z1 z2 => by rw [fM z (by omega), eL z (by omega) (by omega)]; exact hP z z1 z2
  have hMh : MhE L (build_ M 19 15 1) 17 15 := by
    unfold MhE
    rw [m15, eL17, eL17, eL17, h0, h1, h4]
    exact ⟨rfl, rfl, rfl⟩
  have hmL : McOk L 17 R := by
    unfold McOk at hm ⊢
    rw [← hMh.1, ← hMh.2.1, m15]
    exact hm
  exact ((works_E (I := L) (J := build_ M 19 15 1) (p := 19) (p' := 19) (w := 108) (w' := 91) (m := 17) (m' := 15) (tm := tm) hLL hLV hL' hV' (PlE_fr hPl (fun z z1 z2 => eP z (by omega)) (fun z _ _ => rfl)) hPL hmL hMh (cyclesOf_E fun j hj => by rw [fM (15 + 1) (by decide), show M (15 + 1) = B 16 from h16, show L (17 + 1) = beLike_ B 17 15 18 from eL18, l3 j hj]) (fun b hb => by rw [eL 4 (by decide) (by decide)]; exact ht b hb) (by decide) (by decide) (by decide) (by decide) (by decide) (by decide) (by decide) (by decide)).2 x).symm
theorem tm_108 {I : im_I} : tellMany_ I 108 55 13 = I 120 1 := by simp [tellMany_]
set_option maxHeartbeats 1000000 in
/-- cyclesWith -/
theorem would_many {I D : im_I} {nn R : Nat} {tm : Nat → Nat} {kd cy : Int32} (hpg : PgOk I nn) (hP : PgE I D) (hD0 : D 2 8 = 0) (h15 : D 15 = I 15) (h16 : ∀ j, j < 8 → D 16 j = put_ I 16 8 kd cy 16 j) (hm : McOk I 15 R) (ht : ∀ b, b < 4 → I 4 b = nI (tm b) ∧ tm b ≤ 9) :
    tellMany_ (builtNow_ D 2) 91 19 13 = wouldM_ I kd cy 120 1 := by
  rw [many_rebuilt hD0]
  have hw : wouldM_ I kd cy 120 1 = tellMany_ (worksBuild_ (build_ (put_ (beLike_ I 17 15) 18 8 kd cy) 55 17 1) 108 17 55) 108 55 13 := tm_108.symm
  rw [hw]
  obtain ⟨l1, l2, l3⟩ := beLike_nat (I := I)
  have eL : ∀ z, z ≠ 17 → z ≠ 18 → put_ (beLike_ I 17 15) 18 8 kd cy z = I z := fun z z1 z2 => (put_fr z2).trans (l1 z z1 z2)
  have e17 : ∀ q, q < 5 → put_ (beLike_ I 17 15) 18 8 kd cy 17 q = I 15 q := fun q hq => (congrFun (put_fr (by decide)) q).trans (l2 q hq)
  have e18 : ∀ j, j < 8 → put_ (beLike_ I 17 15) 18 8 kd cy 18 j = D 16 j := fun j hj => by
    rw [h16 j hj]
    exact put_E (fun j hj => l3 j hj) j hj
  generalize put_ (beLike_ I 17 15) 18 8 kd cy = L at eL e17 e18 ⊢
  have hPL : PgE I L := fun z z1 z2 => eL z (by omega) (by omega)
  have hpL : PgOk L nn := PgOk_E hpg hPL
  have hPLD : PgE L D := PgE_tr (PgE_sy hPL) hP
  have hMp : MpE L D 17 15 := ⟨cyclesOf_E fun j hj => (e18 j hj).symm, by rw [h15, e17 2 (by decide)], by rw [h15, e17 3 (by decide)]⟩
  obtain ⟨N, st, ⟨hL, hV⟩, ⟨hL', hV'⟩, hPl⟩ := build_E (I := L) (J := D) (a := 55) (a' := 19) (m := 17) (m' := 15) (o := 1) hpL hPLD hMp (by decide) (by decide) (by decide) (by decide)
  have fD : ∀ z, z < 19 → build_ D 19 15 1 z = D z := fun z hz => built_fr hz
  have fL : ∀ z, z < 55 → build_ L 55 17 1 z = L z := fun z hz => build_fr (by omega)
  have hmL : McOk (build_ L 55 17 1) 17 R := by
    unfold McOk at hm ⊢
    rw [fL 17 (by decide), e17 0 (by decide), e17 1 (by decide)]
    exact hm
  exact (works_E (I := build_ L 55 17 1) (J := build_ D 19 15 1) (p := 55) (p' := 19) (w := 108) (w' := 91) (m := 17) (m' := 15) (tm := tm) hL hV hL' hV' hPl (fun z z1 z2 => by rw [fD z (by omega), fL z (by omega)]; exact hPLD z z1 z2) hmL (by
    unfold MhE
    rw [fD 15 (by decide), fL 17 (by decide), h15, e17 0 (by decide), e17 1 (by decide), e17 4 (by decide)]
    exact ⟨rfl, rfl, rfl⟩) (cyclesOf_E fun j hj => by rw [fD (15 + 1) (by decide), fL (17 + 1) (by decide)]; exact (e18 j hj).symm) (fun b hb => by rw [fL 4 (by decide), eL 4 (by decide) (by decide)]; exact ht b hb) (by decide) (by decide) (by decide) (by decide) (by decide) (by decide) (by decide) (by decide)).2 13
/-- a plan just built -/
theorem PB_built {M : im_I} (h : M 2 8 = 0) : PB (builtNow_ M 2) ∧ ¬ builtNow_ M 2 2 8 = 0 := by
  have f : ∀ z, z < 19 → z ≠ 2 → builtNow_ M 2 z = M z := fun z hz h2 => builtNow_fr (by decide) (Or.inl hz) h2
  refine ⟨⟨M, fun z z1 z2 => f z (by omega) (by omega), ⟨cyclesOf_E fun j _ => by rw [f (15 + 1) (by decide) (by decide)], by rw [f 15 (by decide) (by decide)], by rw [f 15 (by decide) (by decide)]⟩, fun z z1 z2 => ?_⟩, ?_⟩
  · unfold builtNow_
    rw [if_pos h, up_fr (by omega)]
    exact worksBuild_fr (by omega)
  · unfold builtNow_
    rw [if_pos h, im_up_same]
    decide
theorem PB_now {I : im_I} (h : ¬ I 2 8 = 0 → PB I) : PB (builtNow_ I 2) ∧ ¬ builtNow_ I 2 2 8 = 0 := by
  by_cases c : I 2 8 = 0
  · exact PB_built c
  · rw [builtNow_id c]
    exact ⟨h c, c⟩
