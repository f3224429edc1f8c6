/-! WHAT STANDS AFTER A BUILD: answers, and what isWhole asks -/
theorem mnAll_E {I J : im_I} (hP : PgE I J) : mnAll J = mnAll I := by
  obtain ⟨-, -, ec, er, ev⟩ := szP_same hP
  have e5 := hP 5 (by decide) (by decide)
  have e6 := hP 6 (by decide) (by decide)
  have e7 := hP 7 (by decide) (by decide)
  have es : stm J = stm I := by unfold stm; rw [er, ev, e5, e6, e7]
  unfold mnAll mnBk
  rw [es, ec]
theorem HmOk_fr {I J : im_I} {h v r m N R : Nat} {fi la : Nat → Nat} {born : Nat → Prop} (H : HmOk I h v r m N R fi la born) (e : ∀ z, z = v + 5 ∨ z = v + 7 ∨ z = m ∨ h ≤ z ∧ z ≤ h + 4 → J z = I z) (er : insAt J r = insAt I r) : HmOk J h v r m N R fi la born := by
  unfold HmOk McOk
  rw [er, e (h + 1) (by omega), e (h + 2) (by omega), e (h + 3) (by omega), e (h + 4) (by omega), e h (by omega), e (v + 5) (by omega), e (v + 7) (by omega), e m (by omega)]
  exact H
theorem WkOk_fr {I J : im_I} {a h m N R : Nat} {st : Nat → Nat} (H : WkOk I a h m N R st) (e : ∀ z, 3 ≤ z ∧ z ≤ 11 ∨ a + 10 ≤ z ∧ z ≤ a + 26 ∨ z = m ∨ h ≤ z ∧ z ≤ h + 4 → J z = I z) : WkOk J a h m N R st := by
  have er : insAt J (a + 10) = insAt I (a + 10) := funext fun p => insAt_fr fun z z1 z2 => e z (by omega)
  have ef : fiN J a = fiN I a := by funext w; unfold fiN; rw [e (a + 18) (by omega)]
  have el : laN J a = laN I a := by funext w; unfold laN; rw [e (a + 19) (by omega)]
  have eb : bornN J a N = bornN I a N := by funext w; unfold bornN; rw [er]
  obtain ⟨h1, h2, h3⟩ := H
  refine ⟨LnOk_fr h1 fun z hz => e z (by omega), LvOk_fr h2 fun z hz => e z (by omega), ?_⟩
  rw [ef, el, eb]
  exact HmOk_fr h3 (fun z hz => e z (by omega)) er
/-- a VARIABLE in OUT is answered as the trees mean it -/
theorem answer_nat {K1 K : im_I} {N R nn : Nat} {st tm : Nat → Nat} {σ0 : RS} (hk : WkOk K1 19 92 15 N R st) (hp : pgOk (K1 5) (K1 6) (K1 7) nn) (hs : stOk K1 nn) (ht : ∀ b, b < 4 → K1 4 b = nI (tm b) ∧ 1 ≤ tm b ∧ tm b ≤ 9)
    (hrun : (K (103 + 2), K (103 + 3)) = exAll K1 92 15 29 R st tm 4 (exLn K1 92 15 29 R 0 (st 0) σ0)) (hF : ∀ z, 36 ≤ z → z ≤ 97 → K z = K1 z) {v : Nat} (hv : v < 8) (hq : hb (K1 3 2) v = true) : tellAnswer_ K 91 19 (nI v) = mnAll K1 tm 4 (fun _ => 0) v := by
  have hsim := sim_end (V := fun _ => 0) (σ := σ0) hk ht hv hq
  obtain ⟨hbn, he⟩ := hsim
  have e0 : ∀ y, y < 8 → exR (insAt K1 (19 + 10)) 0 (st 0) (fun _ => 0) y = (fun _ => (0 : Int32)) y := fun y _ => entry_0 hk (st 0) (Nat.le_refl _) y
  rw [enAll_mn hk hp hs e0 4 (Nat.le_refl _) v hv] at he
  rw [← he]
  have hrun' : exAll K1 92 15 (19 + 10) R st tm 4 (exLn K1 92 15 (19 + 10) R 0 (st 0) σ0) = (K (103 + 2), K (103 + 3)) := hrun.symm
  rw [hrun']
  obtain ⟨l1, l2, -⟩ := Wk_life hk hbn
  obtain ⟨h1, -, h3, -, h5, h6, -, -, hm⟩ := hk.2.2
  have v88 : v < 88 := by omega
  have hR := hm.2.2.1
  have eL : isLiving_ K (19 + 17) (nI v) = true := by
    rw [isLiving_nat v88]
    exact decide_eq_true (by rw [hF _ (by decide) (by decide), show 19 + 17 + 1 = 19 + 18 from rfl, l1]; exact nI_m1 (by have := (Wk_life hk hbn).2.2.1; have := hk.1.1.2.1; omega))
  have er : isRemade_ K (91 + 1) (nI v) = decide (K1 95 v = 1) := by unfold isRemade_; rw [at88 v88, hF _ (by decide) (by decide)]
  have es : isSpilled_ K (91 + 1) (nI v) = decide (K1 93 v = -1) := by unfold isSpilled_; rw [at88 v88, hF _ (by decide) (by decide)]
  unfold tellAnswer_
  rw [eL, if_neg (by decide), er, es]
  unfold homeV homeNumberOf_ slotOf_ registerOf_
  rw [at88 v88, at88 v88, at88 v88, hF (91 + 1 + 4) (by decide) (by decide), hF (91 + 1 + 2) (by decide) (by decide), hF (91 + 1 + 1) (by decide) (by decide)]
  show _ = if K1 93 v = -1 then (if K1 95 v = 1 then K1 96 v else K (103 + 3) (ofN (K1 94 v))) else K (103 + 2) (ofN (K1 93 v))
  rcases h1 v v88 with e | ⟨g, g1, g2, -⟩
  · have e' : K1 93 v = -1 := e
    rw [e', if_pos rfl]
    rcases h6 v v88 hbn e with c | ⟨s, hs8, c⟩
    · have c' : K1 95 v = 1 := c
      rw [c', if_pos (by decide), if_pos rfl]
    · have c' : K1 94 v = nI s := c
      have hn : ¬ K1 95 v = 1 := by
        intro c2
        rcases h5 v v88 with y | ⟨-, -, -, y, -⟩
        · exact absurd (y.symm.trans c2) (by decide)
        · exact absurd (c.symm.trans y) (nI_m1 (by omega))
      rw [if_neg hn, if_neg (by rw [decide_eq_false hn]; decide), if_pos (by decide), show K1 (91 + 1 + 2) v = nI s from c', at88 hs8, ofN_nI (by omega)]
  · have g1' : K1 93 v = nI g := g1
    have hn : ¬ K1 95 v = 1 := by
      intro c2
      rcases h5 v v88 with y | ⟨-, -, y, -⟩
      · exact absurd (y.symm.trans c2) (by decide)
      · exact absurd (g1.symm.trans y) (nI_m1 (by omega))
    rw [g1', if_neg (nI_m1 (by omega)), if_neg (by rw [decide_eq_false hn]; decide), if_neg (by rw [decide_eq_false (nI_m1 (by omega))]; decide), at_nat (by omega) (by decide), ofN_nI (by omega)]
/-- where no SLOT is, no LOAD and no STORE is -/
theorem noslot_nat {K1 K2 : im_I} {N R : Nat} {st : Nat → Nat} (hk : WkOk K1 19 92 15 N R st) (hM : MkO K1 K2 98 92 15 29 N) (hlen : cs K1 92 15 29 N ≤ 528) (h0 : K1 92 2 = 0) : countOf_ K2 98 7 = 0 ∧ countOf_ K2 98 8 = 0 := by
  obtain ⟨h1, -, h3, -, h5, h6, -, h8, hm⟩ := hk.2.2
  have hN : N ≤ 88 := hk.1.1.2.1
  have hsp : ∀ y, bornN K1 19 N y → isSpilled_ K1 92 (nI y) = true → at_ (K1 (92 + 3)) 88 (nI y) = 1 := fun y hy hs => by
    have y88 := hy.1
    rw [isSp_nat y88] at hs
    rw [at88 y88]
    rcases h6 y y88 hy (of_decide_eq_true hs) with c | ⟨s, s1, s2⟩
    · exact c
    · exact absurd ((h8 h0 y y88).symm.trans s2).symm (nI_m1 (by omega))
  have hno : ∀ q, q < N → noLS (LL K1 92 15 29 q) := fun q hq => by
    obtain ⟨⟨w, hw, ew⟩, hr⟩ := whole_ins hk hq
    refine noLS_line (hk.1.2.1 q hq).1 (fun i hi hne hs => ?_) (fun hs => ?_)
    · rcases hr i hi with e | ⟨y, hy, e⟩
      · exact absurd e hne
      · have e' : insAt K1 29 q (2 + i) = nI y := e
        rw [e'] at hs ⊢
        exact hsp y hy hs
    · have ew' : insAt K1 29 q 1 = nI w := ew
      rw [ew'] at hs ⊢
      have h1r := hsp w hw hs
      have w88 := hw.1
      refine ⟨by unfold isRemade_; exact decide_eq_true h1r, fun h9 => ?_⟩
      rw [at88 w88] at h1r
      rcases h5 w w88 with y | ⟨-, -, -, -, y5, y6, -⟩
      · exact absurd (y.symm.trans h1r) (by decide)
      · obtain ⟨k1, k2, k3, k4, k5, k6, k7, k8, k9, k10⟩ := Wk_life hk hw
        have e9 : q = fiN K1 19 w := k9 y5 q hq ew'
        rw [← e9] at y6
        rw [y6] at h9
        exact absurd h9 (by decide)
  have hkd : ∀ k, k < cs K1 92 15 29 N → K2 (98 + 1) k ≠ 7 ∧ K2 (98 + 1) k ≠ 8 := fun k hk2 => by
    obtain ⟨q, i, q1, q2, q3⟩ := cs_find hk2
    have hget : (LL K1 92 15 29 q)[i]? = some (LL K1 92 15 29 q)[i] := List.getElem?_eq_getElem q2
    have e1 := congrFun (hM.2.1 q i _ q1 hget).1 0
    have e2 : K2 (98 + 1) (cs K1 92 15 29 q + i) = (LL K1 92 15 29 q)[i] 0 := e1
    rw [q3, e2]
    exact hno q q1 _ (List.getElem_mem q2)
  refine ⟨?_, ?_⟩
  · rw [countOf_nat hM.1 hlen, cntF_0 fun k hk2 => decide_eq_false (hkd k hk2).1]; exact nI_0
  · rw [countOf_nat hM.1 hlen, cntF_0 fun k hk2 => decide_eq_false (hkd k hk2).2]; exact nI_0
