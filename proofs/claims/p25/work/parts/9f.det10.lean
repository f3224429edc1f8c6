/-! DETERMINATION: a plan's works, and what is told of them -/
theorem works_parts {I : im_I} {p w m N R : Nat} {st : Nat → Nat} (hL : LnOk I p N st) (hV : LvOk I p N st) (hm : McOk I m R) (hpw : p + 26 < w) (hmw : m + 1 < w) (h12 : 12 < w) :
    WkOk (give_ I (w + 1) m (p + 10) (p + 17)) p (w + 1) m N R st ∧ MkO (give_ I (w + 1) m (p + 10) (p + 17)) (make_ (give_ I (w + 1) m (p + 10) (p + 17)) (w + 7) m (p + 10) (w + 1)) (w + 7) (w + 1) m (p + 10) N ∧ cs (give_ I (w + 1) m (p + 10) (p + 17)) (w + 1) m (p + 10) N ≤ 528 ∧
      ∀ b, b < 5 → startOf_ (make_ (give_ I (w + 1) m (p + 10) (p + 17)) (w + 7) m (p + 10) (w + 1)) (w + 7) (at_ (make_ (give_ I (w + 1) m (p + 10) (p + 17)) (w + 7) m (p + 10) (w + 1) (p + 26)) 5 (nI b)) = nI (cs (give_ I (w + 1) m (p + 10) (p + 17)) (w + 1) m (p + 10) (st b)) := by
  have hk := give_Wk (h := w + 1) hL hV hm (by omega) (by omega) (by omega)
  generalize give_ I (w + 1) m (p + 10) (p + 17) = K at hk ⊢
  obtain ⟨⟨l1, l2, -, l4, -, l6⟩, lO, -⟩ := id hk.1
  have har : ∀ q, q < N → arOk (insAt K (p + 10) q 0) (insAt K (p + 10) q 2) (insAt K (p + 10) q 3) (insAt K (p + 10) q 4) := fun q hq => (lO q hq).1
  have hM := make_M (c := w + 7) (h := w + 1) (m := m) l1 l2 (Or.inl (by omega)) (Or.inl (by omega)) (Or.inl (by omega)) har
  have hcs := cs_le (I := K) (h := w + 1) (m := m) (r := p + 10) har
  refine ⟨hk, hM, by omega, fun b hb => ?_⟩
  have sb := (st_le hk).1 b (by omega)
  rw [at_nat hb (by decide), hM.2.2.2 (p + 26) (by omega), l6 b hb]
  unfold startOf_
  rw [at_nat (by omega) (by decide)]
  exact hM.2.2.1 (st b) sb
section WkE
variable {I J : im_I} {h h' m m' r r' N : Nat}
theorem LL_E (H : HmE I J h h') (hM : MhE I J m m') {q : Nat} (hi : insAt J r' q = insAt I r q) : LL J h' m' r' q = LL I h m r q := by
  unfold LL scratch_
  rw [hM.1, hM.2.2, hi]
  exact line_E H _ _ _
theorem cs_E (H : HmE I J h h') (hM : MhE I J m m') (hi : ∀ q, q < N → insAt J r' q = insAt I r q) {p : Nat} (hp : p ≤ N) : cs J h' m' r' p = cs I h m r p := sumTo_congr fun q hq => by rw [LL_E H hM (hi q (by omega))]
theorem code_E {K L : im_I} {c c' : Nat} (H : HmE I J h h') (hM : MhE I J m m') (hi : ∀ q, q < N → insAt J r' q = insAt I r q) (hK : MkO I K c h m r N) (hL : MkO J L c' h' m' r' N) : ∀ k, k < cs I h m r N → codeAt L c' k = codeAt K c k := by
  intro k hk
  obtain ⟨q, i, q1, q2, q3⟩ := cs_find hk
  have hget : (LL I h m r q)[i]? = some (LL I h m r q)[i] := List.getElem?_eq_getElem q2
  have e1 := (hK.2.1 q i _ q1 hget).1
  have e2 := (hL.2.1 q i (LL I h m r q)[i] q1 (by rw [LL_E H hM (hi q q1)]; exact hget)).1
  rw [cs_E H hM hi (by omega)] at e2
  rw [q3, e1, e2]
end WkE
theorem most_E {I J : im_I} {v v' vc : Nat} {e : Int32} (hv : I v 0 = nI vc) (hv' : J v' 0 = nI vc) (h88 : vc ≤ 88) (h1 : ∀ w, w < 88 → J (v' + 1) w = I (v + 1) w) (h2 : ∀ w, w < 88 → I (v + 1) w ≠ -1 → J (v' + 2) w = I (v + 2) w) : mostAtOnce_ J v' e = mostAtOnce_ I v e := by
  have el : livingAt_ J v' = livingAt_ I v := by
    funext pt
    unfold livingAt_
    rw [hv, hv', loopC_nat0 (by omega), loopC_nat0 (by omega)]
    refine itN_congr fun w c hw => ?_
    have hw88 : w < 88 := by omega
    unfold firstOf_ lastOf_
    rw [isLiving_nat hw88, isLiving_nat hw88, at88 hw88, at88 hw88, at88 hw88, at88 hw88, h1 w hw88]
    by_cases d : I (v + 1) w = -1
    · have nd : ∀ P Q : Prop, ¬ (decide (¬ I (v + 1) w = -1) = true ∧ P ∧ Q) := fun P Q hh => absurd d (of_decide_eq_true hh.1)
      rw [if_neg (nd _ _), if_neg (nd _ _)]
    · rw [h2 w hw88 d]
  unfold mostAtOnce_
  rw [el]
theorem loose_E {I J : im_I} (hP : PgE I J) : looseCount_ J 3 = looseCount_ I 3 := by
  have e : isLoose_ J 3 = isLoose_ I 3 := by
    funext x
    unfold isLoose_
    rw [hP 3 (by decide) (by decide), hP (3 + 5) (by decide) (by decide)]
  unfold looseCount_
  rw [e, hP 3 (by decide) (by decide)]
set_option maxHeartbeats 2000000 in
/-- whatever is asked of the works -/
theorem works_E {I J : im_I} {p p' w w' m m' N R : Nat} {st tm : Nat → Nat} (hL : LnOk I p N st) (hV : LvOk I p N st) (hL' : LnOk J p' N st) (hV' : LvOk J p' N st) (hP : PlE I J p p' N) (hPg : PgE I J) (hm : McOk I m R) (hM : MhE I J m m') (hcy : cyclesOf_ J m' = cyclesOf_ I m) (ht : ∀ b, b < 4 → I 4 b = nI (tm b) ∧ tm b ≤ 9)
    (hpw : p + 26 < w) (hmw : m + 1 < w) (h12 : 12 < w) (hpw' : p' + 26 < w') (hmw' : m' + 1 < w') (h12' : 12 < w') (h11 : 11 < p) (h11' : 11 < p') : HmE (give_ I (w + 1) m (p + 10) (p + 17)) (give_ J (w' + 1) m' (p' + 10) (p' + 17)) (w + 1) (w' + 1) ∧ ∀ x, tellMany_ (worksBuild_ J w' m' p') w' p' x = tellMany_ (worksBuild_ I w m p) w p x := by
  have hm' : McOk J m' R := by unfold McOk; rw [hM.1, hM.2.1]; exact hm
  obtain ⟨k1, k2, k3, k4⟩ := works_parts hL hV hm hpw hmw h12
  obtain ⟨j1, j2, j3, j4⟩ := works_parts hL' hV' hm' hpw' hmw' h12'
  have H := give_E (h := w + 1) (h' := w' + 1) hL hV hP hM (by omega) (by omega) (by omega) (by omega)
  have fI : ∀ z, z < w + 1 → give_ I (w + 1) m (p + 10) (p + 17) z = I z := fun z hz => give_fr (Or.inl hz)
  have fJ : ∀ z, z < w' + 1 → give_ J (w' + 1) m' (p' + 10) (p' + 17) z = J z := fun z hz => give_fr (Or.inl hz)
  unfold worksBuild_
  simp only
  generalize give_ I (w + 1) m (p + 10) (p + 17) = I1 at k1 k2 k3 k4 H fI ⊢
  generalize give_ J (w' + 1) m' (p' + 10) (p' + 17) = J1 at j1 j2 j3 j4 H fJ ⊢
  refine ⟨H, fun x => ?_⟩
  have hM1 : MhE I1 J1 m m' := by unfold MhE; rw [fI m (by omega), fJ m' (by omega)]; exact hM
  have hi1 : ∀ q, q < N → insAt J1 (p' + 10) q = insAt I1 (p + 10) q := fun q hq => by
    rw [insAt_fr (I := J) fun z z1 z2 => fJ z (by omega), insAt_fr (I := I) fun z z1 z2 => fI z (by omega)]
    exact hP.1.2 q hq
  have hcode := code_E H hM1 hi1 k2 j2
  have hcs : ∀ q, q ≤ N → cs J1 (w' + 1) m' (p' + 10) q = cs I1 (w + 1) m (p + 10) q := fun q hq => cs_E H hM1 hi1 hq
  obtain ⟨sle, -⟩ := st_le k1
  have f2I : ∀ z, z < w + 7 → make_ I1 (w + 7) m (p + 10) (w + 1) z = I1 z := fun z hz => make_fr (Or.inl hz)
  have f2J : ∀ z, z < w' + 7 → make_ J1 (w' + 7) m' (p' + 10) (w' + 1) z = J1 z := fun z hz => make_fr (Or.inl hz)
  generalize make_ I1 (w + 7) m (p + 10) (w + 1) = I2 at k2 k4 hcode f2I ⊢
  generalize make_ J1 (w' + 7) m' (p' + 10) (w' + 1) = J2 at j2 j4 hcode f2J ⊢
  have gI : ∀ z, z < w + 1 → I2 z = I z := fun z hz => (f2I z (by omega)).trans (fI z hz)
  have gJ : ∀ z, z < w' + 1 → J2 z = J z := fun z hz => (f2J z (by omega)).trans (fJ z hz)
  have ecI : cyclesOf_ I2 m = cyclesOf_ I m := by funext kd; unfold cyclesOf_; rw [gI (m + 1) (by omega)]
  have ecJ : cyclesOf_ J2 m' = cyclesOf_ J m' := by funext kd; unfold cyclesOf_; rw [gJ (m' + 1) (by omega)]
  have hR := hm.2.2.1
  have hG := go_E (K := I2) (L := J2) (a := w + 12) (a' := w' + 12) (m := m) (m' := m') (c := w + 7) (c' := w' + 7) (x := p + 26) (x' := p' + 26) (len := cs I1 (w + 1) m (p + 10) N) (R := R) (f := fun b => cs I1 (w + 1) m (p + 10) (st b)) (tm := tm) k3 hcode (by rw [ecI, ecJ, hcy]) (by rw [gI m (by omega)]; exact hm.1) hR (by rw [gI m (by omega), gJ m' (by omega)]; exact hM.1) (by rw [gI m (by omega), gJ m' (by omega)]; exact hM.2.1) (by omega) (by omega) (by omega) (by omega) (by omega) (by omega) (by omega) (by omega) k4 (fun b hb => by rw [j4 b hb, hcs _ (sle b (by omega))]) (fun b hb => cs_mono (sle b (by omega))) (fun b hb => by rw [gI 4 (by omega)]; exact ht b hb) (by rw [gI 4 (by omega), gJ 4 (by omega)]; exact hPg 4 (by decide) (by decide))
  have fG : ∀ z, z < w + 12 → go_ I2 (w + 12) m (w + 7) (p + 26) 5 z = I2 z := fun z hz => go_fr (Or.inl hz)
  have fG' : ∀ z, z < w' + 12 → go_ J2 (w' + 12) m' (w' + 7) (p' + 26) 5 z = J2 z := fun z hz => go_fr (Or.inl hz)
  generalize go_ I2 (w + 12) m (w + 7) (p + 26) 5 = I3 at hG fG ⊢
  generalize go_ J2 (w' + 12) m' (w' + 7) (p' + 26) 5 = J3 at hG fG' ⊢
  have aI : ∀ z, z < w + 1 → I3 z = I z := fun z hz => (fG z (by omega)).trans (gI z hz)
  have aJ : ∀ z, z < w' + 1 → J3 z = J z := fun z hz => (fG' z (by omega)).trans (gJ z hz)
  have hPg3 : PgE I3 J3 := fun z z1 z2 => by rw [aI z (by omega), aJ z (by omega)]; exact hPg z z1 z2
  obtain ⟨⟨vc, v1, v2, -⟩, -⟩ := hV
  obtain ⟨P1, P2, P3, P4, P5⟩ := hP
  have ehm : ∀ q, q < 4 → J3 (w' + 1) q = I3 (w + 1) q := fun q hq => by
    rw [fG _ (by omega), fG' _ (by omega), f2I _ (by omega), f2J _ (by omega)]
    exact H.1 q hq
  have ecc : J3 (w' + 7) 0 = I3 (w + 7) 0 := by
    rw [fG _ (by omega), fG' _ (by omega), k2.1, j2.1, hcs N (Nat.le_refl _)]
  have eco : ∀ kd, countOf_ J3 (w' + 7) kd = countOf_ I3 (w + 7) kd := fun kd => by
    have c1 : I3 (w + 7) 0 = nI (cs I1 (w + 1) m (p + 10) N) := by rw [fG _ (by omega)]; exact k2.1
    unfold countOf_
    rw [ecc, c1, loopC_nat0 (by omega), loopC_nat0 (by omega)]
    refine itN_congr fun k c hk => ?_
    have e1 : codeAt I3 (w + 7) k = codeAt I2 (w + 7) k := by unfold codeAt; rw [fG (w + 7 + 1) (by omega), fG (w + 7 + 2) (by omega)]
    have e2 : codeAt J3 (w' + 7) k = codeAt J2 (w' + 7) k := by unfold codeAt; rw [fG' (w' + 7 + 1) (by omega), fG' (w' + 7 + 2) (by omega)]
    rw [codeKind_nat (by omega), codeKind_nat (by omega), e1, e2, hcode k hk]
  have ecnt : J3 (p' + 10) 0 = I3 (p + 10) 0 := by rw [aI _ (by omega), aJ _ (by omega)]; exact P1.1
  have eli : J3 (p' + 17) 1 = I3 (p + 17) 1 := by rw [aI _ (by omega), aJ _ (by omega)]; exact P3 1 (by decide)
  have emo : ∀ e, mostAtOnce_ J3 (p' + 17) e = mostAtOnce_ I3 (p + 17) e := fun e => most_E (vc := vc) (by rw [aI _ (by omega)]; exact v2) (by rw [aJ _ (by omega), P3 0 (by decide)]; exact v2) v1 (fun w hw => by rw [aI _ (by omega), aJ _ (by omega)]; exact (P4 w hw).1) (fun w hw hl => by
    rw [aI _ (by omega)] at hl
    rw [aI _ (by omega), aJ _ (by omega)]
    exact (P5 w hw hl).1)
  unfold tellMany_
  rw [hPg3 3 (by decide) (by decide), loose_E hPg3, ecnt, eli, ehm 0 (by decide), ehm 1 (by decide), ehm 2 (by decide), ehm 3 (by decide), ecc, eco, eco, eco, hG.1 0 (by omega), hG.1 1 (by omega), hG.1 2 (by omega), emo]
