/-! PURE THEORY, THE WHOLE: what stands after a build -/
theorem mostAtOnce_congr {I J : im_I} {v : Nat} {e : Int32} (h0 : J v = I v) (h1 : J (v + 1) = I (v + 1)) (h2 : J (v + 2) = I (v + 2)) : mostAtOnce_ J v e = mostAtOnce_ I v e := by
  have hl : livingAt_ J v = livingAt_ I v := by
    funext pt
    unfold livingAt_ isLiving_ firstOf_ lastOf_
    rw [h0, h1, h2]
  unfold mostAtOnce_
  rw [hl]
theorem LvOk_fr {I J : im_I} {a N : Nat} {st : Nat → Nat} (h : LvOk I a N st) (e : ∀ z, z = 3 ∨ z = 4 ∨ a + 10 ≤ z ∧ z ≤ a + 25 → J z = I z) : LvOk J a N st := by
  have eR : insAt J (a + 10) = insAt I (a + 10) := funext fun p => insAt_fr fun z z1 z2 => e z (by omega)
  unfold LvOk
  rw [eR, e 3 (by omega), e 4 (by omega), e (a + 17) (by omega), e (a + 18) (by omega), e (a + 19) (by omega), e (a + 22) (by omega), e (a + 24) (by omega), mostAtOnce_congr (I := I) (J := J) (e _ (by omega)) (e _ (by omega)) (e _ (by omega))]
  exact h
theorem McOk_fr {I J : im_I} {m R : Nat} (h : McOk I m R) (e : J m = I m) : McOk J m R := by
  unfold McOk
  rw [e]
  exact h
/-- plan and homes, once homes are given -/
theorem give_Wk {P : im_I} {a h m N R : Nat} {st : Nat → Nat} (hL : LnOk P a N st) (hV : LvOk P a N st) (hm : McOk P m R) (hah : a + 26 < h) (hmh : m < h) (h12 : 12 < h) : WkOk (give_ P h m (a + 10) (a + 17)) a h m N R st := by
  have hF : ∀ z, z < h → give_ P h m (a + 10) (a + 17) z = P z := fun z hz => give_fr (Or.inl hz)
  obtain ⟨vc, hp⟩ := Hp_of hL hV
  have hg := give_Hm (h := h) hp hm (Or.inl (by omega)) (Or.inl (by omega)) (Or.inl hmh)
  have e1 : (fun w => ofN (P (a + 18) w)) = fiN (give_ P h m (a + 10) (a + 17)) a := by
    funext w
    unfold fiN
    rw [hF (a + 18) (by omega)]
  have e2 : (fun w => ofN (P (a + 19) w)) = laN (give_ P h m (a + 10) (a + 17)) a := by
    funext w
    unfold laN
    rw [hF (a + 19) (by omega)]
  have e3 : (fun w => w < 88 ∧ ∃ q, q < N ∧ insAt P (a + 10) q 1 = nI w) = bornN (give_ P h m (a + 10) (a + 17)) a N := by
    have eR : insAt (give_ P h m (a + 10) (a + 17)) (a + 10) = insAt P (a + 10) := funext fun p => insAt_fr fun z z1 z2 => hF z (by omega)
    funext w
    unfold bornN
    rw [eR]
  rw [e1, e2, e3] at hg
  exact ⟨LnOk_fr hL fun z hz => hF z (by omega), LvOk_fr hV fun z hz => hF z (by omega), hg⟩
section Tell
variable {J : im_I} {p : Nat}
theorem tellLine_1 (hp : p < 88) : tellLine_ J 19 (nI p) 1 = insAt J 29 p 1 := by
  unfold tellLine_
  rw [if_neg (by decide), if_pos rfl, writtenBy_nat hp]
theorem tellLine_2 (hp : p < 88) : tellLine_ J 19 (nI p) 2 = insAt J 29 p 2 := by
  unfold tellLine_
  rw [if_neg (by decide), if_neg (by decide), if_pos rfl, show (2 : Int32) - 2 = 0 by decide, readBy_0 hp]
theorem tellLine_3 (hp : p < 88) : tellLine_ J 19 (nI p) 3 = insAt J 29 p 3 := by
  unfold tellLine_
  rw [if_neg (by decide), if_neg (by decide), if_neg (by decide), if_pos rfl, show (3 : Int32) - 2 = 1 by decide, readBy_1 hp]
theorem tellLine_4 (hp : p < 88) : tellLine_ J 19 (nI p) 4 = insAt J 29 p 4 := by
  unfold tellLine_
  rw [if_neg (by decide), if_neg (by decide), if_neg (by decide), if_neg (by decide), if_pos rfl, show (4 : Int32) - 2 = 2 by decide, readBy_2 hp]
theorem tellValue_3 {v : Int32} : tellValue_ J 91 19 v 3 = registerOf_ J 92 v := by
  unfold tellValue_
  rw [if_neg (by decide), if_neg (by decide), if_neg (by decide), if_pos rfl]
theorem tellValue_4 {v : Int32} : tellValue_ J 91 19 v 4 = slotOf_ J 92 v := by
  unfold tellValue_
  rw [if_neg (by decide), if_neg (by decide), if_neg (by decide), if_neg (by decide), if_pos rfl]
theorem tellValue_5 {v : Int32} : tellValue_ J 91 19 v 5 = if isRemade_ J 92 v = true then 1 else 0 := by
  unfold tellValue_
  rw [if_neg (by decide), if_neg (by decide), if_neg (by decide), if_neg (by decide), if_neg (by decide), if_pos rfl]
theorem tellMany_3 : tellMany_ J 91 19 3 = J 29 0 := by simp [tellMany_]
theorem tellMany_5 : tellMany_ J 91 19 5 = J 92 0 := by simp [tellMany_]
end Tell
theorem nI_nneg {n : Nat} (h : n < 2 ^ 31) : 0 ≤ nI n := nI_pos' h
theorem m1_neg : ¬ (0 : Int32) ≤ -1 := by decide
/-- a value that a line names -/
theorem whole_val {H : im_I} {N R y : Nat} {st : Nat → Nat} (hk : WkOk H 19 92 15 N R st) (hy : bornN H 19 N y) : wholeAt H (nI R) (nI y) ∧ (tellValue_ H 91 19 (nI y) 3 < 0 ↔ H 93 y = -1) := by
  have y88 := hy.1
  obtain ⟨l1, -, l3, -⟩ := Wk_life hk hy
  obtain ⟨h1, -, h3, -, h5, h6, -, -, hm⟩ := hk.2.2
  have hN : N ≤ 88 := hk.1.1.2.1
  have hR := hm.2.2.1
  have hR5 := hm.2.1
  unfold wholeAt
  rw [tellValue_3, tellValue_4, tellValue_5, reg_nat y88, slot_nat y88]
  have er : isRemade_ H 92 (nI y) = decide (H 95 y = 1) := by unfold isRemade_; rw [at88 y88]
  rw [er]
  have hlive : isLiving_ H 36 (nI y) = true := by
    rw [isLiving_nat y88]
    exact decide_eq_true (by rw [show 36 + 1 = 19 + 18 from rfl, l1]; exact nI_m1 (by omega))
  rcases h1 y y88 with e | ⟨g, g1, g2, -⟩
  · have e' : H 93 y = -1 := e
    rw [e']
    refine ⟨⟨hlive, fun _ => ?_, fun h => absurd h m1_neg⟩, ⟨fun _ => rfl, fun _ => by decide⟩⟩
    rcases h6 y y88 hy e with c | ⟨s, hs, es⟩
    · have c' : H 95 y = 1 := c
      rw [c']
      rcases h5 y y88 with c2 | ⟨-, -, -, c3, -⟩
      · exact absurd (c2.symm.trans c) (by decide)
      · have c3' : H 94 y = -1 := c3
        rw [c3']
        exact ⟨fun _ => rfl, fun _ => m1_neg⟩
    · have es' : H 94 y = nI s := es
      rw [es']
      constructor
      · intro h; exact absurd (nI_nneg (by omega)) h
      · intro h
        rcases h3 y y88 with c | ⟨s2, -, -, -, -, c⟩
        · exact absurd (es.symm.trans c) (nI_m1 (by omega))
        · have c' : ¬ H 95 y = 1 := c
          rw [decide_eq_false c'] at h
          exact absurd h (by decide)
  · have g1' : H 93 y = nI g := g1
    rw [g1']
    refine ⟨⟨hlive, fun h => absurd (nI_nneg (by omega)) h, fun _ => ⟨?_, ?_⟩⟩, ⟨fun h => absurd h (nI_pos (by omega)), fun h => absurd h (nI_m1 (by omega))⟩⟩
    · have e4 : ∀ R, R ≤ 11 → 5 ≤ R → nI R - 4 = nI (R - 4) := by decide
      rw [e4 R hR hR5]
      exact nI_nlt (by omega) (by omega)
    · rcases h3 y y88 with c | ⟨s2, -, -, -, c, -⟩
      · have c' : H 94 y = -1 := c
        rw [c']; decide
      · exact absurd (g1.symm.trans c) (nI_m1 (by omega))
theorem whole_ins {H : im_I} {N R p : Nat} {st : Nat → Nat} (hk : WkOk H 19 92 15 N R st) (hp : p < N) : (∃ w, bornN H 19 N w ∧ insAt H 29 p 1 = nI w) ∧ ∀ k, k < 3 → insAt H 29 p (2 + k) = -1 ∨ ∃ y, bornN H 19 N y ∧ insAt H 29 p (2 + k) = nI y := by
  obtain ⟨-, ⟨w, w1, w2⟩, h3⟩ := hk.1.2.1 p hp
  refine ⟨⟨w, ⟨w1, p, hp, w2⟩, w2⟩, fun k hk3 => ?_⟩
  rcases h3 k hk3 with e | ⟨y, y1, e⟩
  · exact Or.inl e
  · exact Or.inr ⟨y, (Wk_read hk hp hk3 y1 e).1, e⟩
/-- isWhole's count of what is spilled -/
theorem sp3_nat {H : im_I} {N R : Nat} {st : Nat → Nat} (hk : WkOk H 19 92 15 N R st) : tellMany_ H 91 19 5 = 0 ↔ sp3_ H = 0 := by
  have hN : N ≤ 88 := hk.1.1.2.1
  have h29 : H 29 0 = nI N := hk.1.1.1
  have e3 : tellMany_ H 91 19 3 = H 29 0 := tellMany_3
  have e5 : tellMany_ H 91 19 5 = H 92 0 := tellMany_5
  rw [e5]
  have h7 := hk.2.2.2.2.2.2.2.2.1
  rw [h7]
  unfold sp3_
  rw [e3, h29, loopC_nat0 (by omega)]
  -- what one point counts
  have one : ∀ p, p < N → ∀ c, ∃ d, d ≤ 4 ∧ sp2_ H (nI p) (nI c) = nI (c + d) ∧ (d = 0 ↔ ∀ w, bornN H 19 N w → (insAt H 29 p 1 = nI w ∨ ∃ k, k < 3 ∧ insAt H 29 p (2 + k) = nI w) → H 93 w ≠ -1) := by
    intro p hp c
    obtain ⟨⟨w, hw, ew⟩, hr⟩ := whole_ins hk hp
    have s1 : ∀ (q : Int32) (x : Int32) (c : Nat), tellLine_ H 19 (nI p) q = x → (x = -1 ∨ ∃ y, bornN H 19 N y ∧ x = nI y) → ∃ d, d ≤ 1 ∧ sp1_ H (nI p) q (nI c) = nI (c + d) ∧ (d = 0 ↔ ∀ w, bornN H 19 N w → x = nI w → H 93 w ≠ -1) := by
      intro q x c hx hxx
      unfold sp1_
      rw [hx]
      rcases hxx with e | ⟨y, hy, e⟩
      · subst e
        rw [if_pos (by decide)]
        exact ⟨0, by omega, rfl, ⟨fun _ w hw e => absurd e.symm (nI_m1 (by have := hw.1; omega)), fun _ => rfl⟩⟩
      · subst e
        have := hy.1
        rw [if_neg (nI_pos (by omega))]
        obtain ⟨-, g⟩ := whole_val hk hy
        by_cases cc : H 93 y = -1
        · rw [if_pos (g.mpr cc)]
          exact ⟨1, Nat.le_refl _, (nI_succ c).symm, ⟨fun h => absurd h (by decide), fun h => absurd cc (h y hy rfl)⟩⟩
        · rw [if_neg (fun h => cc (g.mp h)), Int32.add_zero]
          refine ⟨0, by omega, rfl, ⟨fun _ w hw e => ?_, fun _ => rfl⟩⟩
          have := hw.1
          have : y = w := nI_inj (by omega) (by omega) e
          subst this
          exact cc
    have hp88 : p < 88 := by omega
    obtain ⟨d1, a1, b1, c1⟩ := s1 1 _ c (tellLine_1 hp88) (Or.inr ⟨w, hw, ew⟩)
    obtain ⟨d2, a2, b2, c2⟩ := s1 2 _ (c + d1) (tellLine_2 hp88) (hr 0 (by decide))
    obtain ⟨d3, a3, b3, c3⟩ := s1 3 _ (c + d1 + d2) (tellLine_3 hp88) (hr 1 (by decide))
    obtain ⟨d4, a4, b4, c4⟩ := s1 4 _ (c + d1 + d2 + d3) (tellLine_4 hp88) (hr 2 (by decide))
    have e : sp2_ H (nI p) (nI c) = nI (c + (d1 + d2 + d3 + d4)) := by
      unfold sp2_ loopC
      rw [show cnt 1 5 = 4 by decide, loopN_s, loopN_s, loopN_s, loopN_s, loopN_0, show (1 : Int32) + 1 = 2 by decide, show (2 : Int32) + 1 = 3 by decide, show (3 : Int32) + 1 = 4 by decide, b1, b2, b3, b4]
      congr 1; omega
    refine ⟨d1 + d2 + d3 + d4, by omega, e, ?_⟩
    constructor
    · intro h w hw hh
      have z1 := c1.mp (by omega)
      have z2 := c2.mp (by omega)
      have z3 := c3.mp (by omega)
      have z4 := c4.mp (by omega)
      rcases hh with hh | ⟨k, hk3, hh⟩
      · exact z1 w hw hh
      · exact lt3 (P := fun k => insAt H 29 p (2 + k) = nI w → H 93 w ≠ -1) (z2 w hw) (z3 w hw) (z4 w hw) k hk3 hh
    · intro h
      have z1 := c1.mpr (fun w hw e => h w hw (Or.inl e))
      have z2 := c2.mpr (fun w hw e => h w hw (Or.inr ⟨0, by decide, e⟩))
      have z3 := c3.mpr (fun w hw e => h w hw (Or.inr ⟨1, by decide, e⟩))
      have z4 := c4.mpr (fun w hw e => h w hw (Or.inr ⟨2, by decide, e⟩))
      omega
  obtain ⟨d, d1, d2, d3⟩ := itN_inv (f := fun p c => sp2_ H (nI p) c) (n := N) (s := (0 : Int32)) (fun p c => ∃ d, d ≤ 4 * p ∧ c = nI d ∧ (d = 0 ↔ ∀ q w, q < p → bornN H 19 N w → (insAt H 29 q 1 = nI w ∨ ∃ k, k < 3 ∧ insAt H 29 q (2 + k) = nI w) → H 93 w ≠ -1)) ⟨0, by omega, nI_0.symm, ⟨fun _ q w hq => absurd hq (by omega), fun _ => rfl⟩⟩ (fun p c hp hc => by
    obtain ⟨d, d1, d2, d3⟩ := hc
    obtain ⟨e, e1, e2, e3⟩ := one p hp d
    refine ⟨d + e, by omega, by rw [d2, e2], ?_⟩
    constructor
    · intro h q w hq hw hh
      by_cases cc : q = p
      · subst cc; exact e3.mp (by omega) w hw hh
      · exact d3.mp (by omega) q w (by omega) hw hh
    · intro h
      have z1 := d3.mpr (fun q w hq hw hh => h q w (by omega) hw hh)
      have z2 := e3.mpr (fun w hw hh => h p w (by omega) hw hh)
      omega)
  rw [d2]
  have hz : nI d = 0 ↔ d = 0 := ⟨fun h => by
    apply Classical.byContradiction
    intro hne
    exact nI_ne0 (by omega) (by omega) h, fun h => by rw [h]; exact nI_0⟩
  rw [hz, d3]
  constructor
  · intro h q w hq hw _
    exact h w hw.1 hw
  · intro h w hw88 hw
    obtain ⟨-, q, q1, q2⟩ := id hw
    exact h q w q1 hw (Or.inl q2)
