section Sim3
variable {I : im_I} {h R : Nat} {kept : Int32} {G S : Nat → Int32}
/-- one operand of a CALL brought to d -/
theorem ex_br {w d : Nat} (hw : hsd I h R w) (hd : d < 11) : exCL kept R (brL I h (nI w) (nI d)) (G, S) = (upd G d (homeV I h (G, S) w), S) := by
  have w88 := hw.1
  unfold brL
  rw [isSp_nat w88, reg_nat w88]
  by_cases c : I (h + 1) w = -1
  · rw [decide_eq_true c, if_pos rfl, ex_ld hw c hd]
  · rw [decide_eq_false c, if_neg (by decide)]
    rcases hw.2 with ⟨g, g8, g3, e⟩ | ⟨e, -⟩
    · rw [homeV_reg (by omega) e, e, ex_mv hd (by omega)]
    · exact absurd e c
theorem ex_cmv {y1 y2 : Nat} (h1 : hsd I h R y1) (h2 : hsd I h R y2) (hR : 5 ≤ R) (hR11 : R ≤ 11) : ∃ G1, exCL kept R (cmvL I h (nI (R - 3)) (nI y1) (nI y2)) (G, S) = (G1, S) ∧ G1 0 = homeV I h (G, S) y1 ∧ G1 1 = homeV I h (G, S) y2 ∧ ∀ j, j ≠ 0 → j ≠ 1 → j ≠ R - 3 → G1 j = G j := by
  have e0 : (0 : Int32) = nI 0 := nI_0.symm
  have e1 : (1 : Int32) = nI 1 := by decide
  unfold cmvL
  rw [reg_nat h1.1, reg_nat h2.1, e0, e1]
  by_cases c1 : I (h + 1) y2 = nI 0 ∧ I (h + 1) y1 = nI 1
  · rw [if_pos c1, exCL_app, exCL_app, ex_mv (by omega) (by omega), ex_mv (by omega) (by omega), ex_mv (by omega) (by omega)]
    try dsimp only
    refine ⟨_, rfl, ?_, ?_, fun j j0 j1 js => ?_⟩
    · rw [homeV_reg (by decide) c1.2, upd_at, if_neg (by decide), upd_at, if_pos rfl, upd_at, if_neg (by omega)]
    · rw [homeV_reg (by decide) c1.1, upd_at, if_pos rfl, upd_at, if_neg (by omega), upd_at, if_pos rfl]
    · rw [upd_at, if_neg j1, upd_at, if_neg j0, upd_at, if_neg js]
  · rw [if_neg c1]
    by_cases c2 : I (h + 1) y2 = nI 0
    · rw [if_pos c2, exCL_app, ex_mv (by omega) (by omega), ex_br h1 (by omega)]
      try dsimp only
      refine ⟨_, rfl, ?_, ?_, fun j j0 j1 js => ?_⟩
      · rw [upd_at, if_pos rfl]
        rcases h1.2 with ⟨g, g8, g3, e⟩ | ⟨e, -⟩
        · rw [homeV_reg (by omega) e, homeV_reg (by omega) e]
          show upd G 1 (G 0) g = G g
          rw [upd_at, if_neg]
          intro hg
          subst hg
          exact c1 ⟨c2, e⟩
        · unfold homeV
          rw [if_pos e, if_pos e]
      · rw [upd_at, if_neg (by decide), upd_at, if_pos rfl, homeV_reg (by decide) c2]
      · rw [upd_at, if_neg j0, upd_at, if_neg j1]
    · rw [if_neg c2, exCL_app, ex_br h1 (by omega), ex_br h2 (by omega)]
      try dsimp only
      refine ⟨_, rfl, ?_, ?_, fun j j0 j1 js => ?_⟩
      · rw [upd_at, if_neg (by decide), upd_at, if_pos rfl]
      · rw [upd_at, if_pos rfl]
        rcases h2.2 with ⟨g, g8, g3, e⟩ | ⟨e, -⟩
        · rw [homeV_reg (by omega) e, homeV_reg (by omega) e]
          show upd G 0 _ g = G g
          rw [upd_at, if_neg]
          intro hg
          subst hg
          exact c2 e
        · unfold homeV
          rw [if_pos e, if_pos e]
      · rw [upd_at, if_neg j1, upd_at, if_neg j0]
theorem call_eff {x : Ins} {w : Nat} {V : Env} (hx : insOk x) (hw1 : x 1 = nI w) (hw : hsd I h R w) (hR : 5 ≤ R) (hR11 : R ≤ 11) (h9 : x 0 = 9) (hnm : I (h + 3) w = 1 → I (h + 1) w ≠ -1) (hkept : ∀ g, g < 32 → hb kept g = true → 2 ≤ g ∧ g + 3 < R)
    (hrd : ∀ k y, k < 3 → y < 88 → x (2 + k) = nI y → hsd I h R y ∧ homeV I h (G, S) y = V y) :
    homeV I h (exCL kept R (callL I h (nI (R - 3)) x) (G, S)) w = opV (x 0) (x 5) (V (ofN (x 2))) (V (ofN (x 3))) (V (ofN (x 4))) ∧
    ∀ u, hsd I h R u → (∀ g, g < 8 → I (h + 1) u = nI g → hb kept g = true) → (∀ g, g < 8 → I (h + 1) w = nI g → I (h + 1) u ≠ nI g) → (∀ s, s < 88 → I (h + 1) w = -1 → I (h + 2) w = nI s → I (h + 1) u = -1 → I (h + 2) u ≠ nI s) → homeV I h (exCL kept R (callL I h (nI (R - 3)) x) (G, S)) u = homeV I h (G, S) u := by
  obtain ⟨ar, -, hr⟩ := hx
  have h23 : x 2 ≠ -1 ∧ x 3 ≠ -1 := by
    rcases ar with ⟨e, -⟩ | ⟨e, -⟩ | ⟨-, a, b, -⟩ | ⟨e, -⟩ | ⟨e, -⟩
    · rw [h9] at e; exact absurd e (by decide)
    · rw [h9] at e; exact absurd e (by decide)
    · exact ⟨a, b⟩
    · rw [h9] at e; exact absurd e (by decide)
    · rw [h9] at e; exact absurd e (by decide)
  obtain ⟨y1, y188, e1⟩ : ∃ y, y < 88 ∧ x 2 = nI y := (hr 0 (by decide)).resolve_left h23.1
  obtain ⟨y2, y288, e2⟩ : ∃ y, y < 88 ∧ x 3 = nI y := (hr 1 (by decide)).resolve_left h23.2
  obtain ⟨q1, q2⟩ := hrd 0 y1 (by decide) y188 e1
  obtain ⟨q3, q4⟩ := hrd 1 y2 (by decide) y288 e2
  obtain ⟨G1, g1, g2, g3, g4⟩ := ex_cmv (kept := kept) (G := G) (S := S) q1 q3 hR hR11
  have w88 := hw.1
  have hcall : exCL kept R [ci 9 0 0 0 0] (G1, S) = (callF kept R G1, S) := by
    rw [exCL_c, exCL_n]
    unfold exC
    rw [if_neg (show ¬ ci 9 0 0 0 0 0 = 8 by show ¬ (9 : Int32) = 8; decide), if_pos (show ci 9 0 0 0 0 0 = 9 from rfl)]
  have hc0 : callF kept R G1 0 = opV (x 0) (x 5) (V (ofN (x 2))) (V (ofN (x 3))) (V (ofN (x 4))) := by
    have e : callF kept R G1 0 = 3 * G1 0 + 2 * G1 1 + 1 := if_pos rfl
    rw [e, g2, g3, q2, q4, h9, opV_9, e1, e2, ofN_nI (by omega), ofN_nI (by omega)]
  have hck : ∀ j, hb kept j = true → j < 32 → callF kept R G1 j = G j := fun j hj hj32 => by
    obtain ⟨k1, k2⟩ := hkept j hj32 hj
    have e : callF kept R G1 j = G1 j := by
      show (if j = 0 then _ else if j < R ∧ hb kept j = false then -77777 else G1 j) = G1 j
      rw [if_neg (by omega), if_neg (fun hh => by rw [hj] at hh; cases hh.2)]
    rw [e]
    exact g4 j (by omega) (by omega) (by omega)
  generalize opV (x 0) (x 5) (V (ofN (x 2))) (V (ofN (x 3))) (V (ofN (x 4))) = res at hc0 ⊢
  generalize callF kept R G1 = G2 at hcall hc0 hck
  have hall : exCL kept R (callL I h (nI (R - 3)) x) (G, S) = exCL kept R (if isSpilled_ I h (nI w) = true then [ci 8 0 (slotOf_ I h (nI w)) 0 0] else mvL (registerOf_ I h (nI w)) 0) (G2, S) := by
    unfold callL
    rw [hw1, e1, e2, exCL_app, exCL_app, g1, hcall]
  rw [hall, isSp_nat w88, slot_nat w88, reg_nat w88]
  by_cases c : I (h + 1) w = -1
  · rw [decide_eq_true c, if_pos rfl, exCL_c, exCL_n]
    have hm : I (h + 3) w ≠ 1 := fun e => hnm e c
    obtain ⟨s, hs, es⟩ : ∃ s, s < 88 ∧ I (h + 2) w = nI s := by
      rcases hw.2 with ⟨g, g8, -, e⟩ | ⟨-, e | ⟨-, e⟩⟩
      · exact absurd (e.symm.trans c) (nI_m1 (by omega))
      · exact absurd e hm
      · exact e
    have hx : exC kept R (ci 8 0 (I (h + 2) w) 0 0) (G2, S) = (G2, upd S s res) := by
      unfold exC
      rw [if_pos (show ci 8 0 (I (h + 2) w) 0 0 0 = 8 from rfl)]
      show (G2, putF S 88 (I (h + 2) w) (at_ G2 11 0)) = _
      rw [es, putF_nI hs (by decide), show (0 : Int32) = nI 0 from nI_0.symm, at_nat (by decide) (by decide), hc0]
    rw [hx]
    refine ⟨?_, fun u hu hk hr' hsl => ?_⟩
    · unfold homeV
      rw [if_pos c, if_neg hm, es, ofN_nI (by omega)]
      show upd S s res s = res
      rw [upd_at, if_pos rfl]
    · obtain ⟨u88, ⟨g, g8, g3', e⟩ | ⟨e, hu2⟩⟩ := hu
      · rw [homeV_reg (by omega) e, homeV_reg (by omega) e]
        exact hck g (hk g g8 e) (by omega)
      · unfold homeV
        rw [if_pos e, if_pos e]
        rcases hu2 with hu2 | ⟨hu2, s2, hs2, e3⟩
        · rw [if_pos hu2, if_pos hu2]
        · rw [if_neg hu2, if_neg hu2, e3, ofN_nI (by omega)]
          show upd S s res s2 = S s2
          rw [upd_at, if_neg]
          intro e4
          subst e4
          exact hsl s2 hs2 c es e e3
  · rw [decide_eq_false c, if_neg (by decide)]
    obtain ⟨g, g8, g3', e⟩ := hw.2.resolve_right (fun hh => c hh.1)
    rw [e, show (0 : Int32) = nI 0 from nI_0.symm, ex_mv (by omega) (by decide)]
    refine ⟨by rw [homeV_reg (by omega) e]; show upd G2 g (G2 0) g = res; rw [upd_at, if_pos rfl, hc0], fun u hu hk hr' hsl => ?_⟩
    obtain ⟨u88, ⟨gu, gu8, gu3, eu⟩ | ⟨eu, hu2⟩⟩ := hu
    · rw [homeV_reg (by omega) eu, homeV_reg (by omega) eu]
      show upd G2 g (G2 0) gu = G gu
      rw [upd_at, if_neg (show ¬ gu = g from fun hh => hr' g g8 rfl (by rw [eu, hh]))]
      exact hck gu (hk gu gu8 eu) (by omega)
    · unfold homeV
      rw [if_pos eu, if_pos eu]
/-- a line, whatever it is -/
theorem line_eff {x : Ins} {w : Nat} {V : Env} {two : Int32} (hx : insOk x) (hw1 : x 1 = nI w) (hw : hsd I h R w) (hR : 5 ≤ R) (hR11 : R ≤ 11) (hmk : I (h + 3) w = 1 → I (h + 1) w = -1 ∧ x 0 = 0 ∧ x 5 = I (h + 4) w) (hkept : ∀ g, g < 32 → hb kept g = true → 2 ≤ g ∧ g + 3 < R)
    (hrd : ∀ k y, k < 3 → y < 88 → x (2 + k) = nI y → hsd I h R y ∧ homeV I h (G, S) y = V y) :
    homeV I h (exCL kept R (lineL I h two (nI (R - 3)) x) (G, S)) w = exI x V w ∧
    ∀ u, hsd I h R u → (x 0 = 9 → ∀ g, g < 8 → I (h + 1) u = nI g → hb kept g = true) → (∀ g, g < 8 → I (h + 1) w = nI g → I (h + 1) u ≠ nI g) → (∀ s, s < 88 → I (h + 1) w = -1 → I (h + 2) w = nI s → I (h + 1) u = -1 → I (h + 2) u ≠ nI s) → homeV I h (exCL kept R (lineL I h two (nI (R - 3)) x) (G, S)) u = homeV I h (G, S) u := by
  have w88 := hw.1
  have hex : exI x V w = opV (x 0) (x 5) (V (ofN (x 2))) (V (ofN (x 3))) (V (ofN (x 4))) := by
    unfold exI
    rw [hw1, ofN_nI (by omega), upd_at, if_pos rfl]
  rw [hex]
  unfold lineL
  by_cases c9 : x 0 = 9
  · rw [if_pos c9]
    have hnm : I (h + 3) w = 1 → I (h + 1) w ≠ -1 := fun e => by
      have := (hmk e).2.1
      rw [c9] at this
      exact absurd this (by decide)
    obtain ⟨a1, a2⟩ := call_eff (kept := kept) hx hw1 hw hR hR11 c9 hnm hkept hrd
    exact ⟨a1, fun u hu hk => a2 u hu (hk c9)⟩
  · rw [if_neg c9]
    have er : isRemade_ I h (x 1) = decide (I (h + 3) w = 1) := by unfold isRemade_; rw [hw1, at88 w88]
    rw [er]
    by_cases cm : I (h + 3) w = 1
    · rw [decide_eq_true cm, if_pos rfl, exCL_n]
      obtain ⟨m1, m2, m3⟩ := hmk cm
      refine ⟨?_, fun u _ _ _ _ => rfl⟩
      unfold homeV
      rw [if_pos m1, if_pos cm, m2, m3, opV_0]
    · rw [decide_eq_false cm, if_neg (by decide)]
      obtain ⟨a1, a2⟩ := one_eff (kept := kept) (two := two) hx hw1 hw hR hR11 c9 (fun e => absurd e cm) hrd
      exact ⟨a1, fun u hu _ => a2 u hu⟩
end Sim3
