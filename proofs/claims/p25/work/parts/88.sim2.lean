theorem opV_irr {kd n n' x y z z' : Int32} (hk : kd = 2 ∨ kd = 3 ∨ kd = 4) : opV kd n x y z = opV kd n' x y z' := by
  rcases hk with e | e | e <;> subst e <;> rfl
theorem opV_5 {n x y z y' z' : Int32} : opV 5 n x y z = opV 5 n x y' z' := rfl
theorem opV_6 {n n' x y z : Int32} : opV 6 n x y z = opV 6 n' x y z := rfl
theorem opV_0 {n x y z : Int32} : opV 0 n x y z = n := rfl
theorem opV_1 {n x y z : Int32} : opV 1 n x y z = x := rfl
theorem opV_9 {n x y z : Int32} : opV 9 n x y z = 3 * x + 2 * y + 1 := rfl
section Sim2
variable {I : im_I} {h R : Nat} {kept : Int32} {G S : Nat → Int32}
theorem isSp_nat {w : Nat} (hw : w < 88) : isSpilled_ I h (nI w) = decide (I (h + 1) w = -1) := by unfold isSpilled_; rw [at88 hw]
theorem reg_nat {w : Nat} (hw : w < 88) : registerOf_ I h (nI w) = I (h + 1) w := at88 hw
theorem reg_m1 : registerOf_ I h (-1) = -1 := at_m1
theorem slot_nat {w : Nat} (hw : w < 88) : slotOf_ I h (nI w) = I (h + 2) w := at88 hw
/-- the homes' values are as in other registers above s -/
theorem homeV_low {G G' : Nat → Int32} {w : Nat} (hw : hsd I h R w) (hG : ∀ j, j + 3 < R → G' j = G j) : homeV I h (G', S) w = homeV I h (G, S) w := by
  obtain ⟨w88, ⟨g, g8, g3, e⟩ | ⟨e, -⟩⟩ := hw
  · rw [homeV_reg (by omega) e, homeV_reg (by omega) e]
    exact hG g g3
  · unfold homeV
    rw [if_pos e, if_pos e]
/-- one operand fetched -/
theorem ex_fe {x : Int32} {k : Nat} {v : Int32} (hR : 5 ≤ R) (hR11 : R ≤ 11) (hk : k < 3) (hx : x = -1 ∨ ∃ w, x = nI w ∧ hsd I h R w ∧ homeV I h (G, S) w = v) :
    ∃ G', exCL kept R (feL I h (nI (R - 3)) x (nI k)) (G, S) = (G', S) ∧ (∀ j, j ≠ R - 3 + k → G' j = G j) ∧ (x = -1 → feV I h (nI (R - 3)) x (nI k) = -1) ∧
      (x ≠ -1 → ∃ g, (g + 3 < R ∨ g = R - 3 + k) ∧ feV I h (nI (R - 3)) x (nI k) = nI g ∧ G' g = v) := by
  rcases hx with e | ⟨w, e, hw, hv⟩
  · subst e
    refine ⟨G, by rw [feL_m1, exCL_n], fun j _ => rfl, fun _ => ?_, fun hne => absurd rfl hne⟩
    unfold feV
    rw [if_pos rfl, reg_m1]
  · have w88 := hw.1
    have hne : x ≠ -1 := by rw [e]; exact nI_m1 (by omega)
    subst e
    unfold feL feV
    rw [if_neg hne, if_neg hne, isSp_nat w88, reg_nat w88]
    by_cases c : I (h + 1) w = -1
    · rw [decide_eq_true c, if_neg (by decide), if_neg (by decide), nI_add, ex_ld hw c (by omega), hv]
      exact ⟨_, rfl, fun j hj => by rw [upd_at, if_neg hj], fun e => absurd e hne, fun _ => ⟨R - 3 + k, Or.inr rfl, rfl, by rw [upd_at, if_pos rfl]⟩⟩
    · rw [decide_eq_false c, if_pos rfl, if_pos rfl, exCL_n]
      refine ⟨G, rfl, fun j _ => rfl, fun e => absurd e hne, fun _ => ?_⟩
      rcases hw.2 with ⟨g, g8, g3, e⟩ | ⟨e, -⟩
      · exact ⟨g, Or.inl g3, e, by rw [← hv, homeV_reg (by omega) e]⟩
      · exact absurd e c
/-- where the line's value goes -/
def dst (I : im_I) (h R w : Nat) : Nat := if I (h + 1) w = -1 then R - 3 else ofN (I (h + 1) w)
theorem dst_nat {w : Nat} (hw : hsd I h R w) (hR : 5 ≤ R) (hR11 : R ≤ 11) : dstV I h (nI (R - 3)) (nI w) = nI (dst I h R w) ∧ dst I h R w < 11 ∧ (I (h + 1) w = -1 → dst I h R w = R - 3) ∧ (I (h + 1) w ≠ -1 → I (h + 1) w = nI (dst I h R w) ∧ dst I h R w + 3 < R) := by
  have w88 := hw.1
  unfold dstV dst
  rw [isSp_nat w88, reg_nat w88]
  by_cases c : I (h + 1) w = -1
  · rw [decide_eq_true c, if_pos rfl, if_pos c]
    exact ⟨rfl, by omega, fun _ => rfl, fun e => absurd c e⟩
  · rw [decide_eq_false c, if_neg (by decide), if_neg c]
    rcases hw.2 with ⟨g, g8, g3, e⟩ | ⟨e, -⟩
    · rw [e, ofN_nI (by omega)]
      exact ⟨rfl, by omega, fun e2 => absurd e2 (nI_m1 (by omega)), fun _ => ⟨rfl, g3⟩⟩
    · exact absurd e c
/-- the effect on all homes, when register d is set and then, perhaps, a slot -/
theorem ex_tail {w : Nat} (hw : hsd I h R w) (hR : 5 ≤ R) (hR11 : R ≤ 11) (hnm : I (h + 3) w = 1 → I (h + 1) w ≠ -1) {G' : Nat → Int32} {v : Int32} (hd : G' (dst I h R w) = v) (hG : ∀ j, j + 3 < R → j ≠ dst I h R w → G' j = G j) :
    homeV I h (exCL kept R (tailL I h (nI w) (nI (dst I h R w))) (G', S)) w = v ∧ ∀ u, hsd I h R u → (∀ g, g < 8 → I (h + 1) w = nI g → I (h + 1) u ≠ nI g) → (∀ s, s < 88 → I (h + 1) w = -1 → I (h + 2) w = nI s → I (h + 1) u = -1 → I (h + 2) u ≠ nI s) → homeV I h (exCL kept R (tailL I h (nI w) (nI (dst I h R w))) (G', S)) u = homeV I h (G, S) u := by
  have w88 := hw.1
  obtain ⟨d1, d2, d3, d4⟩ := dst_nat hw hR hR11
  unfold tailL
  rw [isSp_nat w88, slot_nat w88]
  by_cases c : I (h + 1) w = -1
  · rw [decide_eq_true c, if_pos rfl, exCL_c, exCL_n]
    have hm : I (h + 3) w ≠ 1 := fun e => hnm e c
    obtain ⟨s, hs, es⟩ : ∃ s, s < 88 ∧ I (h + 2) w = nI s := by
      rcases hw.2 with ⟨g, g8, -, e⟩ | ⟨-, e | ⟨-, e⟩⟩
      · exact absurd (e.symm.trans c) (nI_m1 (by omega))
      · exact absurd e hm
      · exact e
    have hx : exC kept R (ci 8 (nI (dst I h R w)) (I (h + 2) w) 0 0) (G', S) = (G', upd S s v) := by
      show (G', putF S 88 (I (h + 2) w) (at_ G' 11 (nI (dst I h R w)))) = _
      rw [es, putF_nI hs (by decide), at_nat d2 (by decide), hd]
    rw [hx]
    refine ⟨?_, fun u hu hr hsl => ?_⟩
    · unfold homeV
      rw [if_pos c, if_neg hm, es, ofN_nI (by omega)]
      show upd S s v s = v
      rw [upd_at, if_pos rfl]
    · obtain ⟨u88, ⟨g, g8, g3, e⟩ | ⟨e, hu2⟩⟩ := hu
      · rw [homeV_reg (by omega) e, homeV_reg (by omega) e]
        exact hG g g3 (by rw [d3 c]; omega)
      · unfold homeV
        rw [if_pos e, if_pos e]
        rcases hu2 with hu2 | ⟨hu2, s2, hs2, e2⟩
        · rw [if_pos hu2, if_pos hu2]
        · rw [if_neg hu2, if_neg hu2, e2, ofN_nI (by omega)]
          show upd S s v s2 = S s2
          rw [upd_at, if_neg]
          intro e3
          subst e3
          exact hsl s2 hs2 c es e e2
  · rw [decide_eq_false c, if_neg (by decide), exCL_n]
    obtain ⟨d5, d6⟩ := d4 c
    refine ⟨by rw [homeV_reg (by omega) d5]; exact hd, fun u hu hr hsl => ?_⟩
    obtain ⟨u88, ⟨g, g8, g3, e⟩ | ⟨e, hu2⟩⟩ := hu
    · rw [homeV_reg (by omega) e, homeV_reg (by omega) e]
      refine hG g g3 ?_
      intro e2
      exact hr g g8 (by rw [e2]; exact d5) e
    · unfold homeV
      rw [if_pos e, if_pos e]
/-- a line that is no CALL and is not made anew elsewhere -/
theorem one_eff {x : Ins} {w : Nat} {V : Env} {two : Int32} (hx : insOk x) (hw1 : x 1 = nI w) (hw : hsd I h R w) (hR : 5 ≤ R) (hR11 : R ≤ 11) (h9 : x 0 ≠ 9) (hnm : I (h + 3) w = 1 → I (h + 1) w ≠ -1)
    (hrd : ∀ k y, k < 3 → y < 88 → x (2 + k) = nI y → hsd I h R y ∧ homeV I h (G, S) y = V y) :
    homeV I h (exCL kept R (oneL I h two (nI (R - 3)) x) (G, S)) w = opV (x 0) (x 5) (V (ofN (x 2))) (V (ofN (x 3))) (V (ofN (x 4))) ∧
    ∀ u, hsd I h R u → (∀ g, g < 8 → I (h + 1) w = nI g → I (h + 1) u ≠ nI g) → (∀ s, s < 88 → I (h + 1) w = -1 → I (h + 2) w = nI s → I (h + 1) u = -1 → I (h + 2) u ≠ nI s) → homeV I h (exCL kept R (oneL I h two (nI (R - 3)) x) (G, S)) u = homeV I h (G, S) u := by
  obtain ⟨ar, -, hr⟩ := hx
  obtain ⟨d1, d2, d3, d4⟩ := dst_nat hw hR hR11
  have hop : ∀ (k : Nat) (G1 : Nat → Int32), k < 3 → (∀ j, j + 3 < R → G1 j = G j) → x (2 + k) = -1 ∨ ∃ y, x (2 + k) = nI y ∧ hsd I h R y ∧ homeV I h (G1, S) y = V (ofN (x (2 + k))) := fun k G1 hk hG1 => by
    rcases hr k hk with e | ⟨y, hy, e⟩
    · exact Or.inl e
    · obtain ⟨q1, q2⟩ := hrd k y hk hy e
      exact Or.inr ⟨y, e, q1, by rw [homeV_low q1 hG1, q2, e, ofN_nI (by omega)]⟩
  obtain ⟨G1, f1, f2, f3, f4⟩ := ex_fe (kept := kept) (k := 0) hR hR11 (by decide) (hop 0 G (by decide) (fun j _ => rfl))
  have F1 : ∀ j, j + 3 < R → G1 j = G j := fun j hj => f2 j (by omega)
  obtain ⟨G2, g1, g2, g3, g4⟩ := ex_fe (kept := kept) (k := 1) hR hR11 (by decide) (hop 1 G1 (by decide) F1)
  have F2 : ∀ j, j + 3 < R → G2 j = G j := fun j hj => (g2 j (by omega)).trans (F1 j hj)
  obtain ⟨G3, k1, k2, k3, k4⟩ := ex_fe (kept := kept) (k := 2) hR hR11 (by decide) (hop 2 G2 (by decide) F2)
  have F3 : ∀ j, j + 3 < R → G3 j = G j := fun j hj => (k2 j (by omega)).trans (F2 j hj)
  rw [show (nI 0) = 0 from nI_0] at f1 f3 f4
  rw [show (nI 1) = 1 by decide] at g1 g3 g4
  rw [show (nI 2) = 2 by decide] at k1 k3 k4
  have f1 : exCL kept R (feL I h (nI (R - 3)) (x 2) 0) (G, S) = (G1, S) := f1
  have g1 : exCL kept R (feL I h (nI (R - 3)) (x 3) 1) (G1, S) = (G2, S) := g1
  have k1 : exCL kept R (feL I h (nI (R - 3)) (x 4) 2) (G2, S) = (G3, S) := k1
  -- the operands at the end
  have O0 : x 2 ≠ -1 → ∃ g, g < 11 ∧ (g + 3 < R ∨ g = R - 3) ∧ feV I h (nI (R - 3)) (x 2) 0 = nI g ∧ G3 g = V (ofN (x 2)) := fun hne => by
    obtain ⟨g, q1, q2, q3⟩ := f4 hne
    refine ⟨g, by omega, by omega, q2, ?_⟩
    rw [k2 g (by omega), g2 g (by omega)]; exact q3
  have O1 : x 3 ≠ -1 → ∃ g, g < 11 ∧ g ≠ R - 3 ∧ feV I h (nI (R - 3)) (x 3) 1 = nI g ∧ G3 g = V (ofN (x 3)) := fun hne => by
    obtain ⟨g, q1, q2, q3⟩ := g4 hne
    refine ⟨g, by omega, by omega, q2, ?_⟩
    rw [k2 g (by omega)]; exact q3
  have O2 : x 4 ≠ -1 → ∃ g, g < 11 ∧ g ≠ R - 3 ∧ feV I h (nI (R - 3)) (x 4) 2 = nI g ∧ G3 g = V (ofN (x 4)) := fun hne => by
    obtain ⟨g, q1, q2, q3⟩ := k4 hne
    exact ⟨g, by omega, by omega, q2, q3⟩
  have hmid : ∃ G', exCL kept R (bodyL two (nI (R - 3)) (x 0) (x 5) (nI (dst I h R w)) (feV I h (nI (R - 3)) (x 2) 0) (feV I h (nI (R - 3)) (x 3) 1) (feV I h (nI (R - 3)) (x 4) 2)) (G3, S) = (G', S) ∧ G' (dst I h R w) = opV (x 0) (x 5) (V (ofN (x 2))) (V (ofN (x 3))) (V (ofN (x 4))) ∧ ∀ j, j ≠ dst I h R w → j ≠ R - 3 → G' j = G3 j := by
    unfold bodyL
    have two_case : ∀ kd n y z : Int32, (kd = 2 ∨ kd = 3 ∨ kd = 4 ∨ kd = 5 ∨ kd = 6) → opd y → opd z → y ≠ nI (R - 3) → z ≠ nI (R - 3) → (kd = 2 ∨ kd = 4 → z = -1) → x 2 ≠ -1 → ∃ G', exCL kept R (operL two (nI (R - 3)) kd (nI (dst I h R w)) (feV I h (nI (R - 3)) (x 2) 0) y z n) (G3, S) = (G', S) ∧ G' (dst I h R w) = opV kd n (V (ofN (x 2))) (at_ G3 11 y) (at_ G3 11 z) ∧ ∀ j, j ≠ dst I h R w → j ≠ R - 3 → G' j = G3 j := by
      intro kd n y z hkd hy hz hys hzs h24 h2
      obtain ⟨g, q1, -, q2, q3⟩ := O0 h2
      rw [q2, ← q3]
      exact ex_oper d2 q1 (by omega) hy hz hys hzs hkd h24
    have hnn : ∀ g : Nat, g < 11 → g ≠ R - 3 → nI g ≠ nI (R - 3) := fun g hg hne e => hne (nI_inj (by omega) (by omega) e)
    have hm1 : (-1 : Int32) ≠ nI (R - 3) := fun e => nI_m1 (by omega) e.symm
    rcases ar with ⟨e, a, b, d⟩ | ⟨e, a, b, d⟩ | ⟨e, a, b, d⟩ | ⟨e, a, b, d⟩ | ⟨e, a, b, d⟩
    · rw [if_pos e, exCL_c, exCL_n, e]
      refine ⟨upd G3 (dst I h R w) (x 5), ?_, by rw [upd_at, if_pos rfl, opV_0], fun j hj _ => by rw [upd_at, if_neg hj]⟩
      show (putF G3 11 (nI (dst I h R w)) (x 5), S) = _
      rw [putF_nI d2 (by decide)]
    · obtain ⟨g, q1, -, q2, q3⟩ := O0 a
      rw [if_neg (by rw [e]; decide), if_pos e, q2, ex_mv d2 q1, e]
      exact ⟨_, rfl, by rw [upd_at, if_pos rfl, q3, opV_1], fun j hj _ => by rw [upd_at, if_neg hj]⟩
    · obtain ⟨g, q1, q2, q3, q4⟩ := O1 b
      have hk : x 0 = 2 ∨ x 0 = 3 ∨ x 0 = 4 ∨ x 0 = 5 ∨ x 0 = 6 := by
        rcases e with e | e | e | e
        · exact Or.inl e
        · exact Or.inr (Or.inl e)
        · exact Or.inr (Or.inr (Or.inl e))
        · exact absurd e h9
      have hn5 : ¬ x 0 = 0 ∧ ¬ x 0 = 1 ∧ ¬ x 0 = 5 := by rcases e with e | e | e | e <;> rw [e] <;> decide
      rw [if_neg hn5.1, if_neg hn5.2.1, if_neg hn5.2.2]
      have ez : feV I h (nI (R - 3)) (x 4) 2 = -1 := k3 d
      rw [ez]
      obtain ⟨G', y1, y2, y3⟩ := two_case (x 0) 0 (feV I h (nI (R - 3)) (x 3) 1) (-1) hk (Or.inr ⟨g, q1, q3⟩) (Or.inl rfl) (by rw [q3]; exact hnn g q1 q2) hm1 (fun _ => rfl) a
      refine ⟨G', y1, ?_, y3⟩
      rw [y2, q3, at_nat q1 (by decide), q4]
      refine opV_irr ?_
      rcases e with e | e | e | e
      · exact Or.inl e
      · exact Or.inr (Or.inl e)
      · exact Or.inr (Or.inr e)
      · exact absurd e h9
    · rw [if_neg (by rw [e]; decide), if_neg (by rw [e]; decide), if_pos e]
      obtain ⟨G', y1, y2, y3⟩ := two_case 5 (x 5) (-1) (-1) (Or.inr (Or.inr (Or.inr (Or.inl rfl)))) (Or.inl rfl) (Or.inl rfl) hm1 hm1 (fun _ => rfl) a
      refine ⟨G', y1, ?_, y3⟩
      rw [y2, e]
      exact opV_5
    · obtain ⟨g, q1, q2, q3, q4⟩ := O1 b
      obtain ⟨g', p1, p2, p3, p4⟩ := O2 d
      rw [if_neg (by rw [e]; decide), if_neg (by rw [e]; decide), if_neg (by rw [e]; decide)]
      obtain ⟨G', y1, y2, y3⟩ := two_case (x 0) 0 (feV I h (nI (R - 3)) (x 3) 1) (feV I h (nI (R - 3)) (x 4) 2) (Or.inr (Or.inr (Or.inr (Or.inr e)))) (Or.inr ⟨g, q1, q3⟩) (Or.inr ⟨g', p1, p3⟩) (by rw [q3]; exact hnn g q1 q2) (by rw [p3]; exact hnn g' p1 p2) (fun h => by rw [e] at h; exact absurd h (by decide)) a
      refine ⟨G', y1, ?_, y3⟩
      rw [y2, q3, p3, at_nat q1 (by decide), at_nat p1 (by decide), q4, p4, e]
      exact opV_6
  obtain ⟨G', y1, y2, y3⟩ := hmid
  have hall : exCL kept R (oneL I h two (nI (R - 3)) x) (G, S) = exCL kept R (tailL I h (nI w) (nI (dst I h R w))) (G', S) := by
    unfold oneL
    rw [hw1, d1, exCL_app, exCL_app, exCL_app, exCL_app, f1, g1, k1, y1]
  rw [hall]
  exact ex_tail hw hR hR11 hnm y2 (fun j hj hjd => by rw [y3 j hjd (by omega)]; exact F3 j hj)
end Sim2
