/-! DETERMINATION: HOMES -/
theorem put_E {A B : im_I} {x x' n : Nat} {i u : Int32} (h : ∀ j, j < n → B x' j = A x j) : ∀ j, j < n → put_ B x' n i u x' j = put_ A x n i u x j := by
  intro j hj
  rw [put_F, put_F]
  unfold putF
  by_cases c1 : i < 0
  · rw [if_pos c1, if_pos c1]; exact h j hj
  · rw [if_neg c1, if_neg c1]
    by_cases c2 : Int32.ofNat n ≤ i
    · rw [if_pos c2, if_pos c2]; exact h j hj
    · rw [if_neg c2, if_neg c2, upd_at, upd_at]
      split
      · rfl
      · exact h j hj
/-- the same machine for homes and code -/
def MhE (I J : im_I) (m m' : Nat) : Prop := J m' 0 = I m 0 ∧ J m' 1 = I m 1 ∧ J m' 4 = I m 4
section HmE
variable {A B : im_I} {h h' v v' vc x m m' N p : Nat} {pt al : Int32}
theorem taken_E (hv : A v 0 = nI vc) (hv' : B v' 0 = nI vc) (h88 : vc ≤ 88) (h1 : ∀ w, w < 88 → B (h' + 1) w = A (h + 1) w) (hl : ∀ w, w < 88 → A (h + 1) w ≠ -1 → B (v' + 2) w = A (v + 2) w) : takenBehind_ B h' v' pt = takenBehind_ A h v pt := by
  unfold takenBehind_
  rw [hv, hv', loopC_nat0 (by omega), loopC_nat0 (by omega)]
  refine itN_congr fun i t hi => ?_
  unfold takenOne_ lastOf_
  simp only [at88 (show i < 88 by omega), h1 i (by omega)]
  by_cases c : A (h + 1) i = -1
  · rw [if_pos c, if_pos c]
  · rw [if_neg c, if_neg c, hl i (by omega) c]
theorem worst_E (hv : A v 0 = nI vc) (hv' : B v' 0 = nI vc) (h88 : vc ≤ 88) (hx : x < 88) (hxl : A (v + 1) x ≠ -1) (hf : B (v' + 1) x = A (v + 1) x) (h1 : ∀ w, w < 88 → B (h' + 1) w = A (h + 1) w ∧ (A (h + 1) w ≠ -1 → A (v + 1) w ≠ -1)) (hl : ∀ w, w < 88 → A (v + 1) w ≠ -1 → B (v' + 2) w = A (v + 2) w ∧ B (v' + 4) w = A (v + 4) w) :
    worstOf_ B h' v' (nI x) al = worstOf_ A h v (nI x) al ∧ ∃ y, y < 88 ∧ worstOf_ A h v (nI x) al = nI y := by
  unfold worstOf_
  have ef : firstOf_ B v' (nI x) = firstOf_ A v (nI x) := by unfold firstOf_; rw [at88 hx, at88 hx, hf]
  rw [hv, hv', loopC_nat0 (by omega), loopC_nat0 (by omega), ef]
  generalize firstOf_ A v (nI x) = pt
  have key := itN_rel (f := fun i w => worstOne_ A h v pt al (nI i) w) (g := fun i w => worstOne_ B h' v' pt al (nI i) w) (n := vc) (s := nI x) (t := nI x) (fun i w w' => w' = w ∧ ∃ y, y < 88 ∧ w = nI y ∧ A (v + 1) y ≠ -1) ⟨rfl, x, hx, rfl, hxl⟩ (fun i w w' hi hw => by
    obtain ⟨e, y, y1, y2, y3⟩ := hw
    subst e
    have hi88 : i < 88 := by omega
    obtain ⟨q1, q2⟩ := h1 i hi88
    unfold worstOne_
    rw [at88 hi88, at88 hi88, q1]
    by_cases c : A (h + 1) i = -1
    · have e : ∀ (P Q : Prop), ¬ (hasBit_ al (A (h + 1) i) = true ∧ P ∧ Q) := fun P Q e => by rw [c, hasBit_m1] at e; exact absurd e.1 (by decide)
      rw [if_neg (e _ _), if_neg (e _ _)]
      exact ⟨rfl, y, y1, y2, y3⟩
    · obtain ⟨l1, l2⟩ := hl i hi88 (q2 c)
      obtain ⟨-, k2⟩ := hl y y1 y3
      have e1 : lastOf_ B v' (nI i) = lastOf_ A v (nI i) := by unfold lastOf_; rw [at88 hi88, at88 hi88, l1]
      have e2 : isLighter_ B v' (nI i) w' = isLighter_ A v (nI i) w' := by
        unfold isLighter_
        rw [y2]
        simp only [at88 hi88, at88 y1, l2, k2]
      rw [e1, e2]
      split
      · exact ⟨rfl, i, hi88, rfl, q2 c⟩
      · exact ⟨rfl, y, y1, y2, y3⟩)
  obtain ⟨e, y, y1, y2, -⟩ := key
  exact ⟨e, y, y1, y2⟩
/-- registers in two memories -/
def RgE (A B : im_I) (h h' v : Nat) : Prop := ∀ w, w < 88 → B (h' + 1) w = A (h + 1) w ∧ (A (h + 1) w ≠ -1 → A (v + 1) w ≠ -1)
theorem RgE_put {w : Nat} {u : Int32} (H : RgE A B h h' v) (hw : w < 88) (hl : A (v + 1) w ≠ -1) (hvh : v + 1 ≠ h + 1) : RgE (im_up A (h + 1) w u) (im_up B (h' + 1) w u) h h' v := by
  intro q hq
  obtain ⟨q1, q2⟩ := H q hq
  rw [up_row, up_row, up_fr hvh]
  by_cases c : q = w
  · rw [if_pos c, if_pos c, c]
    exact ⟨rfl, fun _ => hl⟩
  · rw [if_neg c, if_neg c]
    exact ⟨q1, q2⟩
theorem RgE_put1 {w : Nat} (H : RgE A B h h' v) (hw : w < 88) (hvh : v + 1 ≠ h + 1) : RgE (im_up A (h + 1) w (-1)) (im_up B (h' + 1) w (-1)) h h' v := by
  intro q hq
  obtain ⟨q1, q2⟩ := H q hq
  rw [up_row, up_row, up_fr hvh]
  by_cases c : q = w
  · rw [if_pos c, if_pos c]
    exact ⟨rfl, fun e => absurd rfl e⟩
  · rw [if_neg c, if_neg c]
    exact ⟨q1, q2⟩
end HmE
section HmE2
variable {A B : im_I} {a a' h h' m m' N vc p : Nat}
set_option maxHeartbeats 1000000 in
theorem giveROne_E (hP : PlE A B a a' N) (hM : MhE A B m m') (hp : p < N) (h88 : N ≤ 88) (hok : insOk (insAt A (a + 10) p)) (hv : A (a + 17) 0 = nI vc) (hv88 : vc ≤ 88) (hah : a + 26 < h) (hah' : a' + 26 < h') (H : RgE A B h h' (a + 17)) :
    RgE (giveROne_ h m (a + 10) (a + 17) (nI p) A) (giveROne_ h' m' (a' + 10) (a' + 17) (nI p) B) h h' (a + 17) := by
  obtain ⟨⟨-, p1⟩, -, p3, p4, p5⟩ := hP
  obtain ⟨-, ⟨w, w88, hw⟩, hrd⟩ := hok
  have hi := p1 p hp
  have hv' : B (a' + 17) 0 = nI vc := (p3 0 (by decide)).trans hv
  have wA : writtenBy_ A (a + 10) (nI p) = nI w := by rw [writtenBy_nat (by omega)]; exact hw
  have wB : writtenBy_ B (a' + 10) (nI p) = nI w := by rw [writtenBy_nat (by omega), hi]; exact hw
  have f1 : B (a' + 17 + 1) w = A (a + 17 + 1) w := (p4 w w88).1
  have fA : firstOf_ A (a + 17) (nI w) = A (a + 17 + 1) w := by unfold firstOf_; rw [at88 w88]
  have fB : firstOf_ B (a' + 17) (nI w) = A (a + 17 + 1) w := by unfold firstOf_; rw [at88 w88]; exact f1
  unfold giveROne_ isBirth_
  rw [wA, wB, fA, fB]
  by_cases c : A (a + 17 + 1) w = nI p
  · rw [if_neg (by rw [decide_eq_true c]; decide), if_neg (by rw [decide_eq_true c]; decide)]
    have hl : A (a + 17 + 1) w ≠ -1 := by rw [c]; exact nI_m1 (by omega)
    obtain ⟨l1, l2, l3⟩ := p5 w w88 hl
    have hlast : ∀ u, u < 88 → A (a + 17 + 1) u ≠ -1 → B (a' + 17 + 2) u = A (a + 17 + 2) u ∧ B (a' + 17 + 4) u = A (a + 17 + 4) u := fun u hu hul => ⟨(p5 u hu hul).1, (p5 u hu hul).2.1⟩
    unfold giveRegister_
    simp only [wA, wB]
    have eAl : (if crossedBy_ B (a' + 17) (nI w) ≤ 0 then bit_ (scratch_ B m') - 1 else B m' 1) = (if crossedBy_ A (a + 17) (nI w) ≤ 0 then bit_ (scratch_ A m) - 1 else A m 1) := by
      unfold crossedBy_ scratch_
      rw [at88 w88, at88 w88, show B (a' + 17 + 7) w = A (a + 17 + 7) w from l3, hM.1, hM.2.1]
    rw [eAl, taken_E (pt := nI p) hv hv' hv88 (fun u hu => (H u hu).1) (fun u hu hr => (hlast u hu ((H u hu).2 hr)).1)]
    generalize (if crossedBy_ A (a + 17) (nI w) ≤ 0 then bit_ (scratch_ A m) - 1 else A m 1) = al
    generalize al &&& (takenBehind_ A h (a + 17) (nI p) ^^^ -1) = fr
    by_cases c0 : fr = 0
    · rw [if_pos c0, if_pos c0]
      obtain ⟨e1, y, y1, y2⟩ := worst_E (al := al) (h := h) (h' := h') hv hv' hv88 w88 hl f1 H hlast
      unfold spillOne_
      simp only
      rw [e1, y2]
      by_cases c2 : nI y = nI w
      · rw [if_pos c2, if_pos c2]; exact H
      · rw [if_neg c2, if_neg c2, at88 y1, at88 y1, (H y y1).1, put88 w88, put88 w88, put88 y1, put88 y1]
        exact RgE_put1 (RgE_put H w88 hl (by omega)) y1 (by omega)
    · rw [if_neg c0, if_neg c0]
      have eLk : likedRegister_ B h' m' (a' + 10) (nI p) = likedRegister_ A h m (a + 10) (nI p) := by
        unfold likedRegister_ registerOf_
        simp only [kindOf_nat (show p < 88 by omega), readBy_0 (show p < 88 by omega), hi, hM.2.2, at_congr (f := A (h + 1)) (g := B (h' + 1)) (fun j hj => (H j hj).1)]
      rw [eLk, put88 w88, put88 w88]
      exact RgE_put H w88 hl (by omega)
  · rw [if_pos (decide_eq_false c), if_pos (decide_eq_false c)]
    exact H
/-- slots in two memories -/
def SlE (A B : im_I) (h h' v : Nat) : Prop :=
  (∀ q, q < 3 → B h' q = A h q) ∧ (∀ w, w < 88 → B (h' + 1) w = A (h + 1) w ∧ B (h' + 2) w = A (h + 2) w ∧ B (h' + 3) w = A (h + 3) w) ∧ (∀ w, w < 88 → A (h + 3) w = 1 → B (h' + 4) w = A (h + 4) w) ∧ (∀ w, w < 88 → A (h + 2) w ≠ -1 → A (v + 1) w ≠ -1)
theorem markAll_E {v v' : Nat} {pt : Int32} (hv : A v 0 = nI vc) (hv' : B v' 0 = nI vc) (h88 : vc ≤ 88) (hvh : v + 8 < h) (hvh' : v' + 8 < h') (h2 : ∀ w, w < 88 → B (h' + 2) w = A (h + 2) w) (hl : ∀ w, w < 88 → A (h + 2) w ≠ -1 → B (v' + 2) w = A (v + 2) w) :
    (∀ k, k < 88 → markAll_ B h' v' pt (h' + 5) k = markAll_ A h v pt (h + 5) k) ∧ (∀ z, z ≠ h + 5 → markAll_ A h v pt z = A z) ∧ (∀ z, z ≠ h' + 5 → markAll_ B h' v' pt z = B z) := by
  unfold markAll_
  rw [hv, hv', loopC_nat0 (by omega), loopC_nat0 (by omega)]
  refine itN_rel (f := fun i J => markOne_ h v pt (nI i) J) (g := fun i J => markOne_ h' v' pt (nI i) J) (n := vc) (s := fillL_ A (h + 5) 88 0) (t := fillL_ B (h' + 5) 88 0) (fun i C D => (∀ k, k < 88 → D (h' + 5) k = C (h + 5) k) ∧ (∀ z, z ≠ h + 5 → C z = A z) ∧ (∀ z, z ≠ h' + 5 → D z = B z)) ⟨fun k hk => by rw [fillL_row (by decide) hk, fillL_row (by decide) hk], fun z hz => fillL_fr hz, fun z hz => fillL_fr hz⟩ (fun i C D hi hCD => ?_)
  obtain ⟨g1, g2, g3⟩ := hCD
  have hi88 : i < 88 := by omega
  unfold markOne_ lastOf_
  rw [at88 hi88, at88 hi88, at88 hi88, at88 hi88, g2 (h + 2) (by omega), g3 (h' + 2) (by omega), g2 (v + 2) (by omega), g3 (v' + 2) (by omega), h2 i hi88]
  by_cases c : A (h + 2) i = -1
  · rw [if_pos c, if_pos c]; exact ⟨g1, g2, g3⟩
  · rw [if_neg c, if_neg c, hl i hi88 c]
    by_cases c2 : A (v + 2) i < pt
    · rw [if_pos c2, if_pos c2]; exact ⟨g1, g2, g3⟩
    · rw [if_neg c2, if_neg c2]
      exact ⟨put_E g1, fun z hz => (put_fr hz).trans (g2 z hz), fun z hz => (put_fr hz).trans (g3 z hz)⟩
theorem freeN_E (h5 : ∀ k, k < 88 → B (h' + 5) k = A (h + 5) k) : ∀ (n : Nat) (k : Int32), freeN_ B h' n k = freeN_ A h n k := by
  intro n
  induction n with
  | zero => intro k; rw [freeN_0, freeN_0]
  | succ n ih =>
    intro k
    rw [freeN_s, freeN_s, at_congr h5, ih]
set_option maxHeartbeats 1000000 in
theorem giveSOne_E (hP : PlE A B a a' N) (hp : p < N) (h88 : N ≤ 88) (hok : insOk (insAt A (a + 10) p)) (hv : A (a + 17) 0 = nI vc) (hv88 : vc ≤ 88) (hah : a + 26 < h) (hah' : a' + 26 < h') (H : SlE A B h h' (a + 17)) :
    SlE (giveSOne_ h (a + 10) (a + 17) (nI p) A) (giveSOne_ h' (a' + 10) (a' + 17) (nI p) B) h h' (a + 17) := by
  obtain ⟨⟨-, p1⟩, -, p3, p4, p5⟩ := hP
  obtain ⟨H0, H1, H2, H3⟩ := id H
  obtain ⟨-, ⟨w, w88, hw⟩, hrd⟩ := hok
  have hi := p1 p hp
  have hv' : B (a' + 17) 0 = nI vc := (p3 0 (by decide)).trans hv
  have wA : writtenBy_ A (a + 10) (nI p) = nI w := by rw [writtenBy_nat (by omega)]; exact hw
  have wB : writtenBy_ B (a' + 10) (nI p) = nI w := by rw [writtenBy_nat (by omega), hi]; exact hw
  have f1 : B (a' + 17 + 1) w = A (a + 17 + 1) w := (p4 w w88).1
  have fA : firstOf_ A (a + 17) (nI w) = A (a + 17 + 1) w := by unfold firstOf_; rw [at88 w88]
  have fB : firstOf_ B (a' + 17) (nI w) = A (a + 17 + 1) w := by unfold firstOf_; rw [at88 w88]; exact f1
  unfold giveSOne_ isBirth_ isSpilled_
  rw [wA, wB, fA, fB, at88 w88, at88 w88, (H1 w w88).1]
  by_cases c : A (a + 17 + 1) w = nI p
  · have nc : ¬ decide (A (a + 17 + 1) w = nI p) = false := by rw [decide_eq_true c]; decide
    rw [if_neg nc, if_neg nc]
    have hl : A (a + 17 + 1) w ≠ -1 := by rw [c]; exact nI_m1 (by omega)
    by_cases d : A (h + 1) w = -1
    · have nd : ¬ decide (A (h + 1) w = -1) = false := by rw [decide_eq_true d]; decide
      rw [if_neg nd, if_neg nd, H0 0 (by decide)]
      generalize A h 0 + 1 = u
      have gA : ∀ z, z ≠ h → im_up A h 0 u z = A z := fun z hz => up_fr hz
      have gB : ∀ z, z ≠ h' → im_up B h' 0 u z = B z := fun z hz => up_fr hz
      have g0 : ∀ q, q < 3 → im_up B h' 0 u h' q = im_up A h 0 u h q := fun q hq => by rw [up_row, up_row, H0 q hq]
      generalize im_up A h 0 u = A1 at gA g0 ⊢
      generalize im_up B h' 0 u = B1 at gB g0 ⊢
      have wA1 : writtenBy_ A1 (a + 10) (nI p) = nI w := by rw [← wA]; unfold writtenBy_; rw [gA _ (by omega)]
      have wB1 : writtenBy_ B1 (a' + 10) (nI p) = nI w := by rw [← wB]; unfold writtenBy_; rw [gB _ (by omega)]
      have iA : insAt A1 (a + 10) p = insAt A (a + 10) p := insAt_fr fun z z1 z2 => gA z (by omega)
      have iB : insAt B1 (a' + 10) p = insAt A (a + 10) p := (insAt_fr fun z z1 z2 => gB z (by omega)).trans hi
      unfold giveSlot_
      have k1 : writesOf_ B1 (a' + 17) (nI w) = writesOf_ A1 (a + 17) (nI w) := by unfold writesOf_; rw [at88 w88, at88 w88, gA _ (by omega), gB _ (by omega)]; exact (p4 w w88).2
      have k2 : kindOf_ B1 (a' + 10) (nI p) = kindOf_ A1 (a + 10) (nI p) := by rw [kindOf_nat (by omega), kindOf_nat (by omega), iA, iB]
      simp only [wA1, wB1, k1, k2, put88 w88]
      by_cases e : writesOf_ A1 (a + 17) (nI w) = 1 ∧ kindOf_ A1 (a + 10) (nI p) = 0
      · rw [if_pos e, if_pos e]
        have k3 : numberOf_ (im_up B1 (h' + 3) w 1) (a' + 10) (nI p) = numberOf_ (im_up A1 (h + 3) w 1) (a + 10) (nI p) := by
          rw [numberOf_nat (by omega), numberOf_nat (by omega), insAt_fr (I := B1) fun z z1 z2 => up_fr (by omega), insAt_fr (I := A1) fun z z1 z2 => up_fr (by omega), iA, iB]
        rw [k3]
        generalize numberOf_ (im_up A1 (h + 3) w 1) (a + 10) (nI p) = nu
        have k4 : im_up (im_up B1 (h' + 3) w 1) (h' + 4) w nu h' 1 = im_up (im_up A1 (h + 3) w 1) (h + 4) w nu h 1 := by
          rw [up_fr (by omega), up_fr (by omega), up_fr (by omega), up_fr (by omega)]; exact g0 1 (by decide)
        rw [k4]
        generalize im_up (im_up A1 (h + 3) w 1) (h + 4) w nu h 1 + 1 = u2
        refine ⟨fun q hq => ?_, fun q hq => ⟨?_, ?_, ?_⟩, fun q hq hm => ?_, fun q hq hs => ?_⟩
        · rw [up_row, up_row, up_fr (by omega), up_fr (by omega), up_fr (by omega), up_fr (by omega), g0 q hq]
        · rw [up_fr (by omega), up_fr (by omega), up_fr (by omega), up_fr (by omega), up_fr (by omega), up_fr (by omega), gA _ (by omega), gB _ (by omega)]; exact (H1 q hq).1
        · rw [up_fr (by omega), up_fr (by omega), up_fr (by omega), up_fr (by omega), up_fr (by omega), up_fr (by omega), gA _ (by omega), gB _ (by omega)]; exact (H1 q hq).2.1
        · rw [up_fr (show h' + 3 ≠ h' by omega), up_fr (show h' + 3 ≠ h' + 4 by omega), up_fr (show h + 3 ≠ h by omega), up_fr (show h + 3 ≠ h + 4 by omega), up_row, up_row, gA _ (by omega), gB _ (by omega), (H1 q hq).2.2]
        · rw [up_fr (show h' + 4 ≠ h' by omega), up_fr (show h + 4 ≠ h by omega), up_row, up_row, up_fr (by omega), up_fr (by omega), gA _ (by omega), gB _ (by omega)]
          rw [up_fr (by omega), up_fr (by omega), up_row, gA _ (by omega)] at hm
          by_cases y : q = w
          · rw [if_pos y, if_pos y]
          · rw [if_neg y] at hm
            rw [if_neg y, if_neg y]
            exact H2 q hq hm
        · rw [up_fr (by omega), up_fr (by omega), up_fr (by omega), gA _ (by omega)] at hs
          rw [up_fr (by omega), up_fr (by omega), up_fr (by omega), gA _ (by omega)]
          exact H3 q hq hs
      · rw [if_neg e, if_neg e]
        obtain ⟨m1, m2, m3⟩ := markAll_E (A := A1) (B := B1) (h := h) (h' := h') (v := a + 17) (v' := a' + 17) (vc := vc) (pt := nI p) (by rw [gA _ (by omega)]; exact hv) (by rw [gB _ (by omega)]; exact hv') hv88 (by omega) (by omega) (fun q hq => by rw [gA _ (by omega), gB _ (by omega)]; exact (H1 q hq).2.1) (fun q hq hs => by
          rw [gA _ (by omega)] at hs
          rw [gA _ (by omega), gB _ (by omega)]
          exact (p5 q hq (H3 q hq hs)).1)
        unfold firstSlotFree_
        generalize markAll_ A1 h (a + 17) (nI p) = A2 at m1 m2 ⊢
        generalize markAll_ B1 h' (a' + 17) (nI p) = B2 at m1 m3 ⊢
        rw [freeN_E m1]
        generalize freeN_ A2 h (cnt 0 88) 0 = s
        have k5 : im_up B2 (h' + 2) w s h' 2 = im_up A2 (h + 2) w s h 2 := by
          rw [up_fr (by omega), up_fr (by omega), m2 _ (by omega), m3 _ (by omega)]; exact g0 2 (by decide)
        rw [k5]
        generalize max_ (im_up A2 (h + 2) w s h 2) (s + 1) = u3
        have eA : ∀ z, z ≠ h → z ≠ h + 2 → z ≠ h + 5 → im_up (im_up A2 (h + 2) w s) h 2 u3 z = A z := fun z z1 z2 z3 => by rw [up_fr z1, up_fr z2, m2 z z3, gA z z1]
        have eB : ∀ z, z ≠ h' → z ≠ h' + 2 → z ≠ h' + 5 → im_up (im_up B2 (h' + 2) w s) h' 2 u3 z = B z := fun z z1 z2 z3 => by rw [up_fr z1, up_fr z2, m3 z z3, gB z z1]
        refine ⟨fun q hq => ?_, fun q hq => ⟨?_, ?_, ?_⟩, fun q hq hm => ?_, fun q hq hs => ?_⟩
        · rw [up_row, up_row, up_fr (by omega), up_fr (by omega), m2 _ (by omega), m3 _ (by omega), g0 q hq]
        · rw [eA _ (by omega) (by omega) (by omega), eB _ (by omega) (by omega) (by omega)]; exact (H1 q hq).1
        · rw [up_fr (show h' + 2 ≠ h' by omega), up_fr (show h + 2 ≠ h by omega), up_row, up_row, m2 _ (by omega), m3 _ (by omega), gA _ (by omega), gB _ (by omega), (H1 q hq).2.1]
        · rw [eA _ (by omega) (by omega) (by omega), eB _ (by omega) (by omega) (by omega)]; exact (H1 q hq).2.2
        · rw [eA _ (by omega) (by omega) (by omega)] at hm
          rw [eA _ (by omega) (by omega) (by omega), eB _ (by omega) (by omega) (by omega)]
          exact H2 q hq hm
        · rw [up_fr (show h + 2 ≠ h by omega), up_row, m2 _ (by omega), gA _ (by omega)] at hs
          rw [eA _ (by omega) (by omega) (by omega)]
          by_cases y : q = w
          · rw [y]; exact hl
          · rw [if_neg y] at hs
            exact H3 q hq hs
    · have pd : decide (A (h + 1) w = -1) = false := decide_eq_false d
      rw [if_pos pd, if_pos pd]
      exact H
  · rw [if_pos (decide_eq_false c), if_pos (decide_eq_false c)]
    exact H
/-- the same homes at two places -/
def HmE (I J : im_I) (h h' : Nat) : Prop := (∀ q, q < 4 → J h' q = I h q) ∧ (∀ w, w < 88 → J (h' + 1) w = I (h + 1) w ∧ J (h' + 2) w = I (h + 2) w ∧ J (h' + 3) w = I (h + 3) w) ∧ (∀ w, w < 88 → I (h + 3) w = 1 → J (h' + 4) w = I (h + 4) w)
end HmE2
set_option maxHeartbeats 1000000 in
theorem give_E {I J : im_I} {a a' h h' m m' N : Nat} {st : Nat → Nat} (hL : LnOk I a N st) (hV : LvOk I a N st) (hP : PlE I J a a' N) (hM : MhE I J m m') (hah : a + 26 < h) (hah' : a' + 26 < h') (hm : m < h) (hm' : m' < h') : HmE (give_ I h m (a + 10) (a + 17)) (give_ J h' m' (a' + 10) (a' + 17)) h h' := by
  obtain ⟨⟨l1, l2, -⟩, lO, -⟩ := hL
  obtain ⟨⟨vc, v1, v2, -⟩, -⟩ := hV
  have l1' : J (a' + 10) 0 = nI N := hP.1.1.trans l1
  have v2' : J (a' + 17) 0 = nI vc := (hP.2.2.1 0 (by decide)).trans v2
  -- registers
  have d0 : ∀ (I : im_I) (h : Nat), give0_ I h = fillL_ (fillL_ (fillL_ (im_up (im_up (im_up I h 0 0) h 1 0) h 2 0) (h + 1) 88 (-1)) (h + 2) 88 (-1)) (h + 3) 88 0 := fun _ _ => rfl
  have k1 : RgE (give1_ I h m (a + 10) (a + 17)) (give1_ J h' m' (a' + 10) (a' + 17)) h h' (a + 17) := by
    unfold give1_
    rw [l1, l1', loopC_nat0 (by omega), loopC_nat0 (by omega)]
    have key := itN_rel (f := fun p J => giveROne_ h m (a + 10) (a + 17) (nI p) J) (g := fun p J => giveROne_ h' m' (a' + 10) (a' + 17) (nI p) J) (n := N) (s := give0_ I h) (t := give0_ J h') (fun i A B => RgE A B h h' (a + 17) ∧ (∀ z, z < h ∨ h + 5 < z → A z = I z) ∧ (∀ z, z < h' ∨ h' + 5 < z → B z = J z))
      ⟨fun w hw => by
        rw [d0, d0, fillL_fr (by omega), fillL_fr (by omega), fillL_row (by decide) hw, fillL_fr (by omega), fillL_fr (by omega), fillL_row (by decide) hw]
        exact ⟨rfl, fun e => absurd rfl e⟩, fun z hz => give0_fr hz, fun z hz => give0_fr hz⟩ (fun p A B hp hAB => by
        obtain ⟨g1, g2, g3⟩ := hAB
        refine ⟨giveROne_E (PlE_fr hP (fun z z1 z2 => g2 z (by omega)) (fun z z1 z2 => g3 z (by omega))) ?_ hp l2 ?_ ?_ v1 hah hah' g1, fun z hz => (giveROne_fr hz).trans (g2 z hz), fun z hz => (giveROne_fr hz).trans (g3 z hz)⟩
        · unfold MhE; rw [g2 m (by omega), g3 m' (by omega)]; exact hM
        · rw [insAt_fr (I := I) fun z z1 z2 => g2 z (by omega)]; exact lO p hp
        · rw [g2 _ (by omega)]; exact v2)
    exact key.1
  have r1 : ∀ (I : im_I) (h m r v z : Nat), z = h ∨ z = h + 2 ∨ z = h + 3 → give1_ I h m r v z = give0_ I h z := fun I h m r v z hz => by
    unfold give1_
    refine loopN_fr (fun i J => ?_) _ _ _
    have key : ∀ (c : Prop) (_ : Decidable c) (x al y : Int32) (n : Nat), (if c then spillOne_ J h v x al else put_ J (h + 1) n x y) z = J z := by
      intro c _ x al y n
      split
      · unfold spillOne_
        try simp only
        split
        · rfl
        · rw [put_fr (by omega), put_fr (by omega)]
      · exact put_fr (by omega)
    unfold giveROne_
    split
    · rfl
    · exact key _ _ _ _ _ _
  have z0 : ∀ (I : im_I) (h q : Nat), q < 3 → give0_ I h h q = 0 := fun I h q hq => by
    rw [d0, fillL_fr (by omega), fillL_fr (by omega), fillL_fr (by omega), up_row, up_row, up_row]
    by_cases c2 : q = 2
    · rw [if_pos c2]
    · rw [if_neg c2]
      by_cases c1 : q = 1
      · rw [if_pos c1]
      · rw [if_neg c1, if_pos (by omega)]
  have z2 : ∀ (I : im_I) (h w : Nat), w < 88 → give0_ I h (h + 2) w = -1 ∧ give0_ I h (h + 3) w = 0 := fun I h w hw => ⟨by rw [d0, fillL_fr (by omega), fillL_row (by decide) hw], by rw [d0, fillL_row (by decide) hw]⟩
  have k2 : SlE (give2_ I h m (a + 10) (a + 17)) (give2_ J h' m' (a' + 10) (a' + 17)) h h' (a + 17) := by
    unfold give2_
    rw [l1, l1', loopC_nat0 (by omega), loopC_nat0 (by omega)]
    have key := itN_rel (f := fun p J => giveSOne_ h (a + 10) (a + 17) (nI p) J) (g := fun p J => giveSOne_ h' (a' + 10) (a' + 17) (nI p) J) (n := N) (s := give1_ I h m (a + 10) (a + 17)) (t := give1_ J h' m' (a' + 10) (a' + 17)) (fun i A B => SlE A B h h' (a + 17) ∧ (∀ z, z < h ∨ h + 5 < z → A z = I z) ∧ (∀ z, z < h' ∨ h' + 5 < z → B z = J z))
      ⟨⟨fun q hq => by rw [r1 _ _ _ _ _ _ (Or.inl rfl), r1 _ _ _ _ _ _ (Or.inl rfl), z0 _ _ _ hq, z0 _ _ _ hq], fun w hw => ⟨(k1 w hw).1, by rw [r1 _ _ _ _ _ _ (Or.inr (Or.inl rfl)), r1 _ _ _ _ _ _ (Or.inr (Or.inl rfl)), (z2 _ _ _ hw).1, (z2 _ _ _ hw).1], by rw [r1 _ _ _ _ _ _ (Or.inr (Or.inr rfl)), r1 _ _ _ _ _ _ (Or.inr (Or.inr rfl)), (z2 _ _ _ hw).2, (z2 _ _ _ hw).2]⟩, fun w hw e => by
        rw [r1 _ _ _ _ _ _ (Or.inr (Or.inr rfl)), (z2 _ _ _ hw).2] at e
        exact absurd e (by decide), fun w hw e => by
        rw [r1 _ _ _ _ _ _ (Or.inr (Or.inl rfl)), (z2 _ _ _ hw).1] at e
        exact absurd rfl e⟩, fun z hz => give1_fr hz, fun z hz => give1_fr hz⟩ (fun p A B hp hAB => by
        obtain ⟨g1, g2, g3⟩ := hAB
        refine ⟨giveSOne_E (PlE_fr hP (fun z z1 z2 => g2 z (by omega)) (fun z z1 z2 => g3 z (by omega))) hp l2 ?_ ?_ v1 hah hah' g1, fun z hz => (giveSOne_fr hz).trans (g2 z hz), fun z hz => (giveSOne_fr hz).trans (g3 z hz)⟩
        · rw [insAt_fr (I := I) fun z z1 z2 => g2 z (by omega)]; exact lO p hp
        · rw [g2 _ (by omega)]; exact v2)
    exact key.1
  have fI : ∀ z, z < h ∨ h + 5 < z → give2_ I h m (a + 10) (a + 17) z = I z := fun z hz => give2_fr hz
  have fJ : ∀ z, z < h' ∨ h' + 5 < z → give2_ J h' m' (a' + 10) (a' + 17) z = J z := fun z hz => give2_fr hz
  unfold give_
  simp only
  generalize give2_ I h m (a + 10) (a + 17) = A at k2 fI ⊢
  generalize give2_ J h' m' (a' + 10) (a' + 17) = B at k2 fJ ⊢
  obtain ⟨s0, s1, s2, -⟩ := k2
  have eK : keptInUse_ B h' m' (B (a' + 17) 0) = keptInUse_ A h m (A (a + 17) 0) := by
    unfold keptInUse_
    rw [fI _ (by omega), fJ _ (by omega), v2, v2', fI m (by omega), fJ m' (by omega), hM.2.1, loopC_nat0 (by omega), loopC_nat0 (by omega)]
    have e : itN (fun i u => u ||| bit_ (at_ (B (h' + 1)) 88 (nI i))) vc 0 = itN (fun i u => u ||| bit_ (at_ (A (h + 1)) 88 (nI i))) vc 0 := itN_congr fun i u hi => by rw [at_congr fun j hj => (s1 j hj).1]
    rw [e]
  rw [eK, s0 2 (by decide)]
  generalize A h 2 + keptInUse_ A h m (A (a + 17) 0) = u
  rw [im_up_same, im_up_same]
  refine ⟨fun q hq => ?_, fun w hw => ?_, fun w hw hr => ?_⟩
  · rw [up_row, up_row, up_row, up_row]
    by_cases c : q = 3
    · rw [if_pos c, if_pos c]
    · rw [if_neg c, if_neg c, if_neg c, if_neg c]; exact s0 q (by omega)
  · rw [up_fr (by omega), up_fr (by omega), up_fr (by omega), up_fr (by omega), up_fr (by omega), up_fr (by omega), up_fr (by omega), up_fr (by omega), up_fr (by omega), up_fr (by omega), up_fr (by omega), up_fr (by omega)]
    exact s1 w hw
  · rw [up_fr (by omega), up_fr (by omega)] at hr
    rw [up_fr (by omega), up_fr (by omega), up_fr (by omega), up_fr (by omega)]
    exact s2 w hw hr
