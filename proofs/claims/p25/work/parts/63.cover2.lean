section Cov2
variable {I : im_I} {c m n x y : Nat}
theorem coverPlain_to {ins : Int32} (hn : n < 80) (hc : 7 < c) (hm : m + 1 < c + 1 ∨ c + 5 < m + 1) (hA : I 6 n = nI x) (hB : I 7 n = nI y) (hx : x < n) (hy : y < n) :
    covTo c n I (coverPlain_ I c m (nI n) ins) (cov_ (cyclesOf_ I m ins + I (c + 1) x + I (c + 1) y) ins (I (c + 3) n) (nI x) (nI y) (-1) (nI x) (nI y) (-1)) := by
  have ec : cyclesOf_ (im_up I (c + 2) n ins) m ins = cyclesOf_ I m ins := by unfold cyclesOf_; rw [up_fr (by omega)]
  have e1 : im_up I (c + 2) n ins (c + 1) = I (c + 1) := up_fr (by omega)
  unfold coverPlain_
  simp only [at80 hn, Nat.reduceAdd, hA, hB, put80' hn, at80 (show x < 80 by omega), at80 (show y < 80 by omega), ec, e1]
  exact cov5_to hn
theorem isSmall_nat {j : Nat} (hj : j < 80) : isSmall_ I m (nI j) = isSm (I 5) (I 6) (I m 2) j := by
  unfold isSmall_ isSm
  simp only [at80 hj, Nat.reduceAdd]
theorem coverSmallBy_to {kd : Int32} (hn : n < 80) (hc : 7 < c) (hx : x < n) (hy : y < n) : covTo c n I (coverSmallBy_ I c m (nI n) kd (nI x) (nI y)) (covSmBy (I 6) (cyclesOf_ I m) (I (c + 1)) kd x y (covAt I c n)) := by
  unfold coverSmallBy_ covSmBy
  simp only [at80 hn, at80 (show x < 80 by omega), at80 (show y < 80 by omega), Nat.reduceAdd, put80' hn]
  by_cases q : I (c + 1) n ≤ cyclesOf_ I m 5 + I (c + 1) x
  · rw [if_pos q, if_pos (show covAt I c n 0 ≤ _ from q)]; exact covTo_rf
  · rw [if_neg q, if_neg (show ¬ covAt I c n 0 ≤ _ from q)]; exact cov6_to hn
theorem coverSmall_to {kd : Int32} (hn : n < 80) (hc : 7 < c) (hA : I 6 n = nI x) (hB : I 7 n = nI y) (hx : x < n) (hy : y < n) : covTo c n I (coverSmall_ I c m (nI n) kd) (covSm (I 5) (I 6) (I m 2) (cyclesOf_ I m) (I (c + 1)) kd x y (covAt I c n)) := by
  unfold coverSmall_ covSm
  simp only [at80 hn, Nat.reduceAdd, hA, hB, isSmall_nat (show x < 80 by omega), isSmall_nat (show y < 80 by omega)]
  split
  · exact coverSmallBy_to hn hc hx hy
  · split
    · exact coverSmallBy_to hn hc hy hx
    · exact covTo_rf
theorem coverFusedBy_to {first : Bool} {u w : Nat} (hn : n < 80) (hc : 7 < c) (hx : x < n) (hy : y < n) (hu : I 6 x = nI u) (hw : I 7 x = nI w) (hu2 : u < n) (hw2 : w < n) : covTo c n I (coverFusedBy_ I c m (nI n) (nI x) (nI y) first) (covFuBy (I 6) (I 7) (cyclesOf_ I m) (I (c + 1)) x y first (covAt I c n)) := by
  unfold coverFusedBy_ covFuBy
  simp only [at80 hn, at80 (show x < 80 by omega), at80 (show y < 80 by omega), Nat.reduceAdd, put80' hn, hu, hw, at80 (show u < 80 by omega), at80 (show w < 80 by omega), ofN_nI (show u < 2 ^ 31 by omega), ofN_nI (show w < 2 ^ 31 by omega)]
  by_cases q : I (c + 1) n ≤ cyclesOf_ I m 6 + I (c + 1) u + I (c + 1) w + I (c + 1) y
  · rw [if_pos q, if_pos (show covAt I c n 0 ≤ _ from q)]; exact covTo_rf
  · rw [if_neg q, if_neg (show ¬ covAt I c n 0 ≤ _ from q)]
    split
    · exact cov6_to hn
    · exact cov6_to hn
/-- the parts of a node that is no leaf -/
theorem pgOk_parts {K A B : Nat → Int32} {nn j : Nat} (h : pgOk K A B nn) (hj : j < nn) (hk : ¬ K j < 2) : ∃ x y, x < j ∧ y < j ∧ A j = nI x ∧ B j = nI y := by
  rcases h.2 j hj with (e | ⟨e, -⟩) | ⟨-, h2⟩
  · rw [e] at hk; exact absurd (by decide) hk
  · rw [e] at hk; exact absurd (by decide) hk
  · exact h2
theorem coverFused_to {kd : Int32} {nn : Nat} (hp : pgOk (I 5) (I 6) (I 7) nn) (hnn : n < nn) (hc : 7 < c) (hA : I 6 n = nI x) (hB : I 7 n = nI y) (hx : x < n) (hy : y < n) : covTo c n I (coverFused_ I c m (nI n) kd) (covFu (I 5) (I 6) (I 7) (I m 3) (cyclesOf_ I m) (I (c + 1)) kd x y (covAt I c n)) := by
  have hn : n < 80 := by have := hp.1; omega
  have k4 : ∀ j, I 5 j = 4 → ¬ I 5 j < 2 := fun j e => by rw [e]; decide
  unfold coverFused_ covFu
  simp only [at80 hn, Nat.reduceAdd, hA, hB, at80 (show x < 80 by omega), at80 (show y < 80 by omega)]
  split
  · exact covTo_rf
  · split
    · exact covTo_rf
    · split
      · next e =>
        obtain ⟨u, w, h1, h2, h3, h4⟩ := pgOk_parts hp (show x < nn by omega) (k4 _ e)
        exact coverFusedBy_to hn hc hx hy h3 h4 (by omega) (by omega)
      · split
        · next e =>
          obtain ⟨u, w, h1, h2, h3, h4⟩ := pgOk_parts hp (show y < nn by omega) (k4 _ e)
          exact coverFusedBy_to hn hc hy hx h3 h4 (by omega) (by omega)
        · exact covTo_rf
/-- costs of other nodes alone are read -/
theorem covSmBy_congr {A : Nat → Int32} {L : Int32 → Int32} {C D : Nat → Int32} {kd : Int32} {cv : Nat → Int32} (hx : C x = D x) : covSmBy A L C kd x y cv = covSmBy A L D kd x y cv := by
  unfold covSmBy
  rw [hx]
theorem covSm_congr {K A : Nat → Int32} {sm : Int32} {L : Int32 → Int32} {C D : Nat → Int32} {kd : Int32} {cv : Nat → Int32} (hx : C x = D x) (hy : C y = D y) : covSm K A sm L C kd x y cv = covSm K A sm L D kd x y cv := by
  unfold covSm
  rw [covSmBy_congr hx, covSmBy_congr hy]
theorem covFuBy_congr {A B : Nat → Int32} {L : Int32 → Int32} {C D : Nat → Int32} {first : Bool} {cv : Nat → Int32} (h1 : C (ofN (A x)) = D (ofN (A x))) (h2 : C (ofN (B x)) = D (ofN (B x))) (hy : C y = D y) : covFuBy A B L C x y first cv = covFuBy A B L D x y first cv := by
  unfold covFuBy
  rw [h1, h2, hy]
theorem covFu_congr {K A B : Nat → Int32} {L : Int32 → Int32} {fu kd : Int32} {C D : Nat → Int32} {cv : Nat → Int32} {nn : Nat} (hp : pgOk K A B nn) (hn : n < nn) (hx : x < n) (hy : y < n) (h : ∀ j, j < n → C j = D j) : covFu K A B fu L C kd x y cv = covFu K A B fu L D kd x y cv := by
  have h80 := hp.1
  have k4 : ∀ j, K j = 4 → ¬ K j < 2 := fun j e => by rw [e]; decide
  unfold covFu
  split
  · rfl
  · split
    · rfl
    · split
      · next e =>
        obtain ⟨u, w, h1, h2, h3, h4⟩ := pgOk_parts hp (show x < nn by omega) (k4 _ e)
        exact covFuBy_congr (by rw [h3, ofN_nI (by omega)]; exact h u (by omega)) (by rw [h4, ofN_nI (by omega)]; exact h w (by omega)) (h y hy)
      · split
        · next e =>
          obtain ⟨u, w, h1, h2, h3, h4⟩ := pgOk_parts hp (show y < nn by omega) (k4 _ e)
          exact covFuBy_congr (by rw [h3, ofN_nI (by omega)]; exact h u (by omega)) (by rw [h4, ofN_nI (by omega)]; exact h w (by omega)) (h x hx)
        · rfl
theorem covNew_congr {K A B : Nat → Int32} {L : Int32 → Int32} {sm fu : Int32} {C D : Nat → Int32} {nn : Nat} (hp : pgOk K A B nn) (hn : n < nn) (h : ∀ j, j < n → C j = D j) : covNew K A B L sm fu C n = covNew K A B L sm fu D n := by
  have h80 := hp.1
  have k4 : ∀ j, K j = 4 → ¬ K j < 2 := fun j e => by rw [e]; decide
  unfold covNew
  split
  · rfl
  · next c =>
    obtain ⟨x, y, hx, hy, e1, e2⟩ := pgOk_parts hp hn c
    rw [e1, e2, ofN_nI (by omega), ofN_nI (by omega)]
    have e3 : covPl L C (if K n = 5 then 9 else K n) x y = covPl L D (if K n = 5 then 9 else K n) x y := by unfold covPl; rw [h x hx, h y hy]
    rw [e3, covSm_congr (h x hx) (h y hy)]
    exact covFu_congr hp hn hx hy h
theorem coverOne_to {nn : Nat} (hp : pgOk (I 5) (I 6) (I 7) nn) (hnn : n < nn) (hc : 7 < c) (hm : m + 1 < c + 1 ∨ c + 5 < m) : covTo c n I (coverOne_ c m (nI n) I) (covNew (I 5) (I 6) (I 7) (cyclesOf_ I m) (I m 2) (I m 3) (I (c + 1)) n) := by
  have h80 := hp.1
  have hn : n < 80 := by omega
  have t1 : covTo c n I (im_up I (c + 3) n 0) _ := cov1_to
  unfold coverOne_
  simp only [at80 hn, Nat.reduceAdd, put80' hn]
  have f1 : ∀ b, b ≠ c + 3 → im_up I (c + 3) n 0 b = I b := fun b hb => up_fr hb
  have L1 : ∀ J : im_I, (∀ b, b < c + 1 ∨ c + 5 < b → J b = I b) → cyclesOf_ J m = cyclesOf_ I m := fun J hJ => by funext i; unfold cyclesOf_; rw [hJ _ (by omega)]
  by_cases k : I 5 n < 2
  · have e : covNew (I 5) (I 6) (I 7) (cyclesOf_ I m) (I m 2) (I m 3) (I (c + 1)) n = covLeaf (I 5 n) (I 6 n) (cyclesOf_ I m 0) := by unfold covNew; rw [if_pos k]
    rw [if_pos k, e]
    refine covTo_eq (covTo_tr t1 (coverLeaf_to hn hc (by omega) (by rw [im_up_same]))) ?_
    rw [f1 6 (by omega), L1 _ (fun b hb => f1 b (by omega))]
  · obtain ⟨x, y, hx, hy, hA, hB⟩ := pgOk_parts hp hnn k
    rw [if_neg k]
    have e : covNew (I 5) (I 6) (I 7) (cyclesOf_ I m) (I m 2) (I m 3) (I (c + 1)) n = covFu (I 5) (I 6) (I 7) (I m 3) (cyclesOf_ I m) (I (c + 1)) (I 5 n) x y (covSm (I 5) (I 6) (I m 2) (cyclesOf_ I m) (I (c + 1)) (I 5 n) x y (covPl (cyclesOf_ I m) (I (c + 1)) (if I 5 n = 5 then 9 else I 5 n) x y)) := by
      unfold covNew; rw [if_neg k, hA, hB, ofN_nI (by omega), ofN_nI (by omega)]
    rw [e]
    have t2 := covTo_tr t1 (coverPlain_to (I := im_up I (c + 3) n 0) (c := c) (m := m) (n := n) (x := x) (y := y) (ins := if I 5 n = 5 then 9 else I 5 n) hn hc (by omega) (by rw [f1 6 (by omega)]; exact hA) (by rw [f1 7 (by omega)]; exact hB) hx hy)
    rw [L1 _ (fun b hb => f1 b (by omega)), f1 (c + 1) (by omega), im_up_same] at t2
    generalize hJ2 : coverPlain_ (im_up I (c + 3) n 0) c m (nI n) _ = J2 at t2 ⊢
    have g5 : J2 5 = I 5 := t2.2.2.1 5 (by omega)
    have g6 : J2 6 = I 6 := t2.2.2.1 6 (by omega)
    have g7 : J2 7 = I 7 := t2.2.2.1 7 (by omega)
    have gm : J2 m = I m := t2.2.2.1 m (by omega)
    have t3 := covTo_tr t2 (coverSmall_to (I := J2) (c := c) (m := m) (n := n) (x := x) (y := y) (kd := I 5 n) hn hc (by rw [g6]; exact hA) (by rw [g7]; exact hB) hx hy)
    rw [t2.1, g5, g6, gm, L1 J2 t2.2.2.1, covSm_congr (D := I (c + 1)) (t2.2.2.2 x (by omega)) (t2.2.2.2 y (by omega))] at t3
    generalize hJ3 : coverSmall_ J2 c m (nI n) _ = J3 at t3 ⊢
    have k5 : J3 5 = I 5 := t3.2.2.1 5 (by omega)
    have k6 : J3 6 = I 6 := t3.2.2.1 6 (by omega)
    have k7 : J3 7 = I 7 := t3.2.2.1 7 (by omega)
    have km : J3 m = I m := t3.2.2.1 m (by omega)
    have t4 := covTo_tr t3 (coverFused_to (I := J3) (c := c) (m := m) (n := n) (x := x) (y := y) (kd := I 5 n) (nn := nn) (by rw [k5, k6, k7]; exact hp) hnn hc (by rw [k6]; exact hA) (by rw [k7]; exact hB) hx hy)
    refine covTo_eq t4 ?_
    rw [t3.1, k5, k6, k7, km, L1 J3 t3.2.2.1]
    exact covFu_congr hp hnn hx hy (fun j hj => t3.2.2.2 j (by omega))
/-- all covers: each as its parts' costs say -/
theorem coverAll_to {nn : Nat} (h0 : I 3 0 = nI nn) (hp : pgOk (I 5) (I 6) (I 7) nn) (hc : 7 < c) (hm : m + 1 < c ∨ c + 5 < m) : (∀ j, j < nn → covAt (coverAll_ I c m) c j = covNew (I 5) (I 6) (I 7) (cyclesOf_ I m) (I m 2) (I m 3) (coverAll_ I c m (c + 1)) j) ∧ (coverAll_ I c m c 11 = 8) ∧ (∀ b, b ≠ c → b < c + 1 ∨ c + 5 < b → coverAll_ I c m b = I b) := by
  have h80 := hp.1
  unfold coverAll_
  rw [h0, loopC_nat0 (by omega)]
  have key := itN_inv (f := fun j => coverOne_ c m (nI j)) (n := nn) (s := im_up I c 11 8) (fun k J => (∀ j, j < k → covAt J c j = covNew (I 5) (I 6) (I 7) (cyclesOf_ I m) (I m 2) (I m 3) (J (c + 1)) j) ∧ (∀ b, b < c + 1 ∨ c + 5 < b → J b = im_up I c 11 8 b))
    ⟨fun j hj => absurd hj (by omega), fun b hb => rfl⟩ (fun k J hk hJ => by
      obtain ⟨g1, g2⟩ := hJ
      have q : ∀ b, b ≠ c → b < c + 1 ∨ c + 5 < b → J b = I b := fun b hb hb2 => (g2 b hb2).trans (up_fr hb)
      have eL : cyclesOf_ J m = cyclesOf_ I m := by funext i; unfold cyclesOf_; rw [q _ (by omega) (by omega)]
      have t := coverOne_to (I := J) (c := c) (m := m) (n := k) (nn := nn) (by rw [q 5 (by omega) (by omega), q 6 (by omega) (by omega), q 7 (by omega) (by omega)]; exact hp) hk hc (by omega)
      rw [q 5 (by omega) (by omega), q 6 (by omega) (by omega), q 7 (by omega) (by omega), eL, q m (by omega) (by omega)] at t
      obtain ⟨t1, t2, t3, t4⟩ := t
      refine ⟨fun j hj => ?_, fun b hb => (t3 b hb).trans (g2 b hb)⟩
      by_cases e : j = k
      · rw [e, t1]
        exact covNew_congr hp hk (fun i hi => (t4 i (by omega)).symm)
      · rw [t2 j e, g1 j (by omega)]
        exact covNew_congr hp (by omega) (fun i hi => (t4 i (by omega)).symm))
  refine ⟨key.1, ?_, fun b hb hb2 => (key.2 b hb2).trans (up_fr hb)⟩
  rw [key.2 c (by omega), im_up_same]
end Cov2
