/-! THE SECOND DIGEST IS THE FIRST; few; unordered -/
def NowE (I J : im_I) : Prop := ∀ z, z ≤ 16 ∨ 19 ≤ z ∧ z ≤ 54 ∨ 91 ≤ z ∧ z ≤ 107 → J z = I z
theorem NowE_rf {I : im_I} : NowE I I := fun _ _ => rfl
theorem NowE_sy {I J : im_I} (h : NowE I J) : NowE J I := fun z hz => (h z hz).symm
theorem NowE_tr {I J K : im_I} (h : NowE I J) (g : NowE J K) : NowE I K := fun z hz => (g z hz).trans (h z hz)
theorem beLike_now {I : im_I} : NowE I (beLike_ I 17 15) := fun z hz => beLike_nat.1 z (by omega) (by omega)
theorem few1_now {J : im_I} {r : Int32} : NowE J (fewOne_ r J) := by
  intro z hz
  unfold fewOne_
  exact (give_fr (by omega)).trans ((up_fr (by omega)).trans (up_fr (by omega)))
theorem fewN_now : ∀ (n : Nat) (i : Int32) (J : im_I), NowE J (fewN_ n i J).2
  | 0, i, J => by rw [fewN_0]; exact NowE_rf
  | n + 1, i, J => by
    rw [fewN_s]
    by_cases c : fewOne_ i J 109 0 = 0
    · rw [if_pos c]; exact few1_now
    · rw [if_neg c]; exact NowE_tr few1_now (fewN_now n _ _)
theorem few_now {I : im_I} : NowE I (few_ I).2 := NowE_tr beLike_now (fewN_now _ _ _)
theorem unord_now {I : im_I} : NowE I (unordM_ I) := fun z hz => (worksBuild_fr (by omega)).trans ((build_fr (by omega)).trans (beLike_now z hz))
theorem with_now {I : im_I} {r k t : Int32} : NowE I (builtWith_ I r k t) := fun z hz => (worksBuild_fr (by omega)).trans ((up_fr (by omega)).trans ((up_fr (by omega)).trans ((up_fr (by omega)).trans (beLike_now z hz))))
theorem digestM_now {I : im_I} : NowE (meantNow_ I 2) (digestM_ I 2) := NowE_tr (NowE_tr few_now unord_now) with_now
theorem meantNow_f {I : im_I} {z : Nat} (h : z ≠ 2 ∧ (z < 12 ∨ 14 < z)) : meantNow_ I 2 z = I z := by
  unfold meantNow_
  split
  · exact (up_fr h.1).trans (work_fr (by omega))
  · rfl
theorem meantNow_9 {I : im_I} : ¬ meantNow_ I 2 2 9 = 0 := by
  unfold meantNow_
  split
  · rw [im_up_same]; decide
  · assumption
theorem meantNow_8 {I : im_I} : meantNow_ I 2 2 8 = I 2 8 := by
  unfold meantNow_
  split
  · rw [up_row, if_neg (by decide)]; exact congrFun (work_fr (by omega)) 8
  · rfl
theorem meantNow_id {I : im_I} (h : ¬ I 2 9 = 0) : meantNow_ I 2 = I := if_neg h
/-- the plan that stands, and its works' time -/
theorem plan_of {I : im_I} {nn : Nat} (hB : PB I) (hpg : PgOk I nn) : ∃ N st, LnOk I 19 N st ∧ LvOk I 19 N st ∧ PlE I I 19 19 N := by
  obtain ⟨M0, b1, b2, b3⟩ := hB
  have hpg0 : PgOk M0 nn := PgOk_E hpg (PgE_sy b1)
  obtain ⟨N, st, ⟨hL, hV⟩, -, hPl⟩ := build_E (I := M0) (J := M0) (a := 19) (a' := 19) (m := 15) (m' := 15) (o := 1) hpg0 (fun _ _ _ => rfl) ⟨rfl, rfl, rfl⟩ (by decide) (by decide) (by decide) (by decide)
  have eP : ∀ z, 3 ≤ z ∧ z ≤ 11 ∨ 19 ≤ z ∧ z ≤ 54 → I z = build_ M0 19 15 1 z := fun z hz => by
    rcases hz with hz | hz
    · rw [built_fr (by omega)]; exact b1 z hz.1 hz.2
    · exact b3 z hz.1 hz.2
  exact ⟨N, st, LnOk_fr hL fun z hz => eP z (by omega), LvOk_fr hV fun z hz => eP z (by omega), PlE_fr hPl (fun z _ _ => eP z (by omega)) (fun z _ _ => eP z (by omega))⟩
theorem few1_E {A B : im_I} {N : Nat} {st : Nat → Nat} {r : Int32} (hL : LnOk A 19 N st) (hV : LvOk A 19 N st) (hP : PlE A A 19 19 N) (h : NowE A B) (h4 : B 17 4 = A 17 4) : fewOne_ r B 109 0 = fewOne_ r A 109 0 ∧ fewOne_ r B 17 4 = fewOne_ r A 17 4 := by
  have f17 : ∀ J : im_I, fewOne_ r J 17 4 = J 17 4 := fun J => by
    unfold fewOne_
    exact (congrFun (give_fr (by omega)) 4).trans (by rw [up_row, if_neg (by decide), up_row, if_neg (by decide)])
  refine ⟨?_, by rw [f17, f17, h4]⟩
  unfold fewOne_

  have eA : ∀ J : im_I, ∀ x : Int32, ∀ z, z ≤ 16 ∨ 19 ≤ z ∧ z ≤ 54 → im_up (im_up J 17 0 r) 17 1 x z = J z := fun J x z hz => (up_fr (by omega)).trans (up_fr (by omega))
  have e0 : ∀ J : im_I, ∀ x : Int32, im_up (im_up J 17 0 r) 17 1 x 17 0 = r := fun J x => by rw [up_row, if_neg (by decide), im_up_same]
  have e1 : ∀ J : im_I, ∀ x : Int32, im_up (im_up J 17 0 r) 17 1 x 17 1 = x := fun J x => im_up_same
  have e4 : ∀ J : im_I, ∀ x : Int32, im_up (im_up J 17 0 r) 17 1 x 17 4 = J 17 4 := fun J x => by rw [up_row, if_neg (by decide), up_row, if_neg (by decide)]
  have ex : (im_up B 17 0 r 15 1 &&& (bit_ (scratch_ (im_up B 17 0 r) 17) - 1)) = (im_up A 17 0 r 15 1 &&& (bit_ (scratch_ (im_up A 17 0 r) 17) - 1)) := by
    unfold scratch_
    rw [im_up_same, im_up_same, up_fr (show 15 ≠ 17 by decide), up_fr (show 15 ≠ 17 by decide), h 15 (by decide)]
  rw [ex]
  generalize (im_up A 17 0 r 15 1 &&& (bit_ (scratch_ (im_up A 17 0 r) 17) - 1)) = x
  exact (give_E (h := 109) (h' := 109) (m := 17) (m' := 17) (LnOk_fr hL fun z hz => eA A x z (by omega)) (LvOk_fr hV fun z hz => eA A x z (by omega)) (PlE_fr hP (fun z _ _ => eA A x z (by omega)) (fun z _ _ => (eA B x z (by omega)).trans (h z (by omega)))) ⟨by rw [e0, e0], by rw [e1, e1], by rw [e4, e4, h4]⟩ (by decide) (by decide) (by decide) (by decide)).1 0 (by decide)
theorem fewN_E {N : Nat} {st : Nat → Nat} : ∀ (n : Nat) (i : Int32) (A B : im_I), LnOk A 19 N st → LvOk A 19 N st → PlE A A 19 19 N → NowE A B → B 17 4 = A 17 4 → (fewN_ n i B).1 = (fewN_ n i A).1
  | 0, i, A, B, _, _, _, _, _ => by rw [fewN_0, fewN_0]
  | n + 1, i, A, B, hL, hV, hP, h, h4 => by
    obtain ⟨g1, g2⟩ := few1_E (r := i) hL hV hP h h4
    rw [fewN_s, fewN_s, g1]
    by_cases c : fewOne_ i A 109 0 = 0
    · rw [if_pos c, if_pos c]
    · rw [if_neg c, if_neg c]
      exact fewN_E n _ _ _ (LnOk_fr hL fun z hz => few1_now z (by omega)) (LvOk_fr hV fun z hz => few1_now z (by omega)) (PlE_fr hP (fun z _ _ => few1_now z (by omega)) (fun z _ _ => few1_now z (by omega))) (NowE_tr (NowE_sy few1_now) (NowE_tr h few1_now)) g2
theorem few_E {I J : im_I} {N : Nat} {st : Nat → Nat} (hL : LnOk I 19 N st) (hV : LvOk I 19 N st) (hP : PlE I I 19 19 N) (h : NowE I J) : (few_ J).1 = (few_ I).1 := by
  unfold few_
  exact fewN_E _ _ _ _ (LnOk_fr hL fun z hz => beLike_now z (by omega)) (LvOk_fr hV fun z hz => beLike_now z (by omega)) (PlE_fr hP (fun z _ _ => beLike_now z (by omega)) (fun z _ _ => beLike_now z (by omega))) (NowE_tr (NowE_sy beLike_now) (NowE_tr h beLike_now)) (by rw [beLike_nat.2.1 4 (by decide), beLike_nat.2.1 4 (by decide), h 15 (by decide)])
theorem fewN_v : ∀ (n : Nat) (i : Int32) (J : im_I), (fewN_ n i J).1 = -1 ∨ ∃ j, j < n ∧ (fewN_ n i J).1 = i + nI j
  | 0, i, J => Or.inl (by rw [fewN_0])
  | n + 1, i, J => by
    rw [fewN_s]
    by_cases c : fewOne_ i J 109 0 = 0
    · rw [if_pos c]
      exact Or.inr ⟨0, by omega, by show i = i + nI 0; rw [show nI 0 = 0 from rfl, Int32.add_zero]⟩
    · rw [if_neg c]
      rcases fewN_v n (i + 1) (fewOne_ i J) with e | ⟨j, hj, e⟩
      · exact Or.inl e
      · refine Or.inr ⟨j + 1, by omega, e.trans ?_⟩
        rw [nI_succ, Int32.add_assoc, Int32.add_comm 1 (nI j)]
theorem few_v {I : im_I} : (¬ (few_ I).1 < 0 → ¬ (few_ I).1 < 5) ∧ (¬ (few_ I).1 < 0 → ¬ (few_ I).1 > 11) := by
  have h := fewN_v (cnt 5 (11 + 1)) 5 (beLike_ I 17 15)
  rw [show cnt 5 (11 + 1) = 7 by decide] at h
  unfold few_
  rw [show cnt 5 (11 + 1) = 7 by decide]
  rcases h with e | ⟨j, hj, e⟩
  · rw [e]; decide
  · rw [e]
    have key : ∀ j, j < 7 → (¬ 5 + nI j < 0 → ¬ 5 + nI j < 5) ∧ (¬ 5 + nI j < 0 → ¬ 5 + nI j > 11) := by decide
    exact key j hj
