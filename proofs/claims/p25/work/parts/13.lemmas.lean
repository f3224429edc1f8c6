/-! small laws that the walks use -/
theorem im_vp {i : Int32} {n : Nat} (h1 : ¬ i < 0) (h2 : ¬ Int32.ofNat n ≤ i) (hn : n < 2 ^ 31 := by decide) : vp_in i n := by
  obtain ⟨j, hj, rfl⟩ := nI_of h1
  refine vp_in_nI ?_ hn
  rcases Nat.lt_or_ge j n with h | h
  · exact h
  · exact absurd (nI_le h hj) h2
theorem cnt_0 {i e : Int32} (h : cnt i e = 0) : e ≤ i := by
  unfold cnt at h
  rw [Int32.le_iff_toInt_le]
  omega
theorem cnt_ex {i e : Int32} (h : cnt i e = 0) (c : ¬ e ≤ i) : False := c (cnt_0 h)
theorem cnt_go {i e : Int32} {n : Nat} (h : cnt i e = n + 1) (c : e ≤ i) : False := by
  unfold cnt at h
  rw [Int32.le_iff_toInt_le] at c
  omega
theorem i32_inc {i e : Int32} (h : i < e) : (i + 1).toInt = i.toInt + 1 := by
  rw [Int32.lt_iff_toInt_lt] at h
  have h2 := Int32.toInt_lt e
  have h3 := Int32.le_toInt i
  rw [Int32.toInt_add]
  have e1 : (1 : Int32).toInt = 1 := by decide
  rw [e1]
  exact Int.bmod_eq_of_le (by omega) (by omega)
theorem i32_nle {i e : Int32} (h : ¬ e ≤ i) : i < e := Int32.not_le.mp h
theorem cnt_nx {i e : Int32} {n : Nat} (h : cnt i e = n + 1) : cnt (i + 1) e = n := by
  have hlt : i < e := by
    rw [Int32.lt_iff_toInt_lt]
    unfold cnt at h
    omega
  unfold cnt at h ⊢
  rw [i32_inc hlt]
  omega
theorem im_toInt {x y : Int32} (h : x.toInt = y.toInt) : x = y := Int32.toInt_inj.mp h
theorem loopN_s {σ : Type} {n : Nat} {i : Int32} {f : Int32 → σ → σ} {s : σ} : loopN (n + 1) i f s = loopN n (i + 1) f (f i s) := by rw [loopN]
theorem loopN_0 {σ : Type} {i : Int32} {f : Int32 → σ → σ} {s : σ} : loopN 0 i f s = s := by rw [loopN]
theorem i32_pos {i e : Int32} (c : ¬ e ≤ i) (hz : ¬ i < 0) : ¬ i + 1 < 0 := by
  have h := i32_inc (i32_nle c)
  rw [Int32.lt_iff_toInt_lt] at hz ⊢
  rw [h]
  simp at hz ⊢
  omega
theorem cntL_ex {i e : Int32} (h : cnt i (e + 1) = 0) (he : e < 2147483647) (c : ¬ e < i) : False := by
  have h1 := cnt_0 h
  have h2 := i32_inc he
  rw [Int32.le_iff_toInt_le, h2] at h1
  rw [Int32.lt_iff_toInt_lt] at c
  omega
theorem cntL_go {i e : Int32} {n : Nat} (h : cnt i (e + 1) = n + 1) (he : e < 2147483647) (c : e < i) : False := by
  have h2 := i32_inc he
  unfold cnt at h
  rw [h2] at h
  rw [Int32.lt_iff_toInt_lt] at c
  omega
theorem i32_dec {i e : Int32} (h : e < i) : (i - 1).toInt = i.toInt - 1 := by
  rw [Int32.lt_iff_toInt_lt] at h
  have h2 := Int32.toInt_lt i
  have h3 := Int32.le_toInt e
  rw [Int32.toInt_sub]
  have e1 : (1 : Int32).toInt = 1 := by decide
  rw [e1]
  exact Int.bmod_eq_of_le (by omega) (by omega)
theorem i32_addneg (i : Int32) : i + -1 = i - 1 := (Int32.sub_eq_add_neg i 1).symm
/-- a loop down to e, e above the least int -/
theorem cntD_ex {i e : Int32} (h : cntD i e = 0) (c : ¬ i < e) : False := by
  unfold cntD at h
  rw [Int32.lt_iff_toInt_lt] at c
  omega
theorem cntD_go {i e : Int32} {n : Nat} (h : cntD i e = n + 1) (c : i < e) : False := by
  unfold cntD at h
  rw [Int32.lt_iff_toInt_lt] at c
  omega
theorem cntD_nx {i e : Int32} {n : Nat} (he : -2147483648 < e) (h : cntD i e = n + 1) : cntD (i + -1) e = n := by
  rw [i32_addneg]
  have h0 : (-2147483648 : Int32) < i := by
    rw [Int32.lt_iff_toInt_lt] at he ⊢
    unfold cntD at h
    omega
  have h1 := i32_dec h0
  unfold cntD at h ⊢
  rw [h1]
  omega
theorem downN_s {σ : Type} {n : Nat} {i : Int32} {f : Int32 → σ → σ} {s : σ} : downN (n + 1) i f s = downN n (i + -1) f (f i s) := by rw [downN]
theorem downN_0 {σ : Type} {i : Int32} {f : Int32 → σ → σ} {s : σ} : downN 0 i f s = s := by rw [downN]
def im_sub : List (Option Value) → List (Option Value) → Prop
  | [], [] => True
  | some v :: t, x :: r => x = some v ∧ im_sub t r
  | none :: t, _ :: r => im_sub t r
  | _, _ => False
theorem im_sub_at : ∀ {A B : List (Option Value)}, im_sub A B → A.length = B.length ∧ ∀ (i : Nat) (v : Value), A[i]? = some (some v) → B[i]? = some (some v)
  | [], [], _ => ⟨rfl, fun i v h => by simp at h⟩
  | some v :: t, x :: r, h => by
    obtain ⟨h1, h2⟩ := h
    obtain ⟨g1, g2⟩ := im_sub_at h2
    refine ⟨by simp [g1], fun i w hw => ?_⟩
    cases i with
    | zero => simp at hw; subst hw; simp [h1]
    | succ i => simpa using g2 i w (by simpa using hw)
  | none :: t, x :: r, h => by
    obtain ⟨g1, g2⟩ := im_sub_at (show im_sub t r from h)
    refine ⟨by simp [g1], fun i w hw => ?_⟩
    cases i with
    | zero => simp at hw
    | succ i => simpa using g2 i w (by simpa using hw)
  | [], _ :: _, h => h.elim
  | some _ :: _, [], h => h.elim
  | none :: _, [], h => h.elim
theorem r_weak {X : im_X} {k : im_K} {Q : State → Prop} {pc : Nat} {L L' : List (Option Value)} {st : List Value} {S : im_S} {I : im_I} (hs : im_sub L' L) (h : im_E X k Q pc L' st S I) : im_E X k Q pc L st S I := by
  intro H locs ls hH hS hL hB
  obtain ⟨g1, g2⟩ := im_sub_at hs
  exact h H locs ls hH hS ⟨hL.1.trans g1.symm, hL.2.1, fun i v hv => hL.2.2 i v (g2 i v hv)⟩ hB
theorem im_tsOut {x : Int32} {lo hi : Int} (h : ∀ z : Int, lo ≤ z → z ≤ hi → x.toInt ≠ z) : x.toInt < lo ∨ hi < x.toInt := by
  rcases Int.lt_or_le x.toInt lo with h1 | h1
  · exact Or.inl h1
  · rcases Int.lt_or_le hi x.toInt with h2 | h2
    · exact Or.inr h2
    · exact absurd rfl (h _ h1 h2)
theorem im_fitZ {t j : Nat} {x : Int32} (h : im_ty t j = .boolean) (hx : x = 0 ∨ x = 1) : im_fit t j x = true := by
  unfold im_fit
  rw [h]
  rcases hx with rfl | rfl <;> rfl
theorem put_fr {I : im_I} {x n b : Nat} {i v : Int32} (h : b ≠ x) : put_ I x n i v b = I b := by
  unfold put_
  split
  · rfl
  · split
    · rfl
    · exact im_up_row h
theorem loopN_fr {f : Int32 → im_I → im_I} {b : Nat} (h : ∀ i J, f i J b = J b) : ∀ (n : Nat) (i : Int32) (J : im_I), loopN n i f J b = J b
  | 0, _, _ => by rw [loopN_0]
  | n + 1, i, J => by rw [loopN_s]; exact (loopN_fr h n (i + 1) (f i J)).trans (h i J)
theorem downN_fr {f : Int32 → im_I → im_I} {b : Nat} (h : ∀ i J, f i J b = J b) : ∀ (n : Nat) (i : Int32) (J : im_I), downN n i f J b = J b
  | 0, _, _ => by rw [downN_0]
  | n + 1, i, J => by rw [downN_s]; exact (downN_fr h n (i + -1) (f i J)).trans (h i J)
theorem gatherN_s {c n : Nat} {count : Int32} {I : im_I} : gatherN_ c (n + 1) count I = if I c 10 ≤ 0 then (count, I) else if 80 ≤ count then (count, I) else gatherN_ c n (count + 1) (gatherOne_ c count I) := by rw [gatherN_]
theorem up_fr {I : im_I} {a j b : Nat} {x : Int32} (h : b ≠ a) : im_up I a j x b = I b := im_up_row h
theorem fillL_fr {I : im_I} {x n b : Nat} {v : Int32} (h : b ≠ x) : fillL_ I x n v b = I b := loopN_fr (fun _ _ => up_fr h) _ _ _
theorem workBlock_fr {I : im_I} {a : Nat} {b : Int32} (ha : 11 < a) : workBlock_ I a b 11 = I 11 :=
  loopN_fr (fun _ _ => (put_fr (by omega)).trans (loopN_fr (fun _ _ => put_fr (by omega)) _ _ _)) _ _ _
theorem setNodes_fr {I : im_I} {x n b : Nat} {nd f s t : Int32} (h : b ≠ x) : setNodes_ I x n nd f s t b = I b := (put_fr h).trans ((put_fr h).trans (put_fr h))
theorem coverLeaf_fr {I : im_I} {c m b : Nat} {nd kd : Int32} (h : b < c ∨ c + 8 < b) : coverLeaf_ I c m nd kd b = I b := by
  have e1 : b ≠ c + 1 := by omega
  have e2 : b ≠ c + 2 := by omega
  have e3 : b ≠ c + 3 := by omega
  have e4 : b ≠ c + 4 := by omega
  have e5 : b ≠ c + 5 := by omega
  unfold coverLeaf_
  split <;> simp only [put_fr, setNodes_fr, e1, e2, e3, e4, e5, ne_eq, not_false_eq_true]
theorem coverPlain_fr {I : im_I} {c m b : Nat} {nd kd : Int32} (h : b < c ∨ c + 8 < b) : coverPlain_ I c m nd kd b = I b := by
  have e1 : b ≠ c + 1 := by omega
  have e2 : b ≠ c + 2 := by omega
  have e4 : b ≠ c + 4 := by omega
  have e5 : b ≠ c + 5 := by omega
  unfold coverPlain_
  simp only [put_fr, setNodes_fr, e1, e2, e4, e5, ne_eq, not_false_eq_true]
theorem coverSmallBy_fr {I : im_I} {c m b : Nat} {nd kd x y : Int32} (h : b < c ∨ c + 8 < b) : coverSmallBy_ I c m nd kd x y b = I b := by
  have e1 : b ≠ c + 1 := by omega
  have e2 : b ≠ c + 2 := by omega
  have e3 : b ≠ c + 3 := by omega
  have e4 : b ≠ c + 4 := by omega
  have e5 : b ≠ c + 5 := by omega
  unfold coverSmallBy_
  try simp only
  split
  · rfl
  · simp only [put_fr, setNodes_fr, e1, e2, e3, e4, e5, ne_eq, not_false_eq_true]
theorem coverSmall_fr {I : im_I} {c m b : Nat} {nd kd : Int32} (h : b < c ∨ c + 8 < b) : coverSmall_ I c m nd kd b = I b := by
  unfold coverSmall_
  try simp only
  split
  · exact coverSmallBy_fr h
  · split
    · exact coverSmallBy_fr h
    · rfl
theorem coverFusedBy_fr {I : im_I} {c m b : Nat} {nd x y : Int32} {q : Bool} (h : b < c ∨ c + 8 < b) : coverFusedBy_ I c m nd x y q b = I b := by
  have e1 : b ≠ c + 1 := by omega
  have e2 : b ≠ c + 2 := by omega
  have e3 : b ≠ c + 3 := by omega
  have e4 : b ≠ c + 4 := by omega
  have e5 : b ≠ c + 5 := by omega
  unfold coverFusedBy_
  try simp only
  split
  · rfl
  · split <;> simp only [put_fr, setNodes_fr, e1, e2, e3, e4, e5, ne_eq, not_false_eq_true]
theorem coverFused_fr {I : im_I} {c m b : Nat} {nd kd : Int32} (h : b < c ∨ c + 8 < b) : coverFused_ I c m nd kd b = I b := by
  unfold coverFused_
  try simp only
  split
  · rfl
  · split
    · rfl
    · split
      · exact coverFusedBy_fr h
      · split
        · exact coverFusedBy_fr h
        · rfl
theorem coverOne_fr' {I : im_I} {c m b : Nat} {nd : Int32} (h : b < c ∨ c + 8 < b) : coverOne_ c m nd I b = I b := by
  have e3 : b ≠ c + 3 := by omega
  unfold coverOne_
  try simp only
  split
  · exact (coverLeaf_fr h).trans (put_fr e3)
  · exact (coverFused_fr h).trans ((coverSmall_fr h).trans ((coverPlain_fr h).trans (put_fr e3)))
theorem coverOne_fr {I : im_I} {c m : Nat} {nd : Int32} (h : 11 < c) : coverOne_ c m nd I 3 = I 3 := coverOne_fr' (Or.inl (by omega))
theorem r_mem {X : im_X} {k : im_K} {Q : State → Prop} {pc : Nat} {L : List (Option Value)} {st : List Value} {S : im_S} {I I' : im_I} (hI : I = I') (h : im_E X k Q pc L st S I') : im_E X k Q pc L st S I := hI ▸ h
theorem gatherN_0 {c : Nat} {count : Int32} {I : im_I} : gatherN_ c 0 count I = (count, I) := by rw [gatherN_]
theorem gath_0 {i : Int32} (c : ¬ 80 ≤ i) : ¬ 80 ≤ i.toInt + ((0 : Nat) : Int) := by
  intro h
  apply c
  rw [Int32.le_iff_toInt_le]
  have e : (80 : Int32).toInt = 80 := by decide
  omega
theorem gath_n {i : Int32} {n : Nat} (c : ¬ 80 ≤ i) (h : 80 ≤ i.toInt + ((n + 1 : Nat) : Int)) : 80 ≤ (i + 1).toInt + (n : Int) := by
  rw [i32_inc (i32_nle c)]
  omega
theorem i32_le0 {i : Int32} : i ≤ 0 ↔ i < 1 := by
  rw [Int32.le_iff_toInt_le, Int32.lt_iff_toInt_lt]
  have e0 : (0 : Int32).toInt = 0 := by decide
  have e1 : (1 : Int32).toInt = 1 := by decide
  omega
theorem cntD1_ex {i : Int32} (h : cntD i 1 = 0) (c : ¬ i ≤ 0) : False := cntD_ex h (fun h2 => c (i32_le0.mpr h2))
theorem cntD1_go {i : Int32} {n : Nat} (h : cntD i 1 = n + 1) (c : i ≤ 0) : False := cntD_go h (i32_le0.mp c)
theorem workOne_fr {I : im_I} {a : Nat} {b i : Int32} (ha : 11 < a) : workOne_ a b i I 11 = I 11 := (put_fr (by omega)).trans (loopN_fr (fun _ _ => put_fr (by omega)) _ _ _)
theorem workRounds_fr {I : im_I} {a : Nat} {b : Int32} (ha : 11 < a) : workRounds_ a b I 11 = I 11 := loopN_fr (fun _ _ => workBlock_fr ha) _ _ _
theorem up_ne {I : im_I} {a j i : Nat} {x : Int32} (h : i ≠ j) : im_up I a j x a i = I a i := by simp [im_up, h]
theorem touchValue_fr {I : im_I} {a b : Nat} {v pt t : Int32} (h : b < a ∨ a + 8 < b) : touchValue_ I a v pt t b = I b :=
  (put_fr (by omega)).trans ((put_fr (by omega)).trans (up_fr (by omega)))
theorem touchRead_fr {I : im_I} {a r b : Nat} {pt t j : Int32} (h : b < a ∨ a + 8 < b) : touchRead_ a r pt t j I b = I b := by
  unfold touchRead_
  try simp only
  split
  · rfl
  · exact (touchValue_fr h).trans (put_fr (by omega))
theorem touch1_fr {I : im_I} {a r b : Nat} {pt : Int32} (h : b < a ∨ a + 8 < b) : touch1_ I a r pt b = I b := by
  unfold touch1_
  try simp only
  split
  · exact put_fr (by omega)
  · rfl
theorem touch2_fr {I : im_I} {a r b : Nat} {pt : Int32} (h : b < a ∨ a + 8 < b) : touch2_ I a r pt b = I b :=
  (touchValue_fr h).trans ((put_fr (by omega)).trans (touch1_fr h))
theorem touch_fr {I : im_I} {a r b : Nat} {pt : Int32} (h : b < a ∨ a + 8 < b) : touch_ I a r pt b = I b := by
  have e : loopC 0 3 (touchRead_ a r pt (roundsOf_ I 3 (blockOf_ I r pt))) (touch2_ I a r pt) b = I b := (loopN_fr (fun _ _ => touchRead_fr h) _ _ _).trans (touch2_fr h)
  unfold touch_
  try simp only
  split
  · exact (up_fr (by omega)).trans ((put_fr (by omega)).trans e)
  · exact e
theorem measure0_fr {I : im_I} {a b : Nat} (h : b < a ∨ a + 8 < b) : measure0_ I a b = I b :=
  (fillL_fr (by omega)).trans ((fillL_fr (by omega)).trans ((fillL_fr (by omega)).trans ((fillL_fr (by omega)).trans ((up_fr (by omega)).trans ((up_fr (by omega)).trans (up_fr (by omega)))))))
theorem measureOne_fr {I : im_I} {a r x n b : Nat} {v : Int32} (h : b < a ∨ a + 8 < b) : measureOne_ a r x n v I b = I b := by
  unfold measureOne_
  try simp only
  split
  · rfl
  · exact (put_fr (by omega)).trans ((put_fr (by omega)).trans ((put_fr (by omega)).trans (up_fr (by omega))))
theorem measureOne_0 {I : im_I} {a r x n : Nat} {v : Int32} : measureOne_ a r x n v I a 0 = I a 0 := by
  unfold measureOne_
  try simp only
  split
  · rfl
  · exact (congrFun (put_fr (by omega)) 0).trans ((congrFun (put_fr (by omega)) 0).trans ((congrFun (put_fr (by omega)) 0).trans (up_ne (by omega))))
theorem r_mmax' {x y : Int32} : (if x < y then y else x) = max_ x y := rfl
theorem placeN_s {a n : Nat} {f t i : Int32} {I : im_I} : placeN_ a f t (n + 1) i I = if highestReady_ I a f t = -1 then I else placeN_ a f t n (i + 1) (loopC (highestReady_ I a f t + 1) t (lessOne_ a (highestReady_ I a f t)) (put_ (addCopy_ I (a + 10) (a + 27) (highestReady_ I a f t)) (a + 35) 88 (highestReady_ I a f t) (-1))) := by rw [placeN_]
theorem placeN_0 {a : Nat} {f t i : Int32} {I : im_I} : placeN_ a f t 0 i I = I := by rw [placeN_]
theorem i32_ne0 {x : Int32} (h : ¬ x ≤ 0) : ¬ x = 0 := fun e => h (by rw [e]; exact Int32.le_refl _)
