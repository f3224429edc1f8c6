/-! PURE THEORY, THE LINES: what is known of them -/
theorem sumR_list {g : Nat → Nat} {h : Nat → Nat} {a : Nat} {P : List Nat} (e : ∀ k j, P[k]? = some j → g (a + k) = h j) : sumR g a P.length = (P.map h).sum := by
  have key : ∀ m, m ≤ P.length → sumR g a m = ((P.take m).map h).sum := by
    intro m
    induction m with
    | zero => intro _; rfl
    | succ m ih =>
      intro hm
      have hget : P[m]? = some P[m] := List.getElem?_eq_getElem (by omega)
      rw [sumR_s, ih (by omega), List.take_add_one, hget, List.map_append, List.sum_append, e m _ hget]
      simp
  have := key P.length (Nat.le_refl _)
  rwa [List.take_length] at this
theorem exR_list {f R : Nat → Ins} {a : Nat} {P : List Nat} {V : Env} (e : ∀ k j, P[k]? = some j → eqI (f (a + k)) (R j)) : exR f a P.length V = exL R P V := by
  have key : ∀ m, m ≤ P.length → exR f a m V = exL R (P.take m) V := by
    intro m
    induction m with
    | zero =>
      intro _
      rw [List.take_zero, exL_n]
      unfold exR
      rw [itN_0]
    | succ m ih =>
      intro hm
      have hget : P[m]? = some P[m] := List.getElem?_eq_getElem (by omega)
      rw [exR_s, ih (by omega), List.take_add_one, hget, exL_app, eqI_ex (e m _ hget)]
      rw [show (some P[m]).toList = [P[m]] from rfl, exL_c, exL_n]
  have := key P.length (Nat.le_refl _)
  rwa [List.take_length] at this
theorem sum_range' {h : Nat → Nat} {a : Nat} (n : Nat) : ((List.range' a n).map h).sum = sumR h a n := by
  induction n with
  | zero => rfl
  | succ n ih => rw [List.range'_concat, List.map_append, List.sum_append, ih, sumR_s]; simp
/-- what is known of the lines at a + 10 -/
def LnOk (J : im_I) (a N : Nat) (st : Nat → Nat) : Prop :=
  (J (a + 10) 0 = nI N ∧ N ≤ 88 ∧ st 0 ≤ 8 ∧ st 4 = N ∧ (∀ b, b < 4 → st b ≤ st (b + 1)) ∧ (∀ b, b < 5 → J (a + 26) b = nI (st b))) ∧
  (∀ p, p < N → insOk (insAt J (a + 10) p)) ∧
  (∀ p, p < st 0 → ∃ v, v < 8 ∧ eqI (insAt J (a + 10) p) (ins_ 0 (nI v) (-1) (-1) (-1) 0 (-1) 0)) ∧
  (∀ b p, b < 4 → st b ≤ p → p < st (b + 1) → insAt J (a + 10) p 6 = nI b) ∧
  (∀ p k y, p < N → k < 3 → y < 88 → insAt J (a + 10) p (2 + k) = nI y → ∃ q, q < p ∧ insAt J (a + 10) q 1 = nI y ∧ (8 ≤ y → insAt J (a + 10) q 6 = insAt J (a + 10) p 6)) ∧
  (∀ p q w, p < N → q < N → 8 ≤ w → w < 88 → insAt J (a + 10) p 1 = nI w → insAt J (a + 10) q 1 = nI w → p = q) ∧
  (∀ v, v < 8 → hb (J 3 2) v = true → ∃ q, q < N ∧ insAt J (a + 10) q 1 = nI v) ∧
  (sumR (fun p => wt (insAt J (a + 10) p)) (st 0) (N - st 0) ≤ 160) ∧
  (∀ b, b < 4 → ∀ V : Env, ∀ y, y < 8 → exR (insAt J (a + 10)) (st b) (st (b + 1) - st b) V y = stm J b (ctN J b) V y)
theorem eqI_wt {x y : Ins} (h : eqI x y) : wt x = wt y := by
  unfold wt
  rw [h 2 (by decide), h 3 (by decide), h 4 (by decide)]
set_option maxHeartbeats 4000000 in
theorem LnOk_of {I0 J : im_I} {a nn n x ne : Nat} {s : Nat → Nat} {Pf : Nat → List Nat} (hE : EntI I0 I0 a (earlyVariables_ I0 a) 8 ne) (hB : BldI I0 J a ne s 4 Pf) (hRw : RawI I0 I0 a nn n x s 4 0 5) (hs : stOk I0 nn) (h4 : s 4 = n) (he : ∀ v, v < 8 → (hb (earlyVariables_ I0 a) v = true ↔ (∃ j, j < n ∧ rdS (insAt I0 (a + 27) j) (nI v) ∧ ∀ q, q < j → insAt I0 (a + 27) q 1 ≠ nI v) ∨ (hb (I0 3 2) v = true ∧ ∀ j, j < n → insAt I0 (a + 27) j 1 ≠ nI v))) (ha : 11 < a) :
    LnOk (put_ J (a + 26) 5 4 (J (a + 10) 0)) a (ne + n) (fun b => ne + s b) := by
  obtain ⟨⟨e1, e2⟩, e3, e4, e5, -⟩ := hE
  obtain ⟨b1, b2, b3, b4, b5, b6⟩ := hB
  obtain ⟨⟨-, -, -, r4, r5⟩, ⟨s1, -, s3, -⟩, rR, rU, rB, rW, ⟨rE, -⟩, -⟩ := hRw
  have r5' : n ≤ totB I0 4 := r5
  have hn80 : n ≤ 80 := by have := hs.2; omega
  have hmono : ∀ d i, i + d ≤ 4 → s i ≤ s (i + d) := by
    intro d
    induction d with
    | zero => intro i _; exact Nat.le_refl _
    | succ d ih =>
      intro i hid
      exact Nat.le_trans (ih i (by omega)) (s3 (i + d) (by omega))
  have hsn : ∀ i, i ≤ 4 → s i ≤ n := fun i hi => by
    have := hmono (4 - i) i (by omega)
    rwa [show i + (4 - i) = 4 by omega, h4] at this
  rw [show (4 : Int32) = nI 4 by decide, put_nat (by decide) (by decide)]
  have eR : insAt (im_up J (a + 26) 4 (J (a + 10) 0)) (a + 10) = insAt J (a + 10) := funext fun p => insAt_fr fun z z1 z2 => up_fr (by omega)
  have eJ : ∀ z, z = 3 ∨ z = 5 ∨ z = 6 ∨ z = 7 ∨ z = 9 ∨ z = 10 ∨ z = 11 → im_up J (a + 26) 4 (J (a + 10) 0) z = I0 z := fun z hz => (up_fr (by omega)).trans (b6 z (by omega) (by omega) (by omega) (by omega))
  have hPl : ∀ i, i < 4 → (Pf i).length = s (i + 1) - s i := fun i hi => by
    have := (b3 i hi).1.length_eq
    rwa [List.length_range'] at this
  have hin : ∀ i k j, i < 4 → (Pf i)[k]? = some j → s i ≤ j ∧ j < s (i + 1) := fun i k j hi hk => by
    have h1 := List.mem_of_getElem? hk
    rw [(b3 i hi).1.mem_iff, List.mem_range'_1] at h1
    have := s3 i hi
    omega
  have hfind : ∀ i j, i < 4 → s i ≤ j → j < s (i + 1) → ∃ k, k < s (i + 1) - s i ∧ (Pf i)[k]? = some j := fun i j hi h1 h2 => by
    have h3 : j ∈ Pf i := by
      rw [(b3 i hi).1.mem_iff, List.mem_range'_1]
      omega
    obtain ⟨k, hk, e⟩ := List.mem_iff_getElem.mp h3
    exact ⟨k, by rw [← hPl i hi]; exact hk, by rw [List.getElem?_eq_getElem hk, e]⟩
  -- where a line is
  have hloc : ∀ p, p < ne + n → p < ne ∨ ∃ i k j, i < 4 ∧ k < s (i + 1) - s i ∧ p = ne + s i + k ∧ (Pf i)[k]? = some j := by
    intro p hp
    by_cases c : p < ne
    · exact Or.inl c
    · have : ∃ i, i < 4 ∧ s i ≤ p - ne ∧ p - ne < s (i + 1) := by
        by_cases c1 : p - ne < s 1
        · exact ⟨0, by decide, by omega, c1⟩
        · by_cases c2 : p - ne < s 2
          · exact ⟨1, by decide, by omega, c2⟩
          · by_cases c3 : p - ne < s 3
            · exact ⟨2, by decide, by omega, c3⟩
            · exact ⟨3, by decide, by omega, by show p - ne < s 4; omega⟩
      obtain ⟨i, i1, i2, i3⟩ := this
      have hk : p - ne - s i < (Pf i).length := by rw [hPl i i1]; omega
      exact Or.inr ⟨i, p - ne - s i, _, i1, by rw [← hPl i i1]; exact hk, by omega, List.getElem?_eq_getElem hk⟩
  have hline : ∀ i k j, i < 4 → (Pf i)[k]? = some j → eqI (insAt J (a + 10) (ne + s i + k)) (insAt I0 (a + 27) j) := fun i k j hi hk => (b3 i hi).2.1 k j hk
  have hbk : ∀ i j, i < 4 → s i ≤ j → j < s (i + 1) → insAt I0 (a + 27) j 6 = nI i := by
    intro i j hi h1 h2
    obtain ⟨i', q1, q2, q3, q4⟩ := rB j (by have := hsn (i + 1) (by omega); omega)
    have : i' = i := by
      rcases Nat.lt_trichotomy i' i with c | c | c
      · have h5 := q4 (by omega)
        have h6 := hmono (i - (i' + 1)) (i' + 1) (by omega)
        rw [show i' + 1 + (i - (i' + 1)) = i by omega] at h6
        omega
      · exact c
      · have h6 := hmono (i' - (i + 1)) (i + 1) (by omega)
        rw [show i + 1 + (i' - (i + 1)) = i' by omega] at h6
        omega
    rw [q2, this]
  have hrawIn : ∀ i j, i < 4 → j < n → insAt I0 (a + 27) j 6 = nI i → s i ≤ j ∧ j < s (i + 1) := by
    intro i j hi hj h6
    obtain ⟨i', q1, q2, q3, q4⟩ := rB j hj
    have : i' = i := nI_inj (by omega) (by omega) (q2.symm.trans h6)
    subst this
    exact ⟨q3, q4 hi⟩
  -- every instruction as chosen is a line
  have hput : ∀ j, j < n → ∃ i k, i < 4 ∧ s i ≤ j ∧ j < s (i + 1) ∧ (Pf i)[k]? = some j ∧ k < s (i + 1) - s i := by
    intro j hj
    obtain ⟨i', q1, q2, q3, q4⟩ := rB j hj
    have hi : i' < 4 := by
      apply Classical.byContradiction
      intro hn
      rw [show i' = 4 by omega, h4] at q3
      omega
    obtain ⟨k, k1, k2⟩ := hfind i' j hi q3 (q4 hi)
    exact ⟨i', k, hi, q3, q4 hi, k2, k1⟩
  have hraw : ∀ j, j < n → insOk (insAt I0 (a + 27) j) := fun j hj => by
    obtain ⟨q1, ⟨w, q2, q3⟩, q4⟩ := rR j hj
    refine ⟨q1, ⟨w, by omega, q3⟩, fun i hi => ?_⟩
    rcases q4 i hi with e | ⟨y, e, h8 | ⟨h8, q, q5, q6, -⟩⟩
    · exact Or.inl e
    · exact Or.inr ⟨y, by omega, e⟩
    · obtain ⟨-, ⟨w2, q7, q8⟩, -⟩ := rR q (by omega)
      have hy : nI y = nI w2 := q6.symm.trans q8
      exact Or.inr ⟨w2, by omega, e.trans hy⟩
  have hcases : ∀ p, p < ne + n → (p < ne ∧ ∃ u, u < 8 ∧ hb (earlyVariables_ I0 a) u = true ∧ insAt J (a + 10) p = ins_ 0 (nI u) (-1) (-1) (-1) 0 (-1) 0) ∨ ∃ i k j, i < 4 ∧ k < s (i + 1) - s i ∧ p = ne + s i + k ∧ (Pf i)[k]? = some j ∧ s i ≤ j ∧ j < s (i + 1) ∧ j < n ∧ eqI (insAt J (a + 10) p) (insAt I0 (a + 27) j) := by
    intro p hp
    rcases hloc p hp with c | ⟨i, k, j, q1, q2, q3, q4⟩
    · obtain ⟨u, u1, u2, u3⟩ := e3 p c
      exact Or.inl ⟨c, u, u1, u2, (b2 p c).trans u3⟩
    · obtain ⟨q5, q6⟩ := hin i k j q1 q4
      have := hsn (i + 1) (by omega)
      exact Or.inr ⟨i, k, j, q1, q2, q3, q4, q5, q6, by omega, by rw [q3]; exact hline i k j q1 q4⟩
  have hA : ∀ u, u < 8 → hb (earlyVariables_ I0 a) u = true → ∃ p, p < ne ∧ insAt J (a + 10) p 1 = nI u := fun u hu h => by
    obtain ⟨p, p1, p2⟩ := e4 u hu h
    exact ⟨p, p1, by rw [b2 p p1]; exact p2⟩
  unfold LnOk
  rw [eR]
  refine ⟨⟨?_, by omega, ?_, ?_, fun b hb => ?_, fun b hb => ?_⟩, fun p hp => ?_, fun p hp => ?_, fun b p hb hp1 hp2 => ?_, fun p k y hp hk hy hr => ?_, fun p q w hp hq hw1 hw2 h1 h2 => ?_, fun v hv hq => ?_, ?_, fun b hb V y hy => ?_⟩
  · rw [up_fr (by omega), b1, h4]
  · show ne + s 0 ≤ 8
    omega
  · show ne + s 4 = ne + n
    rw [h4]
  · exact Nat.add_le_add_left (s3 b hb) ne
  · rw [up_row]
    by_cases c : b = 4
    · rw [if_pos c, b1, c]
    · rw [if_neg c]; exact b4 b (by omega)
  · rcases hcases p hp with ⟨-, u, u1, -, u3⟩ | ⟨i, k, j, -, -, -, -, -, -, q7, q8⟩
    · rw [u3]
      exact ⟨Or.inl ⟨rfl, rfl, rfl, rfl⟩, ⟨u, by omega, rfl⟩, lt3 (Or.inl rfl) (Or.inl rfl) (Or.inl rfl)⟩
    · exact eqI_insOk (eqI_sy q8) (hraw j q7)
  · have hp' : p < ne := by
      have : p < ne + s 0 := hp
      omega
    obtain ⟨u, u1, u2, u3⟩ := e3 p hp'
    exact ⟨u, u1, by rw [b2 p hp', u3]; exact eqI_rf⟩
  · have hp1' : ne + s b ≤ p := hp1
    have hp2' : p < ne + s (b + 1) := hp2
    have hk : p - ne - s b < (Pf b).length := by rw [hPl b hb]; omega
    have hg := List.getElem?_eq_getElem hk
    have hl := hline b _ _ hb hg
    rw [show ne + s b + (p - ne - s b) = p by omega] at hl
    obtain ⟨g1, g2⟩ := hin b _ _ hb hg
    rw [hl 6 (by decide)]
    exact hbk b _ hb g1 g2
  · rcases hcases p hp with ⟨-, u, u1, -, u3⟩ | ⟨i, kk, j, i1, i2, i3, i4, i5, i6, i7, i8⟩
    · rw [u3] at hr
      exact absurd (show nI y = -1 from hr.symm.trans (lt3 (P := fun k => ins_ 0 (nI u) (-1) (-1) (-1) 0 (-1) 0 (2 + k) = -1) rfl rfl rfl k hk)) (nI_m1 (by omega))
    · rw [i8 (2 + k) (by omega)] at hr
      have hrd : rdS (insAt I0 (a + 27) j) (nI y) := by
        rw [← hr]
        exact lt3 (P := fun k => rdS (insAt I0 (a + 27) j) (insAt I0 (a + 27) j (2 + k))) (Or.inl rfl) (Or.inr (Or.inl rfl)) (Or.inr (Or.inr rfl)) k hk
      -- an earlier writer as chosen is an earlier line
      have hearl : ∀ q, q < j → insAt I0 (a + 27) q 1 = nI y → ∃ p', p' < p ∧ insAt J (a + 10) p' 1 = nI y ∧ insAt J (a + 10) p' 6 = insAt I0 (a + 27) q 6 := by
        intro q hqj hq
        obtain ⟨i', k', m1, m2, m3, m4, m5⟩ := hput q (by omega)
        have hl := hline i' k' q m1 m4
        by_cases c : i' = i
        · subst c
          have hd : dep (insAt I0 (a + 27) j) (insAt I0 (a + 27) q) := Or.inl (by rw [hq]; exact hrd)
          have hm := (b3 i' m1).2.2.2 kk j i4 q m2 hqj hd
          obtain ⟨k2, hk2, e⟩ := List.mem_iff_getElem.mp hm
          have hk3 : k2 < kk := by
            rw [List.length_take] at hk2
            omega
          rw [List.getElem_take] at e
          have hg : (Pf i')[k2]? = some q := by
            rw [List.getElem?_eq_getElem (by rw [List.length_take] at hk2; omega), e]
          have hl2 := hline i' k2 q m1 hg
          exact ⟨ne + s i' + k2, by omega, (hl2 1 (by decide)).trans hq, hl2 6 (by decide)⟩
        · have hlt : i' < i := by
            apply Nat.lt_of_not_le
            intro hle
            have h6 := hmono (i' - (i + 1)) (i + 1) (by omega)
            rw [show i + 1 + (i' - (i + 1)) = i' by omega] at h6
            omega
          have h6 := hmono (i - (i' + 1)) (i' + 1) (by omega)
          rw [show i' + 1 + (i - (i' + 1)) = i by omega] at h6
          exact ⟨ne + s i' + k', by omega, (hl 1 (by decide)).trans hq, hl 6 (by decide)⟩
      obtain ⟨-, -, q4⟩ := rR j i7
      rcases q4 k hk with e | ⟨y', e, h8 | ⟨h8, q, q5, q6, q7⟩⟩
      · exact absurd (hr.symm.trans e) (nI_m1 (by omega))
      · have hyy : y = y' := nI_inj (by omega) (by omega) (hr.symm.trans e)
        by_cases c : ∃ q, q < j ∧ insAt I0 (a + 27) q 1 = nI y
        · obtain ⟨q, q1, q2⟩ := c
          obtain ⟨p', p1, p2, p3⟩ := hearl q q1 q2
          exact ⟨p', p1, p2, fun h => by omega⟩
        · obtain ⟨p', p1, p2⟩ := hA y (by omega) ((he y (by omega)).mpr (Or.inl ⟨j, i7, hrd, fun q hq e => c ⟨q, hq, e⟩⟩))
          exact ⟨p', by omega, p2, fun h => by omega⟩
      · have hyy : nI y = nI y' := hr.symm.trans e
        obtain ⟨p', p1, p2, p3⟩ := hearl q q5 (q6.trans hyy.symm)
        exact ⟨p', p1, p2, fun _ => by rw [p3, q7, i8 6 (by decide)]⟩
  · have hent : ∀ p, p < ne → insAt J (a + 10) p 1 ≠ nI w := fun p hp e => by
      obtain ⟨u, u1, u2, u3⟩ := e3 p hp
      rw [b2 p hp, u3] at e
      have := nI_inj (by omega) (by omega) (show nI u = nI w from e)
      omega
    rcases hcases p hp with ⟨c, -⟩ | ⟨i, k, j, i1, i2, i3, i4, i5, i6, i7, i8⟩
    · exact absurd h1 (hent p c)
    · rcases hcases q hq with ⟨c, -⟩ | ⟨i', k', j', m1, m2, m3, m4, m5, m6, m7, m8⟩
      · exact absurd h2 (hent q c)
      · have hjj : j = j' := rU j j' w i7 m7 ((i8 1 (by decide)).symm.trans h1) ((m8 1 (by decide)).symm.trans h2) hw1 (by omega)
        subst hjj
        have hii : i = i' := nI_inj (by omega) (by omega) ((hbk i j i1 i5 i6).symm.trans (hbk i' j m1 m5 m6))
        subst hii
        have hnd : (Pf i).Nodup := (b3 i i1).1.nodup_iff.mpr List.nodup_range'
        have hkk : k = k' := by
          have hk1 : k < (Pf i).length := by rw [hPl i i1]; exact i2
          have hk2 : k' < (Pf i).length := by rw [hPl i i1]; exact m2
          rw [List.getElem?_eq_getElem hk1] at i4
          rw [List.getElem?_eq_getElem hk2] at m4
          exact (List.getElem_inj hnd).mp ((Option.some.inj i4).trans (Option.some.inj m4).symm)
        subst hkk
        omega
  · rw [eJ 3 (Or.inl rfl)] at hq
    by_cases c : ∃ j, j < n ∧ insAt I0 (a + 27) j 1 = nI v
    · obtain ⟨j, j1, j2⟩ := c
      obtain ⟨i, k, k1, k2, k3, k4, k5⟩ := hput j j1
      have := hsn (i + 1) (by omega)
      exact ⟨ne + s i + k, by omega, ((hline i k j k1 k4) 1 (by decide)).trans j2⟩
    · obtain ⟨p, p1, p2⟩ := hA v hv ((he v hv).mpr (Or.inr ⟨hq, fun j hj e => c ⟨j, hj, e⟩⟩))
      exact ⟨p, by omega, p2⟩
  · show sumR (fun p => wt (insAt J (a + 10) p)) (ne + s 0) (ne + n - (ne + s 0)) ≤ 160
    have hblk : ∀ i, i < 4 → sumR (fun p => wt (insAt J (a + 10) p)) (ne + s i) (s (i + 1) - s i) = sumR (fun p => wt (insAt I0 (a + 27) p)) (s i) (s (i + 1) - s i) := fun i hi => by
      have h1 := sumR_list (g := fun p => wt (insAt J (a + 10) p)) (h := fun j => wt (insAt I0 (a + 27) j)) (a := ne + s i) (P := Pf i) (fun k j hk => eqI_wt (hline i k j hi hk))
      rw [hPl i hi] at h1
      rw [h1, ← sum_range', ((b3 i hi).1.map _).sum_nat]
    have hall : ∀ i, i ≤ 4 → sumR (fun p => wt (insAt J (a + 10) p)) (ne + s 0) (s i - s 0) = sumR (fun p => wt (insAt I0 (a + 27) p)) (s 0) (s i - s 0) := by
      intro i
      induction i with
      | zero => intro _; rw [Nat.sub_self]; rfl
      | succ i ih =>
        intro hi
        have h0 := s3 i (by omega)
        have h00 := hmono i 0 (by omega)
        rw [Nat.zero_add] at h00
        rw [show s (i + 1) - s 0 = (s i - s 0) + (s (i + 1) - s i) by omega, sumR_add, sumR_add, ih (by omega), show ne + s 0 + (s i - s 0) = ne + s i by omega, show s 0 + (s i - s 0) = s i by omega, hblk i (by omega)]
    have h4' := hall 4 (Nat.le_refl _)
    rw [h4, s1] at h4'
    rw [s1, show ne + n - (ne + 0) = n - 0 by omega, h4']
    have : sumR (fun p => wt (insAt I0 (a + 27) p)) 0 n ≤ 2 * (totB I0 4 + 0) := rW
    have := hs.2
    show sumR (fun p => wt (insAt I0 (a + 27) p)) 0 (n - 0) ≤ 160
    rw [Nat.sub_zero]
    omega
  · show exR (insAt J (a + 10)) (ne + s b) (ne + s (b + 1) - (ne + s b)) V y = _
    have h1 := exR_list (f := insAt J (a + 10)) (R := insAt I0 (a + 27)) (a := ne + s b) (P := Pf b) (V := V) (fun k j hk => hline b k j hb hk)
    rw [hPl b hb] at h1
    rw [show ne + s (b + 1) - (ne + s b) = s (b + 1) - s b by omega, h1, (b3 b hb).2.2.1 V, ← exR_L, rE b hb V y hy]
    unfold stm ctN vaN roN
    rw [eJ 5 (by omega), eJ 6 (by omega), eJ 7 (by omega), eJ 9 (by omega), eJ 10 (by omega), eJ 11 (by omega)]
