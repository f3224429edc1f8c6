/-! PURE THEORY, GATHER: a node ahead of its parts, its last part first -/
def rp (P : Nat → Nat → Int32) : Nat → Nat → List Nat
  | 0, _ => []
  | n + 1, j => j :: ((if P j 2 = -1 then [] else rp P n (ofN (P j 2))) ++ ((if P j 1 = -1 then [] else rp P n (ofN (P j 1))) ++ (if P j 0 = -1 then [] else rp P n (ofN (P j 0)))))
termination_by n => n
theorem rp_s {P : Nat → Nat → Int32} {n j : Nat} : rp P (n + 1) j = j :: ((if P j 2 = -1 then [] else rp P n (ofN (P j 2))) ++ ((if P j 1 = -1 then [] else rp P n (ofN (P j 1))) ++ (if P j 0 = -1 then [] else rp P n (ofN (P j 0))))) := by rw [rp]
/-- parts are nodes before -/
def ptOk (P : Nat → Nat → Int32) (nn : Nat) : Prop := ∀ j, j < nn → ∀ k, k < 3 → P j k = -1 ∨ ∃ q, q < j ∧ P j k = nI q
theorem ptOk_of {P : Nat → Nat → Int32} {nn j k : Nat} (h : ptOk P nn) (h2 : nn < 1000) (hj : j < nn) (hk : k < 3) (c : ¬ P j k = -1) : ofN (P j k) < j := by
  rcases h j hj k hk with e | ⟨q, hq, e⟩
  · exact absurd e c
  · rw [e, ofN_nI (by omega)]; exact hq
theorem rp_fuel {P : Nat → Nat → Int32} {nn : Nat} (h : ptOk P nn) (h2 : nn < 1000) : ∀ (n m j : Nat), j < nn → j < n → j < m → rp P n j = rp P m j := by
  intro n
  induction n with
  | zero => intro m j _ h1; omega
  | succ n ih =>
    intro m j hj h1 h3
    obtain ⟨m, rfl⟩ : ∃ q, m = q + 1 := ⟨m - 1, by omega⟩
    have key : ∀ k, k < 3 → (if P j k = -1 then [] else rp P n (ofN (P j k))) = (if P j k = -1 then [] else rp P m (ofN (P j k))) := by
      intro k hk
      split
      · rfl
      · next c =>
        have := ptOk_of h h2 hj hk c
        exact ih m _ (by omega) (by omega) (by omega)
    rw [rp_s, rp_s, key 0 (by decide), key 1 (by decide), key 2 (by decide)]
def rpO (P : Nat → Nat → Int32) (j : Nat) : List Nat := rp P (j + 1) j
def rq (P : Nat → Nat → Int32) (x : Int32) : List Nat := if x = -1 then [] else rpO P (ofN x)
theorem rpO_s {P : Nat → Nat → Int32} {nn j : Nat} (h : ptOk P nn) (h2 : nn < 1000) (hj : j < nn) : rpO P j = j :: (rq P (P j 2) ++ (rq P (P j 1) ++ rq P (P j 0))) := by
  have key : ∀ k, k < 3 → (if P j k = -1 then [] else rp P j (ofN (P j k))) = rq P (P j k) := by
    intro k hk
    unfold rq
    split
    · rfl
    · next c =>
      have := ptOk_of h h2 hj hk c
      exact rp_fuel h h2 _ _ _ (by omega) (by omega) (by omega)
  unfold rpO
  rw [rp_s, key 0 (by decide), key 1 (by decide), key 2 (by decide)]
theorem rq_m1 {P : Nat → Nat → Int32} : rq P (-1) = [] := if_pos rfl
theorem rq_nI {P : Nat → Nat → Int32} {q : Nat} (h : q < 2 ^ 31) : rq P (nI q) = rpO P q := by
  unfold rq
  rw [if_neg (nI_m1 h), ofN_nI h]
/-- the stack's row, its top first in the list -/
def stkR (f : Nat → Int32) : List Nat → Prop
  | [] => True
  | b :: t => f t.length = nI b ∧ stkR f t
theorem stkR_up {f g : Nat → Int32} : ∀ {t : List Nat}, (∀ i, i < t.length → g i = f i) → stkR f t → stkR g t
  | [], _, _ => trivial
  | b :: t, h, hs => ⟨(h t.length (by simp)).trans hs.1, stkR_up (fun i hi => h i (by simp; omega)) hs.2⟩
def seqR (f : Nat → Int32) (sq : List Nat) : Prop := ∀ i x, sq[i]? = some x → f i = nI x
def pushL (x : Int32) (bs : List Nat) : List Nat := if x = -1 then bs else ofN x :: bs
/-- gather's state: what came, what is pending -/
def Gs (I0 I : im_I) (c : Nat) (sq bs : List Nat) : Prop := (I c 10 = nI bs.length) ∧ stkR (I (c + 7)) bs ∧ seqR (I (c + 8)) sq ∧ (∀ b, b ≠ c → b ≠ c + 7 → b ≠ c + 8 → I b = I0 b) ∧ (∀ q, q ≠ 10 → I c q = I0 c q)
theorem push_G {I0 I : im_I} {c : Nat} {sq bs : List Nat} {x : Int32} (h : Gs I0 I c sq bs) (hx : x = -1 ∨ ∃ q, q < 80 ∧ x = nI q) (hb : bs.length < 80) : Gs I0 (push_ I c x) c sq (pushL x bs) := by
  obtain ⟨h1, h2, h3, h4, h5⟩ := h
  rcases hx with e | ⟨q, hq, e⟩
  · subst e
    exact ⟨h1, h2, h3, h4, h5⟩
  · have m := nI_m1 (show q < 2 ^ 31 by omega)
    subst e
    unfold push_ pushL
    simp only [if_neg m, ofN_nI (show q < 2 ^ 31 by omega)]
    rw [h1, put80' hb, show im_up I (c + 7) bs.length (nI q) c = I c from up_fr (by omega), h1]
    refine ⟨?_, ⟨?_, ?_⟩, ?_, fun b b1 b2 b3 => ?_, fun i hi => ?_⟩
    · rw [im_up_same]
      simp only [List.length_cons, nI_succ]
    · rw [up_fr (by omega), im_up_same]
    · refine stkR_up (fun i hi => ?_) h2
      rw [up_fr (by omega), up_ne (by omega)]
    · rw [up_fr (by omega), up_fr (by omega)]; exact h3
    · rw [up_fr b1, up_fr b2]; exact h4 b b1 b2 b3
    · rw [up_ne hi, show im_up I (c + 7) bs.length (nI q) c = I c from up_fr (by omega)]; exact h5 i hi
theorem loopC3 {σ : Type} {f : Int32 → σ → σ} {I : σ} : loopC 0 3 f I = f 2 (f 1 (f 0 I)) := by
  have e : cnt 0 3 = 3 := by decide
  unfold loopC
  rw [e, loopN_s, loopN_s, loopN_s, loopN_0]
  rfl
theorem pushL_len {x : Int32} {bs : List Nat} : (pushL x bs).length ≤ bs.length + 1 := by
  unfold pushL
  split <;> simp
/-- parts as the memory tells them -/
def ptAt (I : im_I) (c : Nat) : Nat → Nat → Int32 := fun j k => I (c + 5) (3 * j + k)
theorem gatherOne_G {I0 I : im_I} {c nn b : Nat} {sq t : List Nat} (h : Gs I0 I c sq (b :: t)) (hp : ptOk (ptAt I0 c) nn) (hnn : nn ≤ 80) (hb : b < nn) (hs : sq.length < 80) (ht : (pushL (ptAt I0 c b 1) (pushL (ptAt I0 c b 0) t)).length < 80) :
    Gs I0 (gatherOne_ c (nI sq.length) I) c (sq ++ [b]) (pushL (ptAt I0 c b 2) (pushL (ptAt I0 c b 1) (pushL (ptAt I0 c b 0) t))) := by
  obtain ⟨h1, ⟨h2, h2'⟩, h3, h4, h5⟩ := h
  have e1 : I c 10 - 1 = nI t.length := by rw [h1]; simp only [List.length_cons, nI_pred]
  have tl : t.length < 80 := by
    have l0 : t.length ≤ (pushL (ptAt I0 c b 0) t).length := by unfold pushL; split <;> simp
    have l1 : (pushL (ptAt I0 c b 0) t).length ≤ (pushL (ptAt I0 c b 1) (pushL (ptAt I0 c b 0) t)).length := by
      generalize pushL (ptAt I0 c b 0) t = u
      unfold pushL; split <;> simp
    omega
  have l1 : (pushL (ptAt I0 c b 0) t).length ≤ (pushL (ptAt I0 c b 1) (pushL (ptAt I0 c b 0) t)).length := by
    generalize pushL (ptAt I0 c b 0) t = u
    unfold pushL; split <;> simp
  have hpt : ∀ k, k < 3 → (ptAt I0 c b k = -1 ∨ ∃ q, q < 80 ∧ ptAt I0 c b k = nI q) := fun k hk => by
    rcases hp b hb k hk with e | ⟨q, hq, e⟩
    · exact Or.inl e
    · exact Or.inr ⟨q, by omega, e⟩
  have hat : ∀ J : im_I, J (c + 5) = I0 (c + 5) → ∀ k, k < 3 → at_ (J (c + 5)) 240 (3 * nI b + nI k) = ptAt I0 c b k := fun J hJ k hk => by
    rw [nI_mul3, at240 (by omega), hJ]
    rfl
  unfold gatherOne_
  rw [loopC3]
  simp only [e1, im_up_same]
  have e2 : at_ (im_up I c 10 (nI t.length) (c + 7)) 80 (nI t.length) = nI b := by
    rw [at80 tl, up_fr (by omega)]; exact h2
  rw [e2, put80' hs]
  have g0 : Gs I0 (im_up (im_up I c 10 (nI t.length)) (c + 8) sq.length (nI b)) c (sq ++ [b]) t := by
    refine ⟨?_, stkR_up (fun i hi => ?_) h2', fun i x hx => ?_, fun d d1 d2 d3 => ?_, fun i hi => ?_⟩
    · rw [up_fr (by omega), im_up_same]
    · rw [up_fr (by omega), up_fr (by omega)]
    · by_cases c1 : i < sq.length
      · rw [List.getElem?_append_left c1] at hx
        rw [up_ne (by omega), up_fr (by omega)]
        exact h3 i x hx
      · rw [List.getElem?_append_right (by omega)] at hx
        have c2 : i - sq.length = 0 := by
          apply Classical.byContradiction
          intro hne
          rw [List.getElem?_eq_none (by simp; omega)] at hx
          cases hx
        rw [c2] at hx
        have hx2 : b = x := by simpa using hx
        rw [show i = sq.length by omega, im_up_same, hx2]
    · rw [up_fr d3, up_fr d1]; exact h4 d d1 d2 d3
    · rw [up_fr (by omega), up_ne hi]; exact h5 i hi
  have g1 := push_G g0 (hpt 0 (by decide)) tl
  have g2 := push_G g1 (hpt 1 (by decide)) (by omega)
  have g3 := push_G g2 (hpt 2 (by decide)) (by omega)
  have r0 := hat _ (g0.2.2.2.1 (c + 5) (by omega) (by omega) (by omega)) 0 (by decide)
  have r1 := hat _ (g1.2.2.2.1 (c + 5) (by omega) (by omega) (by omega)) 1 (by decide)
  have r2 := hat _ (g2.2.2.2.1 (c + 5) (by omega) (by omega) (by omega)) 2 (by decide)
  rw [show (nI 0) = 0 from nI_0] at r0
  rw [show nI 1 = 1 from rfl] at r1
  rw [show nI 2 = 2 from rfl] at r2
  rw [r0, r1, r2]
  exact g3
def flat (P : Nat → Nat → Int32) (bs : List Nat) : List Nat := bs.flatMap (rpO P)
theorem flat_pushL {P : Nat → Nat → Int32} {x : Int32} {bs : List Nat} : flat P (pushL x bs) = rq P x ++ flat P bs := by
  unfold pushL rq flat
  split <;> simp
theorem flat_len {P : Nat → Nat → Int32} : ∀ {bs : List Nat}, bs.length ≤ (flat P bs).length
  | [] => by simp
  | b :: t => by
    have h := flat_len (P := P) (bs := t)
    have h2 : 1 ≤ (rpO P b).length := by unfold rpO; rw [rp_s]; simp
    show t.length + 1 ≤ (rpO P b ++ flat P t).length
    rw [List.length_append]
    omega
theorem gatherN_G {I0 : im_I} {c nn : Nat} (hp : ptOk (ptAt I0 c) nn) (hnn : nn ≤ 80) : ∀ (n : Nat) (I : im_I) (sq bs : List Nat), Gs I0 I c sq bs → (∀ b ∈ bs, b < nn) → (sq ++ flat (ptAt I0 c) bs).length ≤ 80 → (flat (ptAt I0 c) bs).length < n →
    (gatherN_ c n (nI sq.length) I).1 = nI (sq ++ flat (ptAt I0 c) bs).length ∧ Gs I0 (gatherN_ c n (nI sq.length) I).2 c (sq ++ flat (ptAt I0 c) bs) [] := by
  intro n
  induction n with
  | zero => intro I sq bs _ _ _ h; omega
  | succ n ih =>
    intro I sq bs h hb h80 hn
    rw [List.length_append] at h80
    rw [gatherN_s, h.1]
    cases bs with
    | nil =>
      rw [if_pos (by rw [show (0 : Int32) = nI 0 from nI_0.symm]; exact nI_le (Nat.le_refl _) (by decide))]
      have e : sq ++ flat (ptAt I0 c) [] = sq := by simp [flat]
      rw [e]
      exact ⟨rfl, h⟩
    | cons b t =>
      have hfl : flat (ptAt I0 c) (b :: t) = rpO (ptAt I0 c) b ++ flat (ptAt I0 c) t := by simp [flat]
      have hbn : b < nn := hb b (by simp)
      have hr := rpO_s hp (by omega) hbn
      have h3 : flat (ptAt I0 c) (b :: t) = b :: flat (ptAt I0 c) (pushL (ptAt I0 c b 2) (pushL (ptAt I0 c b 1) (pushL (ptAt I0 c b 0) t))) := by
        rw [hfl, hr, flat_pushL, flat_pushL, flat_pushL]
        simp
      have h4 := flat_len (P := ptAt I0 c) (bs := pushL (ptAt I0 c b 2) (pushL (ptAt I0 c b 1) (pushL (ptAt I0 c b 0) t)))
      have h5 : (pushL (ptAt I0 c b 1) (pushL (ptAt I0 c b 0) t)).length ≤ (pushL (ptAt I0 c b 2) (pushL (ptAt I0 c b 1) (pushL (ptAt I0 c b 0) t))).length := by
        generalize pushL (ptAt I0 c b 1) (pushL (ptAt I0 c b 0) t) = u
        unfold pushL; split <;> simp
      have ht80 : (b :: t).length ≤ 80 := by
        have := flat_len (P := ptAt I0 c) (bs := b :: t)
        omega
      rw [h3] at h80 hn ⊢
      simp only [List.length_cons] at h80 hn
      rw [if_neg (by rw [show (0 : Int32) = nI 0 from nI_0.symm]; exact nI_ge (by simp) (by omega)), if_neg (by rw [show (80 : Int32) = nI 80 from rfl]; exact nI_ge (by omega) (by decide))]
      have g := gatherOne_G h hp hnn hbn (by omega) (by omega)
      have hl : (sq ++ [b]).length = sq.length + 1 := by simp
      have h6 : ∀ d ∈ pushL (ptAt I0 c b 2) (pushL (ptAt I0 c b 1) (pushL (ptAt I0 c b 0) t)), d < nn := by
        have hpl : ∀ k, k < 3 → ∀ u : List Nat, (∀ d ∈ u, d < nn) → ∀ d ∈ pushL (ptAt I0 c b k) u, d < nn := by
          intro k hk u hu d hd
          unfold pushL at hd
          split at hd
          · exact hu d hd
          · next cc =>
            rcases List.mem_cons.mp hd with e | e
            · have := ptOk_of hp (by omega) hbn hk cc
              omega
            · exact hu d e
        exact hpl 2 (by decide) _ (hpl 1 (by decide) _ (hpl 0 (by decide) _ (fun d hd => hb d (by simp [hd]))))
      have r := ih (gatherOne_ c (nI sq.length) I) (sq ++ [b]) _ g h6 (by rw [List.length_append, hl]; omega) (by omega)
      rw [hl, nI_succ] at r
      have e : sq ++ [b] ++ flat (ptAt I0 c) (pushL (ptAt I0 c b 2) (pushL (ptAt I0 c b 1) (pushL (ptAt I0 c b 0) t))) = sq ++ b :: flat (ptAt I0 c) (pushL (ptAt I0 c b 2) (pushL (ptAt I0 c b 1) (pushL (ptAt I0 c b 0) t))) := by simp
      rw [e] at r
      exact r
/-- gather: the tree of the root, in its row -/
theorem gather_G {I : im_I} {c nn q : Nat} (hp : ptOk (ptAt I c) nn) (hnn : nn ≤ 80) (hq : q < nn) (h80 : (rpO (ptAt I c) q).length ≤ 80) :
    (gather_ I c (nI q)).1 = nI (rpO (ptAt I c) q).length ∧ Gs I (gather_ I c (nI q)).2 c (rpO (ptAt I c) q) [] := by
  have g0 : Gs I (im_up I c 10 0) c [] [] := ⟨by rw [im_up_same]; exact nI_0.symm, trivial, fun i x hx => by simp at hx, fun b b1 _ _ => up_fr b1, fun i hi => up_ne hi⟩
  have g1 := push_G g0 (Or.inr ⟨q, by omega, rfl⟩) (by decide)
  have e : pushL (nI q) [] = [q] := by unfold pushL; rw [if_neg (nI_m1 (by omega)), ofN_nI (by omega)]
  rw [e] at g1
  have ef : flat (ptAt I c) [q] = rpO (ptAt I c) q := by simp [flat]
  have r := gatherN_G hp hnn 81 _ [] [q] g1 (by simp; exact hq) (by rw [ef]; simpa using h80) (by rw [ef]; omega)
  rw [ef] at r
  unfold gather_
  simpa [nI_0] using r
/-- how long, by the sizes of trees -/
theorem rpO_len {P : Nat → Nat → Int32} {nn : Nat} {sz : Nat → Nat} (hp : ptOk P nn) (h2 : nn < 1000) (hs : ∀ j, j < nn → 1 + (if P j 0 = -1 then 0 else sz (ofN (P j 0))) + (if P j 1 = -1 then 0 else sz (ofN (P j 1))) + (if P j 2 = -1 then 0 else sz (ofN (P j 2))) ≤ sz j) : ∀ (n j : Nat), j < n → j < nn → (rpO P j).length ≤ sz j := by
  intro n
  induction n with
  | zero => intro j h; omega
  | succ n ih =>
    intro j hj hjn
    have key : ∀ k, k < 3 → (rq P (P j k)).length ≤ (if P j k = -1 then 0 else sz (ofN (P j k))) := by
      intro k hk
      unfold rq
      split
      · simp
      · next c =>
        have := ptOk_of hp h2 hjn hk c
        exact ih _ (by omega) (by omega)
    rw [rpO_s hp h2 hjn]
    have k0 := key 0 (by decide)
    have k1 := key 1 (by decide)
    have k2 := key 2 (by decide)
    have := hs j hjn
    simp only [List.length_cons, List.length_append]
    omega
