/-! PURE THEORY, CODE: how much of it there is, and where -/
theorem mvL_same {d : Int32} : mvL d d = [] := if_pos rfl
theorem operL_x {two s kd d y z n : Int32} : (operL two s kd d d y z n).length = 1 := by
  unfold operL
  rw [if_pos (Or.inr rfl), opL_len]
theorem operL_s {two s kd d x y z n : Int32} (h : d = s ∨ x = s) : (operL two s kd d x y z n).length ≤ 2 := by
  unfold operL
  split
  · rw [opL_len]; decide
  · split
    · rw [List.length_append, opL_len]; have := mvL_len (d := d) (x := x); omega
    · split
      · rw [opL_len]; decide
      · rw [List.length_append, List.length_append, opL_len]
        rcases h with h | h
        · subst h
          rw [mvL_same]
          have := mvL_len (d := d) (x := x)
          simp only [List.length_nil]; omega
        · subst h
          rw [mvL_same]
          have := mvL_len (d := d) (x := x)
          simp only [List.length_nil]; omega
section Len
variable {I : im_I} {h : Nat} {two s : Int32}
theorem feL_m1 {j : Int32} : feL I h s (-1) j = [] := if_pos rfl
theorem feL_1 {x j : Int32} (hl : (feL I h s x j).length ≠ 0) : feV I h s x j = s + j := by
  unfold feL at hl
  unfold feV
  by_cases c1 : x = -1
  · rw [if_pos c1] at hl; exact absurd rfl hl
  · rw [if_neg c1] at hl ⊢
    by_cases c2 : isSpilled_ I h x = false
    · rw [if_pos c2] at hl; exact absurd rfl hl
    · rw [if_neg c2]
theorem tailL_1 {w : Int32} (hl : (tailL I h w (dstV I h s w)).length ≠ 0) : dstV I h s w = s := by
  unfold tailL at hl
  unfold dstV
  by_cases c : isSpilled_ I h w = true
  · rw [if_pos c]
  · rw [if_neg c] at hl; exact absurd rfl hl
theorem tailL_len {w d : Int32} : (tailL I h w d).length ≤ 1 := by unfold tailL; split <;> simp
theorem mid_len {kd k x y z w : Int32} : (feL I h s x 0).length + (operL two s kd (dstV I h s w) (feV I h s x 0) y z k).length + (tailL I h w (dstV I h s w)).length ≤ 3 := by
  have l0 := feL_len (I := I) (h := h) (s := s) (x := x) (j := 0)
  have l1 := tailL_len (I := I) (h := h) (w := w) (d := dstV I h s w)
  have l3 := operL_len (two := two) (s := s) (kd := kd) (d := dstV I h s w) (x := feV I h s x 0) (y := y) (z := z) (n := k)
  by_cases c0 : (feL I h s x 0).length = 0
  · by_cases c1 : (tailL I h w (dstV I h s w)).length = 0
    · omega
    · have := operL_s (two := two) (kd := kd) (x := feV I h s x 0) (y := y) (z := z) (n := k) (Or.inl (tailL_1 c1))
      omega
  · have e0 := feL_1 c0
    rw [Int32.add_zero] at e0
    by_cases c1 : (tailL I h w (dstV I h s w)).length = 0
    · have := operL_s (two := two) (kd := kd) (d := dstV I h s w) (y := y) (z := z) (n := k) (Or.inr e0)
      omega
    · have e1 := tailL_1 c1
      have hx : (operL two s kd (dstV I h s w) (feV I h s x 0) y z k).length = 1 := by
        rw [e0, e1]
        exact operL_x
      omega
theorem lineL_len {x : Ins} (ha : arOk (x 0) (x 2) (x 3) (x 4)) : (lineL I h two s x).length ≤ 6 ∧ (lineL I h two s x).length ≤ 2 * wt x := by
  unfold lineL
  split
  · next c =>
    have l1 := cmvL_len (I := I) (h := h) (s := s) (x := x 2) (y := x 3)
    have l2 : (if isSpilled_ I h (x 1) = true then [ci 8 0 (slotOf_ I h (x 1)) 0 0] else mvL (registerOf_ I h (x 1)) 0).length ≤ 1 := by
      split
      · simp
      · exact mvL_len
    have hw : wt x = 3 := by
      rcases ha with ⟨e, -⟩ | ⟨e, -⟩ | ⟨-, a, b, d⟩ | ⟨e, -⟩ | ⟨e, -⟩
      · rw [c] at e; exact absurd e (by decide)
      · rw [c] at e; exact absurd e (by decide)
      · unfold wt nrd
        rw [if_neg a, if_neg b, if_pos d]
      · rw [c] at e; exact absurd e (by decide)
      · rw [c] at e; exact absurd e (by decide)
    have : (callL I h s x).length ≤ 5 := by
      unfold callL
      simp only [List.length_append, List.length_cons, List.length_nil]
      omega
    omega
  · next c =>
    split
    · simp
    · have l1 := feL_len (I := I) (h := h) (s := s) (x := x 3) (j := 1)
      have l2 := feL_len (I := I) (h := h) (s := s) (x := x 4) (j := 2)
      have l0 := feL_len (I := I) (h := h) (s := s) (x := x 2) (j := 0)
      have lt := tailL_len (I := I) (h := h) (w := x 1) (d := dstV I h s (x 1))
      unfold oneL
      simp only [List.length_append]
      rcases ha with ⟨e, a, b, d⟩ | ⟨e, a, b, d⟩ | ⟨e, a, b, d⟩ | ⟨e, a, b, d⟩ | ⟨e, a, b, d⟩
      · have hb : (bodyL two s (x 0) (x 5) (dstV I h s (x 1)) (feV I h s (x 2) 0) (feV I h s (x 3) 1) (feV I h s (x 4) 2)).length = 1 := by unfold bodyL; rw [if_pos e]; rfl
        have hw : wt x = 1 := by unfold wt nrd; rw [if_pos a, if_pos b, if_pos d]
        rw [hb, hw, a, b, d, feL_m1, feL_m1, feL_m1]
        simp only [List.length_nil]
        omega
      · have hb : (bodyL two s (x 0) (x 5) (dstV I h s (x 1)) (feV I h s (x 2) 0) (feV I h s (x 3) 1) (feV I h s (x 4) 2)).length ≤ 1 := by unfold bodyL; rw [if_neg (by rw [e]; decide), if_pos e]; exact mvL_len
        have hw : wt x = 2 := by unfold wt nrd; rw [if_neg a, if_pos b, if_pos d]
        have e3 : (feL I h s (x 3) 1).length = 0 := by rw [b, feL_m1]; rfl
        have e4 : (feL I h s (x 4) 2).length = 0 := by rw [d, feL_m1]; rfl
        omega
      · have hk : ¬ x 0 = 0 ∧ ¬ x 0 = 1 ∧ ¬ x 0 = 5 := by rcases e with e | e | e | e <;> rw [e] <;> decide
        have hb := mid_len (I := I) (h := h) (two := two) (s := s) (kd := x 0) (k := 0) (x := x 2) (y := feV I h s (x 3) 1) (z := feV I h s (x 4) 2) (w := x 1)
        have hw : wt x = 3 := by unfold wt nrd; rw [if_neg a, if_neg b, if_pos d]
        have e4 : (feL I h s (x 4) 2).length = 0 := by rw [d, feL_m1]; rfl
        unfold bodyL
        rw [if_neg hk.1, if_neg hk.2.1, if_neg hk.2.2]
        omega
      · have hb := mid_len (I := I) (h := h) (two := two) (s := s) (kd := 5) (k := x 5) (x := x 2) (y := -1) (z := -1) (w := x 1)
        have hw : wt x = 2 := by unfold wt nrd; rw [if_neg a, if_pos b, if_pos d]
        have e3 : (feL I h s (x 3) 1).length = 0 := by rw [b, feL_m1]; rfl
        have e4 : (feL I h s (x 4) 2).length = 0 := by rw [d, feL_m1]; rfl
        unfold bodyL
        rw [if_neg (by rw [e]; decide), if_neg (by rw [e]; decide), if_pos e]
        omega
      · have hb := mid_len (I := I) (h := h) (two := two) (s := s) (kd := x 0) (k := 0) (x := x 2) (y := feV I h s (x 3) 1) (z := feV I h s (x 4) 2) (w := x 1)
        have hw : wt x = 4 := by unfold wt nrd; rw [if_neg a, if_neg b, if_neg d]
        unfold bodyL
        rw [if_neg (by rw [e]; decide), if_neg (by rw [e]; decide), if_neg (by rw [e]; decide)]
        omega
end Len
/-- the code of line p -/
def LL (I : im_I) (h m r p : Nat) : List CI := lineL I h (I m 4) (scratch_ I m) (insAt I r p)
/-- where it begins -/
def cs (I : im_I) (h m r p : Nat) : Nat := sumTo (fun q => (LL I h m r q).length) p
def MkI (I J : im_I) (c h m r p : Nat) : Prop :=
  (J c 0 = nI (cs I h m r p)) ∧ (∀ q k x, q < p → (LL I h m r q)[k]? = some x → codeAt J c (cs I h m r q + k) = x ∧ J (c + 3) (cs I h m r q + k) = nI q) ∧ (∀ q, q < p → J (c + 4) q = nI (cs I h m r q)) ∧ Same I J c
theorem cs_le {I : im_I} {h m r p : Nat} (ha : ∀ q, q < p → arOk (insAt I r q 0) (insAt I r q 2) (insAt I r q 3) (insAt I r q 4)) : cs I h m r p ≤ 6 * p := by
  induction p with
  | zero => exact Nat.le_refl _
  | succ p ih =>
    have h1 := ih (fun q hq => ha q (by omega))
    have h2 := (lineL_len (I := I) (h := h) (two := I m 4) (s := scratch_ I m) (ha p (by omega))).1
    show cs I h m r p + (LL I h m r p).length ≤ _
    have : (LL I h m r p).length ≤ 6 := h2
    omega
theorem cs_mono {I : im_I} {h m r : Nat} {p q : Nat} (hpq : p ≤ q) : cs I h m r p ≤ cs I h m r q := sumTo_mono hpq
theorem MkI_step {I J : im_I} {c h m r p : Nat} (H : MkI I J c h m r p) (hp : p < 88) (hr : r + 6 < c ∨ c + 4 < r) (hh : h + 5 < c ∨ c + 4 < h) (hm : m < c ∨ c + 4 < m) (ha : ∀ q, q < 88 → q < p + 1 → arOk (insAt I r q 0) (insAt I r q 2) (insAt I r q 3) (insAt I r q 4)) : MkI I (makeStep_ c m r h (nI p) J) c h m r (p + 1) := by
  obtain ⟨H1, H2, H3, H4⟩ := H
  have hle : cs I h m r p ≤ 6 * p := cs_le (fun q hq => ha q (by omega) (by omega))
  have e1 : make1_ c (nI p) J = im_up (im_up J c 6 (nI p)) (c + 4) p (nI (cs I h m r p)) := by
    unfold make1_
    simp only [im_up_same]
    rw [put_nat (by omega) (by decide), up_ne (by decide), H1]
  have hS1 : Same I (make1_ c (nI p) J) c := fun z hz => by rw [e1, up_fr (by omega), up_fr (by omega)]; exact H4 z hz
  have hHere : Here I (make1_ c (nI p) J) c r p := ⟨by rw [e1, up_fr (by omega), im_up_same], hp, hS1⟩
  have h10 : make1_ c (nI p) J c 0 = nI (cs I h m r p) := by rw [e1, up_fr (by omega), up_ne (by decide)]; exact H1
  have hc : ∀ k, codeAt (make1_ c (nI p) J) c k = codeAt J c k := fun k => by
    unfold codeAt
    rw [e1, up_fr (show c + 1 ≠ c + 4 by omega), up_fr (show c + 1 ≠ c by omega), up_fr (show c + 2 ≠ c + 4 by omega), up_fr (show c + 2 ≠ c by omega)]
  have hc3 : make1_ c (nI p) J (c + 3) = J (c + 3) := by rw [e1, up_fr (by omega), up_fr (by omega)]
  have hc4 : ∀ q, make1_ c (nI p) J (c + 4) q = if q = p then nI (cs I h m r p) else J (c + 4) q := fun q => by rw [e1, up_row, up_fr (by omega)]
  have key : CodeTo (make1_ c (nI p) J) (makeStep_ c m r h (nI p) J) c (cs I h m r p) (LL I h m r p) := by
    unfold makeStep_ LL lineL
    simp only [hHere.1, kindOf_nat hp, writtenBy_nat hp, Here_ins hr hHere]
    have er : isRemade_ (make1_ c (nI p) J) h (insAt I r p 1) = isRemade_ I h (insAt I r p 1) := by unfold isRemade_; rw [hS1 (h + 3) (by omega)]
    rw [er]
    split
    · exact makeCall_to hHere hr hh hm h10 (by omega)
    · split
      · exact CodeTo_nil h10
      · next c1 c2 =>
        refine makeOne_to hHere hr hh hm h10 ?_
        have hl := (lineL_len (I := I) (h := h) (two := I m 4) (s := scratch_ I m) (ha p hp (by omega))).1
        unfold lineL at hl
        rw [if_neg c1, if_neg c2] at hl
        omega
  obtain ⟨k1, k2, k3, k4, k5⟩ := key
  refine ⟨k1, fun q k x hq hk => ?_, fun q hq => ?_, fun z hz => (k5 z (by omega)).trans (hS1 z hz)⟩
  · by_cases d : q = p
    · subst d
      obtain ⟨y1, y2⟩ := k2 k x hk
      exact ⟨y1, y2.trans hHere.1⟩
    · have hlt : cs I h m r q + k < cs I h m r p := by
        have h1 : cs I h m r (q + 1) ≤ cs I h m r p := cs_mono (by omega)
        have h2 : cs I h m r (q + 1) = cs I h m r q + (LL I h m r q).length := rfl
        have h3 : k < (LL I h m r q).length := by
          apply Nat.lt_of_not_le
          intro hle
          rw [List.getElem?_eq_none hle] at hk
          cases hk
        omega
      obtain ⟨y1, y2⟩ := k3 _ hlt
      obtain ⟨z1, z2⟩ := H2 q k x (by omega) hk
      exact ⟨y1.trans ((hc _).trans z1), y2.trans ((congrFun hc3 _).trans z2)⟩
  · rw [k5 (c + 4) (by omega), hc4]
    by_cases d : q = p
    · rw [if_pos d, d]
    · rw [if_neg d]; exact H3 q (by omega)
