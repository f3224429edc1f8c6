/-! PURE THEORY, CODE: what is made of a line, as a list -/
abbrev CI : Type := Nat → Int32
def ci (kd f s t u : Int32) : CI := fun q => match q with | 0 => kd | 1 => f | 2 => s | 3 => t | 4 => u | _ => 0
def codeAt (J : im_I) (c k : Nat) : CI := ci (J (c + 1) k) (J (c + 2) (4 * k)) (J (c + 2) (4 * k + 1)) (J (c + 2) (4 * k + 2)) (J (c + 2) (4 * k + 3))
theorem codeAt_of {J : im_I} {c k : Nat} {kd f s t u : Int32} (h0 : J (c + 1) k = kd) (h1 : J (c + 2) (4 * k) = f) (h2 : J (c + 2) (4 * k + 1) = s) (h3 : J (c + 2) (4 * k + 2) = t) (h4 : J (c + 2) (4 * k + 3) = u) : codeAt J c k = ci kd f s t u := by
  unfold codeAt
  rw [h0, h1, h2, h3, h4]
/-- instructions L added behind n -/
def CodeTo (I J : im_I) (c n : Nat) (L : List CI) : Prop :=
  (J c 0 = nI (n + L.length)) ∧ (∀ k x, L[k]? = some x → codeAt J c (n + k) = x ∧ J (c + 3) (n + k) = I c 6) ∧ (∀ k, k < n → codeAt J c k = codeAt I c k ∧ J (c + 3) k = I (c + 3) k) ∧ (∀ q, q ≠ 0 → J c q = I c q) ∧ (∀ z, z < c ∨ c + 3 < z → J z = I z)
theorem CodeTo_nil {I : im_I} {c n : Nat} (h : I c 0 = nI n) : CodeTo I I c n [] := ⟨h, fun k x hk => by simp at hk, fun k hk => ⟨rfl, rfl⟩, fun q hq => rfl, fun z hz => rfl⟩
theorem CodeTo_app {I J K : im_I} {c n : Nat} {L M : List CI} (h : CodeTo I J c n L) (g : CodeTo J K c (n + L.length) M) : CodeTo I K c n (L ++ M) := by
  obtain ⟨h1, h2, h3, h4, h5⟩ := h
  obtain ⟨g1, g2, g3, g4, g5⟩ := g
  refine ⟨?_, fun k x hk => ?_, fun k hk => ?_, fun q hq => (g4 q hq).trans (h4 q hq), fun z hz => (g5 z hz).trans (h5 z hz)⟩
  · rw [g1, List.length_append, Nat.add_assoc]
  · by_cases c1 : k < L.length
    · rw [List.getElem?_append_left c1] at hk
      obtain ⟨a1, a2⟩ := h2 k x hk
      obtain ⟨b1, b2⟩ := g3 (n + k) (by omega)
      exact ⟨b1.trans a1, b2.trans a2⟩
    · rw [List.getElem?_append_right (by omega)] at hk
      have := g2 _ x hk
      rw [show n + L.length + (k - L.length) = n + k by omega, h4 6 (by decide)] at this
      exact this
  · obtain ⟨a1, a2⟩ := h3 k hk
    obtain ⟨b1, b2⟩ := g3 k (by omega)
    exact ⟨b1.trans a1, b2.trans a2⟩
theorem codeAdd_to {I : im_I} {c n : Nat} {kd f s t u : Int32} (h : I c 0 = nI n) (hn : n < 528) : CodeTo I (codeAdd_ I c kd f s t u) c n [ci kd f s t u] := by
  have e4 : ∀ q : Nat, q < 2112 → (nI q).toNatClampNeg = q := fun q hq => nI_clamp (by omega)
  have m0 : (4 * nI n).toNatClampNeg = 4 * n := by rw [nI_mul40]; exact e4 _ (by omega)
  have m1 : (4 * nI n + 1).toNatClampNeg = 4 * n + 1 := by rw [show (1 : Int32) = nI 1 from rfl, nI_mul4]; exact e4 _ (by omega)
  have m2 : (4 * nI n + 2).toNatClampNeg = 4 * n + 2 := by rw [show (2 : Int32) = nI 2 from rfl, nI_mul4]; exact e4 _ (by omega)
  have m3 : (4 * nI n + 3).toNatClampNeg = 4 * n + 3 := by rw [show (3 : Int32) = nI 3 from rfl, nI_mul4]; exact e4 _ (by omega)
  have e : codeAdd_ I c kd f s t u = im_up (im_up (im_up (im_up (im_up (im_up (im_up I (c + 1) n kd) (c + 2) (4 * n) f) (c + 2) (4 * n + 1) s) (c + 2) (4 * n + 2) t) (c + 2) (4 * n + 3) u) (c + 3) n (I c 6)) c 0 (nI (n + 1)) := by
    unfold codeAdd_
    rw [h, if_neg (nI_pos (by omega)), if_neg (by rw [show (528 : Int32) = nI 528 by decide]; exact fun hh => hh (nI_lt hn (by decide)))]
    have w1 : ∀ (J : im_I) (q : Nat) (y : Int32), im_up J (c + 1) q y c = J c := fun J q y => up_fr (by omega)
    have w2 : ∀ (J : im_I) (q : Nat) (y : Int32), im_up J (c + 2) q y c = J c := fun J q y => up_fr (by omega)
    have w3 : ∀ (J : im_I) (q : Nat) (y : Int32), im_up J (c + 3) q y c = J c := fun J q y => up_fr (by omega)
    simp only [m0, m1, m2, m3, w1, w2, w3, h, nI_clamp (show n < 2 ^ 31 by omega), nI_succ]
  rw [e]
  have hrow : ∀ q, q < 4 * n → im_up (im_up (im_up (im_up (im_up (im_up (im_up I (c + 1) n kd) (c + 2) (4 * n) f) (c + 2) (4 * n + 1) s) (c + 2) (4 * n + 2) t) (c + 2) (4 * n + 3) u) (c + 3) n (I c 6)) c 0 (nI (n + 1)) (c + 2) q = I (c + 2) q := fun q hq => by
    rw [up_fr (by omega), up_fr (by omega), up_ne (by omega), up_ne (by omega), up_ne (by omega), up_ne (by omega), up_fr (by omega)]
  refine ⟨im_up_same, fun k x hk => ?_, fun k hk => ⟨codeAt_of ?_ ?_ ?_ ?_ ?_, ?_⟩, fun q hq => ?_, fun z hz => ?_⟩
  · have hk0 : k = 0 := by
      apply Classical.byContradiction
      intro hne
      rw [List.getElem?_eq_none (by simp; omega)] at hk
      cases hk
    subst hk0
    have hx : ci kd f s t u = x := by simpa using hk
    subst hx
    refine ⟨codeAt_of ?_ ?_ ?_ ?_ ?_, ?_⟩ <;> simp [im_up]
  · simp [im_up, show ¬ k = n by omega]
  · exact hrow _ (by omega)
  · exact hrow _ (by omega)
  · exact hrow _ (by omega)
  · exact hrow _ (by omega)
  · simp [im_up, show ¬ k = n by omega]
  · rw [up_ne hq, up_fr (by omega), up_fr (by omega), up_fr (by omega), up_fr (by omega), up_fr (by omega), up_fr (by omega)]
  · rw [up_fr (by omega), up_fr (by omega), up_fr (by omega), up_fr (by omega), up_fr (by omega), up_fr (by omega), up_fr (by omega)]
/-! the lists -/
def mvL (d x : Int32) : List CI := if d = x then [] else [ci 1 d x 0 0]
def opL (kd d x y z n : Int32) : List CI := [if kd = 5 then ci 5 d x n 0 else ci kd d x y (if kd = 6 then z else 0)]
def operL (two s kd d x y z n : Int32) : List CI :=
  if two = 0 ∨ x = d then opL kd d x y z n else if ¬ d = y ∧ ¬ d = z then mvL d x ++ opL kd d d y z n else if kd = 2 ∨ kd = 4 then opL kd d y x z n else mvL s x ++ opL kd s s y z n ++ mvL d s
def ldL (I : im_I) (h : Nat) (x d : Int32) : List CI := if at_ (I (h + 3)) 88 x = 1 then [ci 0 d (at_ (I (h + 4)) 88 x) 0 0] else [ci 7 d (at_ (I (h + 2)) 88 x) 0 0]
def brL (I : im_I) (h : Nat) (x d : Int32) : List CI := if isSpilled_ I h x = true then ldL I h x d else mvL d (registerOf_ I h x)
def feL (I : im_I) (h : Nat) (s x j : Int32) : List CI := if x = -1 then [] else if isSpilled_ I h x = false then [] else ldL I h x (s + j)
def feV (I : im_I) (h : Nat) (s x j : Int32) : Int32 := if x = -1 then registerOf_ I h x else if isSpilled_ I h x = false then registerOf_ I h x else s + j
def tailL (I : im_I) (h : Nat) (x d : Int32) : List CI := if isSpilled_ I h x = true then [ci 8 d (slotOf_ I h x) 0 0] else []
def bodyL (two s kd n d x y z : Int32) : List CI := if kd = 0 then [ci 0 d n 0 0] else if kd = 1 then mvL d x else if kd = 5 then operL two s 5 d x (-1) (-1) n else operL two s kd d x y z 0
def dstV (I : im_I) (h : Nat) (s w : Int32) : Int32 := if isSpilled_ I h w = true then s else registerOf_ I h w
def oneL (I : im_I) (h : Nat) (two s : Int32) (x : Ins) : List CI :=
  feL I h s (x 2) 0 ++ feL I h s (x 3) 1 ++ feL I h s (x 4) 2 ++ bodyL two s (x 0) (x 5) (dstV I h s (x 1)) (feV I h s (x 2) 0) (feV I h s (x 3) 1) (feV I h s (x 4) 2) ++ tailL I h (x 1) (dstV I h s (x 1))
def cmvL (I : im_I) (h : Nat) (s x y : Int32) : List CI :=
  if registerOf_ I h y = 0 ∧ registerOf_ I h x = 1 then mvL s 0 ++ mvL 0 1 ++ mvL 1 s
  else if registerOf_ I h y = 0 then mvL 1 0 ++ brL I h x 0
  else brL I h x 0 ++ brL I h y 1
def callL (I : im_I) (h : Nat) (s : Int32) (x : Ins) : List CI :=
  cmvL I h s (x 2) (x 3) ++ [ci 9 0 0 0 0] ++ (if isSpilled_ I h (x 1) = true then [ci 8 0 (slotOf_ I h (x 1)) 0 0] else mvL (registerOf_ I h (x 1)) 0)
def lineL (I : im_I) (h : Nat) (two s : Int32) (x : Ins) : List CI := if x 0 = 9 then callL I h s x else if isRemade_ I h (x 1) = true then [] else oneL I h two s x
theorem mvL_len {d x : Int32} : (mvL d x).length ≤ 1 := by unfold mvL; split <;> simp
theorem opL_len {kd d x y z n : Int32} : (opL kd d x y z n).length = 1 := rfl
theorem ldL_len {I : im_I} {h : Nat} {x d : Int32} : (ldL I h x d).length = 1 := by unfold ldL; split <;> simp
theorem brL_len {I : im_I} {h : Nat} {x d : Int32} : (brL I h x d).length ≤ 1 := by
  unfold brL
  split
  · rw [ldL_len]; exact Nat.le_refl _
  · exact mvL_len
theorem operL_len {two s kd d x y z n : Int32} : (operL two s kd d x y z n).length ≤ 3 := by
  unfold operL
  split
  · rw [opL_len]; decide
  · split
    · rw [List.length_append, opL_len]; have := mvL_len (d := d) (x := x); omega
    · split
      · rw [opL_len]; decide
      · rw [List.length_append, List.length_append, opL_len]
        have := mvL_len (d := s) (x := x)
        have := mvL_len (d := d) (x := s)
        omega
/-! the makers, as lists -/
section Mk
variable {I K : im_I} {c h m r n : Nat}
/-- what the makers of code read stays -/
def Same (I K : im_I) (c : Nat) : Prop := ∀ z, z < c ∨ c + 4 < z → K z = I z
theorem addMove_to {d x : Int32} (h0 : K c 0 = nI n) (hn : n + 1 ≤ 528) : CodeTo K (addMove_ K c d x) c n (mvL d x) := by
  unfold addMove_ mvL
  split
  · exact CodeTo_nil h0
  · exact codeAdd_to h0 (by omega)
theorem addOperation_to {kd d x y z k : Int32} (h0 : K c 0 = nI n) (hn : n + 1 ≤ 528) : CodeTo K (addOperation_ K c kd d x y z k) c n (opL kd d x y z k) := by
  unfold addOperation_ opL
  split
  · exact codeAdd_to h0 (by omega)
  · exact codeAdd_to h0 (by omega)
theorem addMove_to' {d x : Int32} (h0 : K c 0 = nI n) (hn : n + (mvL d x).length ≤ 528) : CodeTo K (addMove_ K c d x) c n (mvL d x) := by
  unfold addMove_
  unfold mvL at hn ⊢
  split
  · exact CodeTo_nil h0
  · next c1 =>
    rw [if_neg c1] at hn
    exact codeAdd_to h0 (by simp at hn; omega)
theorem operate_to {kd d x y z k : Int32} (hm : m < c ∨ c + 4 < m) (h0 : K c 0 = nI n) (hn : n + (operL (K m 4) (scratch_ K m) kd d x y z k).length ≤ 528) : CodeTo K (operate_ K c m kd d x y z k) c n (operL (K m 4) (scratch_ K m) kd d x y z k) := by
  unfold operate_
  unfold operL at hn ⊢
  by_cases c1 : K m 4 = 0 ∨ x = d
  · rw [if_pos c1] at hn ⊢
    rw [if_pos c1]
    rw [opL_len] at hn
    exact addOperation_to h0 hn
  · rw [if_neg c1] at hn ⊢
    rw [if_neg c1]
    by_cases c2 : ¬ d = y ∧ ¬ d = z
    · rw [if_pos c2] at hn ⊢
      rw [if_pos c2]
      rw [List.length_append, opL_len] at hn
      have g := addMove_to' (d := d) (x := x) h0 (show n + (mvL d x).length ≤ 528 by omega)
      exact CodeTo_app g (addOperation_to g.1 (by omega))
    · rw [if_neg c2] at hn ⊢
      rw [if_neg c2]
      by_cases c3 : kd = 2 ∨ kd = 4
      · rw [if_pos c3] at hn ⊢
        rw [if_pos c3]
        rw [opL_len] at hn
        exact addOperation_to h0 hn
      · rw [if_neg c3] at hn ⊢
        rw [if_neg c3]
        rw [List.length_append, List.length_append, opL_len] at hn
        have g := addMove_to' (d := scratch_ K m) (x := x) h0 (show n + (mvL (scratch_ K m) x).length ≤ 528 by omega)
        have g2 := addOperation_to (kd := kd) (d := scratch_ K m) (x := scratch_ K m) (y := y) (z := z) (k := k) g.1 (by omega)
        have g3 := CodeTo_app g g2
        refine CodeTo_app g3 (addMove_to' g3.1 ?_)
        rw [List.length_append, opL_len]
        omega
theorem addLoad_to {x d : Int32} (hh : h + 5 < c ∨ c + 4 < h) (h0 : K c 0 = nI n) (hn : n + 1 ≤ 528) : CodeTo K (addLoad_ K c h x d) c n (ldL K h x d) := by
  unfold addLoad_ ldL
  split
  · exact codeAdd_to h0 (by omega)
  · exact codeAdd_to h0 (by omega)
theorem bring_to {x d : Int32} (hh : h + 5 < c ∨ c + 4 < h) (h0 : K c 0 = nI n) (hn : n + 1 ≤ 528) : CodeTo K (bring_ K c h x d) c n (brL K h x d) := by
  unfold bring_ brL
  split
  · exact addLoad_to hh h0 hn
  · exact addMove_to h0 hn
/-- lists are the same in memories that are alike -/
theorem ldL_same {x d : Int32} (hh : h + 5 < c ∨ c + 4 < h) (hs : Same I K c) : ldL K h x d = ldL I h x d := by
  unfold ldL
  rw [hs (h + 2) (by omega), hs (h + 3) (by omega), hs (h + 4) (by omega)]
theorem isSp_same {x : Int32} (hh : h + 5 < c ∨ c + 4 < h) (hs : Same I K c) : isSpilled_ K h x = isSpilled_ I h x := by unfold isSpilled_; rw [hs (h + 1) (by omega)]
theorem reg_same {x : Int32} (hh : h + 5 < c ∨ c + 4 < h) (hs : Same I K c) : registerOf_ K h x = registerOf_ I h x := by unfold registerOf_; rw [hs (h + 1) (by omega)]
theorem slot_same {x : Int32} (hh : h + 5 < c ∨ c + 4 < h) (hs : Same I K c) : slotOf_ K h x = slotOf_ I h x := by unfold slotOf_; rw [hs (h + 2) (by omega)]
theorem brL_same {x d : Int32} (hh : h + 5 < c ∨ c + 4 < h) (hs : Same I K c) : brL K h x d = brL I h x d := by
  unfold brL
  rw [ldL_same hh hs, isSp_same hh hs, reg_same hh hs]
theorem scr_same (hm : m < c ∨ c + 4 < m) (hs : Same I K c) : scratch_ K m = scratch_ I m := by unfold scratch_; rw [hs m hm]
theorem Same_to {J : im_I} {L : List CI} (hs : Same I K c) (h : CodeTo K J c n L) : Same I J c := fun z hz => (h.2.2.2.2 z (by omega)).trans (hs z hz)
theorem callMoves_to {x y : Int32} (hh : h + 5 < c ∨ c + 4 < h) (hm : m < c ∨ c + 4 < m) (h0 : K c 0 = nI n) (hn : n + 3 ≤ 528) : CodeTo K (callMoves_ K c m h x y) c n (cmvL K h (scratch_ K m) x y) := by
  have hs : Same K K c := fun z _ => rfl
  unfold callMoves_ cmvL
  split
  · have g1 := addMove_to (d := scratch_ K m) (x := 0) h0 (show n + 1 ≤ 528 by omega)
    have l1 := mvL_len (d := scratch_ K m) (x := 0)
    have g2 := CodeTo_app g1 (addMove_to (d := 0) (x := 1) g1.1 (by omega))
    have l2 := mvL_len (d := 0) (x := 1)
    have g3 := CodeTo_app g2 (addMove_to (d := 1) (x := scratch_ K m) g2.1 (by rw [List.length_append]; omega))
    simp only
    rw [scr_same hm (Same_to hs g2)]
    exact g3
  · split
    · have g1 := addMove_to (d := 1) (x := 0) h0 (show n + 1 ≤ 528 by omega)
      have l1 := mvL_len (d := 1) (x := 0)
      have g2 := CodeTo_app g1 (bring_to (h := h) (x := x) (d := 0) hh g1.1 (by omega))
      rw [brL_same hh (Same_to hs g1)] at g2
      exact g2
    · have g1 := bring_to (h := h) (x := x) (d := 0) hh h0 (show n + 1 ≤ 528 by omega)
      have l1 := brL_len (I := K) (h := h) (x := x) (d := 0)
      have g2 := CodeTo_app g1 (bring_to (h := h) (x := y) (d := 1) hh g1.1 (by omega))
      rw [brL_same hh (Same_to hs g1)] at g2
      exact g2
theorem cmvL_len {s x y : Int32} : (cmvL I h s x y).length ≤ 3 := by
  unfold cmvL
  split
  · have := mvL_len (d := s) (x := 0)
    have := mvL_len (d := 0) (x := 1)
    have := mvL_len (d := 1) (x := s)
    simp only [List.length_append]; omega
  · split
    · have := mvL_len (d := 1) (x := 0)
      have := brL_len (I := I) (h := h) (x := x) (d := 0)
      simp only [List.length_append]; omega
    · have := brL_len (I := I) (h := h) (x := x) (d := 0)
      have := brL_len (I := I) (h := h) (x := y) (d := 1)
      simp only [List.length_append]; omega
/-- reading the line at the point in hand -/
def Here (I K : im_I) (c r p : Nat) : Prop := K c 6 = nI p ∧ p < 88 ∧ Same I K c
theorem Here_to {J : im_I} {L : List CI} {p : Nat} (hs : Here I K c r p) (h : CodeTo K J c n L) : Here I J c r p := ⟨(h.2.2.2.1 6 (by decide)).trans hs.1, hs.2.1, Same_to hs.2.2 h⟩
theorem Here_ins {p : Nat} (hr : r + 6 < c ∨ c + 4 < r) (hs : Here I K c r p) : insAt K r p = insAt I r p := insAt_fr fun z z1 z2 => hs.2.2 z (by omega)
theorem makeCall_to {p : Nat} (hs : Here I K c r p) (hr : r + 6 < c ∨ c + 4 < r) (hh : h + 5 < c ∨ c + 4 < h) (hm : m < c ∨ c + 4 < m) (h0 : K c 0 = nI n) (hn : n + 6 ≤ 528) : CodeTo K (makeCall_ K c m r h) c n (callL I h (scratch_ I m) (insAt I r p)) := by
  obtain ⟨e6, p88, hsame⟩ := id hs
  have ei := Here_ins hr hs
  unfold makeCall_
  simp only [e6, writtenBy_nat p88, readBy_0 p88, readBy_1 p88, ei]
  have g1 := callMoves_to (h := h) (m := m) (x := insAt I r p 2) (y := insAt I r p 3) hh hm h0 (by omega)
  have l1 := cmvL_len (I := K) (h := h) (s := scratch_ K m) (x := insAt I r p 2) (y := insAt I r p 3)
  have g2 := CodeTo_app g1 (codeAdd_to (kd := 9) (f := 0) (s := 0) (t := 0) (u := 0) g1.1 (by omega))
  have es : cmvL K h (scratch_ K m) (insAt I r p 2) (insAt I r p 3) = cmvL I h (scratch_ I m) (insAt I r p 2) (insAt I r p 3) := by
    unfold cmvL
    rw [reg_same hh hsame, reg_same hh hsame, brL_same hh hsame, brL_same hh hsame, scr_same hm hsame]
  have hs2 := Same_to hsame g2
  rw [isSp_same hh hs2, slot_same hh hs2, reg_same hh hs2]
  unfold callL
  rw [← es]
  split
  · refine CodeTo_app g2 (codeAdd_to g2.1 ?_)
    simp only [List.length_append, List.length_cons, List.length_nil]; omega
  · refine CodeTo_app g2 (addMove_to g2.1 ?_)
    simp only [List.length_append, List.length_cons, List.length_nil]; omega
theorem feL_len {s x j : Int32} : (feL I h s x j).length ≤ 1 := by
  unfold feL
  split
  · simp
  · split
    · simp
    · rw [ldL_len]; exact Nat.le_refl _
theorem fetch_to {p : Nat} {j : Int32} {x : Int32} (hs : Here I K c r p) (hr : r + 6 < c ∨ c + 4 < r) (hh : h + 5 < c ∨ c + 4 < h) (hm : m < c ∨ c + 4 < m) (hx : readBy_ K r (nI p) j = x) (h0 : K c 0 = nI n) (hn : n + (feL I h (scratch_ I m) x j).length ≤ 528) : CodeTo K (fetch_ K c m r h j) c n (feL I h (scratch_ I m) x j) ∧ fetchV_ K c m r h j = feV I h (scratch_ I m) x j := by
  obtain ⟨e6, p88, hsame⟩ := hs
  unfold fetch_ fetchV_ feV
  unfold feL at hn ⊢
  simp only [e6, hx, isSp_same hh hsame, reg_same hh hsame, scr_same hm hsame]
  by_cases c1 : x = -1
  · rw [if_pos c1, if_pos c1, if_pos c1, if_pos c1]; exact ⟨CodeTo_nil h0, rfl⟩
  · rw [if_neg c1] at hn
    rw [if_neg c1, if_neg c1, if_neg c1, if_neg c1]
    by_cases c2 : isSpilled_ I h x = false
    · rw [if_pos c2, if_pos c2, if_pos c2, if_pos c2]; exact ⟨CodeTo_nil h0, rfl⟩
    · rw [if_neg c2] at hn
      have hl : (ldL I h x (scratch_ I m + j)).length = 1 := by unfold ldL; split <;> rfl
      rw [hl] at hn
      rw [if_neg c2, if_neg c2, if_neg c2, if_neg c2]
      have g := addLoad_to (h := h) (x := x) (d := scratch_ I m + j) hh h0 hn
      rw [ldL_same hh hsame] at g
      exact ⟨g, by rw [scr_same hm (Same_to hsame g)]⟩
theorem bodyL_len {two s kd k d x y z : Int32} : (bodyL two s kd k d x y z).length ≤ 3 := by
  unfold bodyL
  split
  · simp
  · split
    · have := mvL_len (d := d) (x := x); omega
    · split
      · exact operL_len
      · exact operL_len
theorem makeOne_to {p : Nat} (hs : Here I K c r p) (hr : r + 6 < c ∨ c + 4 < r) (hh : h + 5 < c ∨ c + 4 < h) (hm : m < c ∨ c + 4 < m) (h0 : K c 0 = nI n) (hn : n + (oneL I h (I m 4) (scratch_ I m) (insAt I r p)).length ≤ 528) : CodeTo K (makeOne_ K c m r h) c n (oneL I h (I m 4) (scratch_ I m) (insAt I r p)) := by
  have hn' := hn
  unfold oneL at hn'
  simp only [List.length_append] at hn'
  have e6 := hs.1
  have p88 := hs.2.1
  have ei := Here_ins hr hs
  have rd : ∀ J : im_I, Here I J c r p → insAt J r p = insAt I r p := fun J hJ => Here_ins hr hJ
  unfold makeOne_
  simp only [e6, writtenBy_nat p88, ei]
  obtain ⟨g1, v1⟩ := fetch_to (h := h) (m := m) (j := 0) (x := insAt I r p 2) hs hr hh hm (by rw [readBy_0 p88, ei]) h0 (by omega)
  have l1 := feL_len (I := I) (h := h) (s := scratch_ I m) (x := insAt I r p 2) (j := 0)
  have s1 := Here_to hs g1
  generalize fetch_ K c m r h 0 = K1 at g1 s1 ⊢
  obtain ⟨g2, v2⟩ := fetch_to (h := h) (m := m) (j := 1) (x := insAt I r p 3) s1 hr hh hm (by rw [readBy_1 p88, rd K1 s1]) g1.1 (by omega)
  have l2 := feL_len (I := I) (h := h) (s := scratch_ I m) (x := insAt I r p 3) (j := 1)
  have s2 := Here_to s1 g2
  have g12 := CodeTo_app g1 g2
  generalize fetch_ K1 c m r h 1 = K2 at g2 g12 s2 ⊢
  obtain ⟨g3, v3⟩ := fetch_to (h := h) (m := m) (j := 2) (x := insAt I r p 4) s2 hr hh hm (by rw [readBy_2 p88, rd K2 s2]) g12.1 (by rw [List.length_append]; omega)
  have l3 := feL_len (I := I) (h := h) (s := scratch_ I m) (x := insAt I r p 4) (j := 2)
  have s3 := Here_to s2 g3
  have g123 := CodeTo_app g12 g3
  generalize fetch_ K2 c m r h 2 = K3 at g3 g123 s3 ⊢
  rw [v1, v2, v3]
  have ed : (if isSpilled_ K3 h (insAt I r p 1) = true then scratch_ K3 m else registerOf_ K3 h (insAt I r p 1)) = dstV I h (scratch_ I m) (insAt I r p 1) := by
    unfold dstV
    rw [isSp_same hh s3.2.2, reg_same hh s3.2.2, scr_same hm s3.2.2]
  rw [ed]
  have hb : CodeTo K3 (makeBody_ K3 c m r (dstV I h (scratch_ I m) (insAt I r p 1)) (feV I h (scratch_ I m) (insAt I r p 2) 0) (feV I h (scratch_ I m) (insAt I r p 3) 1) (feV I h (scratch_ I m) (insAt I r p 4) 2)) c (n + (feL I h (scratch_ I m) (insAt I r p 2) 0 ++ feL I h (scratch_ I m) (insAt I r p 3) 1 ++ feL I h (scratch_ I m) (insAt I r p 4) 2).length)
      (bodyL (I m 4) (scratch_ I m) (insAt I r p 0) (insAt I r p 5) (dstV I h (scratch_ I m) (insAt I r p 1)) (feV I h (scratch_ I m) (insAt I r p 2) 0) (feV I h (scratch_ I m) (insAt I r p 3) 1) (feV I h (scratch_ I m) (insAt I r p 4) 2)) := by
    have hop : ∀ kd d x y z k : Int32, operL (K3 m 4) (scratch_ K3 m) kd d x y z k = operL (I m 4) (scratch_ I m) kd d x y z k := fun kd d x y z k => by rw [s3.2.2 m hm, scr_same hm s3.2.2]
    have hlen : n + (feL I h (scratch_ I m) (insAt I r p 2) 0 ++ feL I h (scratch_ I m) (insAt I r p 3) 1 ++ feL I h (scratch_ I m) (insAt I r p 4) 2).length + (bodyL (I m 4) (scratch_ I m) (insAt I r p 0) (insAt I r p 5) (dstV I h (scratch_ I m) (insAt I r p 1)) (feV I h (scratch_ I m) (insAt I r p 2) 0) (feV I h (scratch_ I m) (insAt I r p 3) 1) (feV I h (scratch_ I m) (insAt I r p 4) 2)).length ≤ 528 := by
      simp only [List.length_append]; omega
    unfold makeBody_
    unfold bodyL at hlen ⊢
    simp only [s3.1, kindOf_nat p88, numberOf_nat p88, rd K3 s3]
    by_cases c0 : insAt I r p 0 = 0
    · rw [if_pos c0] at hlen
      rw [if_pos c0, if_pos c0]
      exact codeAdd_to g123.1 (by simp only [List.length_cons, List.length_nil] at hlen; omega)
    · rw [if_neg c0] at hlen
      rw [if_neg c0, if_neg c0]
      by_cases c1 : insAt I r p 0 = 1
      · rw [if_pos c1] at hlen
        rw [if_pos c1, if_pos c1]
        exact addMove_to' g123.1 hlen
      · rw [if_neg c1] at hlen
        rw [if_neg c1, if_neg c1]
        by_cases c5 : insAt I r p 0 = 5
        · rw [if_pos c5] at hlen
          rw [if_pos c5, if_pos c5, ← hop]
          rw [← hop] at hlen
          exact operate_to hm g123.1 hlen
        · rw [if_neg c5] at hlen
          rw [if_neg c5, if_neg c5, ← hop]
          rw [← hop] at hlen
          exact operate_to hm g123.1 hlen
  have s4 := Here_to s3 hb
  have g4 := CodeTo_app g123 hb
  generalize makeBody_ K3 c m r _ _ _ _ = K4 at hb s4 g4 ⊢
  unfold makeTail_ oneL
  unfold tailL at hn' ⊢
  rw [isSp_same hh s4.2.2, slot_same hh s4.2.2]
  by_cases c1 : isSpilled_ I h (insAt I r p 1) = true
  · rw [if_pos c1] at hn'
    rw [if_pos c1, if_pos c1]
    refine CodeTo_app g4 (codeAdd_to g4.1 ?_)
    simp only [List.length_append, List.length_cons, List.length_nil] at hn' ⊢
    omega
  · rw [if_neg c1, if_neg c1, List.append_nil]; exact g4
end Mk
