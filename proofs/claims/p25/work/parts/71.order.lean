/-! PURE THEORY, ORDER: independent instructions may change places -/
abbrev rdS (x : Ins) (v : Int32) : Prop := x 2 = v ∨ x 3 = v ∨ x 4 = v
abbrev dep (x y : Ins) : Prop := rdS x (y 1) ∨ rdS y (x 1) ∨ x 1 = y 1 ∨ (x 0 = 9 ∧ y 0 = 9)
theorem isNeeding_nat {I : im_I} {r x y : Nat} (hx : x < 88) (hy : y < 88) : isNeeding_ I r (nI x) (nI y) = decide (dep (insAt I r x) (insAt I r y)) := by
  unfold isNeeding_
  rw [writtenBy_nat hx, writtenBy_nat hy, kindOf_nat hx, kindOf_nat hy, isReading_nat hx, isReading_nat hy]
  by_cases c1 : rdS (insAt I r x) (insAt I r y 1)
  · have c1' := c1
    unfold rdS at c1'
    rw [if_pos (decide_eq_true c1')]
    exact (decide_eq_true (Or.inl c1)).symm
  · have c1' := c1
    unfold rdS at c1'
    rw [if_neg (by simpa using c1')]
    by_cases c2 : rdS (insAt I r y) (insAt I r x 1)
    · have c2' := c2
      unfold rdS at c2'
      rw [if_pos (decide_eq_true c2')]
      exact (decide_eq_true (Or.inr (Or.inl c2))).symm
    · have c2' := c2
      unfold rdS at c2'
      rw [if_neg (by simpa using c2')]
      by_cases c3 : insAt I r x 1 = insAt I r y 1
      · rw [if_pos c3]
        exact (decide_eq_true (Or.inr (Or.inr (Or.inl c3)))).symm
      · rw [if_neg c3]
        by_cases c4 : insAt I r x 0 = 9
        · rw [if_neg (by simpa using c4)]
          by_cases c5 : insAt I r y 0 = 9
          · rw [decide_eq_true c5]
            exact (decide_eq_true (Or.inr (Or.inr (Or.inr ⟨c4, c5⟩)))).symm
          · rw [decide_eq_false c5]
            refine (decide_eq_false ?_).symm
            rintro (h | h | h | h)
            · exact c1 h
            · exact c2 h
            · exact c3 h
            · exact c5 h.2
        · rw [if_pos c4]
          refine (decide_eq_false ?_).symm
          rintro (h | h | h | h)
          · exact c1 h
          · exact c2 h
          · exact c3 h
          · exact c4 h.1
theorem dep_symm {x y : Ins} (h : dep x y) : dep y x := by
  rcases h with h | h | h | h
  · exact Or.inr (Or.inl h)
  · exact Or.inl h
  · exact Or.inr (Or.inr (Or.inl h.symm))
  · exact Or.inr (Or.inr (Or.inr ⟨h.2, h.1⟩))
/-- an instruction of values -/
def insOk (x : Ins) : Prop := arOk (x 0) (x 2) (x 3) (x 4) ∧ (∃ w, w < 88 ∧ x 1 = nI w) ∧ ∀ i, i < 3 → x (2 + i) = -1 ∨ ∃ y, y < 88 ∧ x (2 + i) = nI y
theorem ex_skip {x : Ins} {w : Nat} {v : Int32} {V : Env} (hx : insOk x) (hw : w < 88) (h : ¬ rdS x (nI w)) : opV (x 0) (x 5) (upd V w v (ofN (x 2))) (upd V w v (ofN (x 3))) (upd V w v (ofN (x 4))) = opV (x 0) (x 5) (V (ofN (x 2))) (V (ofN (x 3))) (V (ofN (x 4))) := by
  have key : ∀ i, i < 3 → x (2 + i) ≠ -1 → upd V w v (ofN (x (2 + i))) = V (ofN (x (2 + i))) := by
    intro i hi hne
    rcases hx.2.2 i hi with e | ⟨y, hy, e⟩
    · exact absurd e hne
    · rw [upd_at, if_neg]
      intro e2
      rw [e, ofN_nI (by omega)] at e2
      apply h
      rw [← e2, ← e]
      exact lt3 (P := fun i => rdS x (x (2 + i))) (Or.inl rfl) (Or.inr (Or.inl rfl)) (Or.inr (Or.inr rfl)) i hi
  exact opV_ar (X := fun i => upd V w v (ofN (x (2 + i)))) (Y := fun i => V (ofN (x (2 + i)))) hx.1 (key 0 (by decide)) (key 1 (by decide)) (key 2 (by decide))
theorem ex_comm {x y : Ins} {V : Env} (hx : insOk x) (hy : insOk y) (h : ¬ dep x y) : exI x (exI y V) = exI y (exI x V) := by
  obtain ⟨wx, hwx, ex⟩ := hx.2.1
  obtain ⟨wy, hwy, ey⟩ := hy.2.1
  have n1 : ¬ rdS x (nI wy) := fun e => h (Or.inl (by rw [ey]; exact e))
  have n2 : ¬ rdS y (nI wx) := fun e => h (Or.inr (Or.inl (by rw [ex]; exact e)))
  have n3 : wx ≠ wy := fun e => h (Or.inr (Or.inr (Or.inl (by rw [ex, ey, e]))))
  unfold exI
  rw [ex, ey, ofN_nI (by omega), ofN_nI (by omega), ex_skip hx hwy n1, ex_skip hy hwx n2]
  funext z
  simp only [upd_at]
  by_cases c1 : z = wx
  · subst c1
    rw [if_pos rfl, if_neg n3, if_pos rfl]
  · rw [if_neg c1, if_neg c1]
/-- instructions by a list of places -/
def exL (R : Nat → Ins) (l : List Nat) (V : Env) : Env := l.foldl (fun W j => exI (R j) W) V
theorem exL_n {R : Nat → Ins} {V : Env} : exL R [] V = V := List.foldl_nil
theorem exL_c {R : Nat → Ins} {j : Nat} {t : List Nat} {V : Env} : exL R (j :: t) V = exL R t (exI (R j) V) := List.foldl_cons ..
theorem exL_app {R : Nat → Ins} {l1 l2 : List Nat} {V : Env} : exL R (l1 ++ l2) V = exL R l2 (exL R l1 V) := List.foldl_append
theorem exR_L {R : Nat → Ins} {a : Nat} {V : Env} (n : Nat) : exR R a n V = exL R (List.range' a n) V := by
  induction n with
  | zero =>
    unfold exR
    rw [itN_0, List.range'_zero, exL_n]
  | succ n ih => rw [exR_s, ih, List.range'_concat, exL_app, exL_c, exL_n, Nat.one_mul]
/-- the best goes ahead of those that it does not need -/
theorem exL_front {R : Nat → Ins} {b : Nat} (l : List Nat) : ∀ V : Env, b ∈ l → l.Pairwise (· < ·) → (∀ j ∈ l, insOk (R j)) → (∀ i ∈ l, i < b → ¬ dep (R b) (R i)) → exL R l V = exL R (b :: l.erase b) V := by
  induction l with
  | nil => intro V h; simp at h
  | cons i t ih =>
    intro V h hs ho hd
    by_cases c : i = b
    · subst c
      rw [List.erase_cons_head]
    · have hbt : b ∈ t := by
        rcases List.mem_cons.mp h with e | e
        · exact absurd e.symm c
        · exact e
      obtain ⟨s1, s2⟩ := List.pairwise_cons.mp hs
      rw [List.erase_cons_tail (by simpa using c)]
      have e1 := ih (exI (R i) V) hbt s2 (fun j hj => ho j (List.mem_cons_of_mem _ hj)) (fun q hq hqb => hd q (List.mem_cons_of_mem _ hq) hqb)
      rw [exL_c, exL_c, exL_c, e1, exL_c]
      rw [ex_comm (ho b (List.mem_cons_of_mem _ hbt)) (ho i (List.mem_cons_self)) (hd i List.mem_cons_self (s1 b hbt))]
theorem filter_erase_len {p : Nat → Bool} {b : Nat} : ∀ {l : List Nat}, b ∈ l → ((l.erase b).filter p).length + (if p b = true then 1 else 0) = (l.filter p).length
  | [], h => by simp at h
  | i :: t, h => by
    by_cases c : i = b
    · subst c
      rw [List.erase_cons_head, List.filter_cons]
      split <;> simp
    · have hbt : b ∈ t := by
        rcases List.mem_cons.mp h with e | e
        · exact absurd e.symm c
        · exact e
      rw [List.erase_cons_tail (by simpa using c), List.filter_cons, List.filter_cons]
      have ih := filter_erase_len (p := p) hbt
      split
      · simp only [List.length_cons]; omega
      · exact ih
