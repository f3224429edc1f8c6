/-! CELLS MADE: the address told -/
def im_alS (S : im_S) (b t n : Nat) : im_S := ((im_n S + 1, im_z S + n), (fun x => if x = b then (t, n) else S.2.1 x), fun x i => if x = b then 0 else S.2.2 x i)
def im_alI (I : im_I) (b : Nat) : im_I := fun x i => if x = b then 0 else I x i
theorem kk_new {S : im_S} {b t n : Nat} (hb : im_n S + 2 = b) : im_k (im_alS S b t n) b = (t, n) := by
  subst hb
  exact im_k_new.trans (if_pos rfl)
theorem kk_al {S : im_S} {b t n x : Nat} {v : Nat × Nat} (hb : im_n S + 2 = b) (h : im_k S x = v) (hv : v.1 < 99) : im_k (im_alS S b t n) x = v := by
  subst hb
  obtain ⟨i, rfl, hi⟩ := im_k_lt (t := v.1) (n := v.2) h hv
  exact (im_k_new.trans (if_neg (by omega))).trans h
theorem rr_al {S : im_S} {b t n x j v : Nat} (hx : x ≠ b) (h : im_r S x j = v) : im_r (im_alS S b t n) x j = v := (if_neg hx).trans h
theorem rr_upr {S : im_S} {a i y x j v : Nat} (hx : ¬ (x = a ∧ j = i)) (h : im_r S x j = v) : im_r (im_upr S a i y) x j = v := (im_r_upr.trans (if_neg hx)).trans h
theorem rr_new {S : im_S} {a j y : Nat} : im_r (im_upr S a j y) a j = y := im_r_upr.trans (if_pos ⟨rfl, rfl⟩)
section R4
variable {X : im_X} {k : im_K} {Y : im_Y} {d : Nat} {Q : State → Prop} {pc : Nat} {L : List (Option Value)} {st : List Value} {S : im_S} {I : im_I}
theorem r_new2 (hX : im_Ok X k Y d) {ix t : Nat} (b N : Nat) (hb : im_n S + 2 = b) (hN : im_N t = N) (hd : decode Y.2.1 pc = .ok (.new ix, 3)) (hw : t < 13 ∧ Cond.classLink Y.1.cls ix (im_C t) ∈ im_W ∧ Cond.instantiable (im_C t) (im_N t) ∈ im_W ∧ Cond.initialized (im_C t) ∈ im_W) (hr : im_n S + 1 - xn X ≤ (xR X).cells ∧ im_z S + N - xz X ≤ (xR X).slots)
    (h : im_E X k Q (pc + 3) L (.ref b :: st) (im_alS S b t N) (im_alI I b)) : im_E X k Q pc L st S I := by
  subst hb hN
  exact r_new hX hd hw hr h
theorem r_newa2 (hX : im_Ok X k Y d) {n : Int32} (b N : Nat) (hb : im_n S + 2 = b) (hd : decode Y.2.1 pc = .ok (.newarray .int, 2)) (hn : ¬ n < 0) (hN : n.toNatClampNeg = N) (hb4 : N * 4 ≤ 536870912) (hr : im_n S + 1 - xn X ≤ (xR X).cells ∧ im_z S + N - xz X ≤ (xR X).slots)
    (h : im_E X k Q (pc + 2) L (.ref b :: st) (im_alS S b 20 N) (im_alI I b)) : im_E X k Q pc L (.int n :: st) S I := by
  subst hb
  exact r_newa hX hd w_ints hn hN hb4 hr h
theorem r_anew2 (hX : im_Ok X k Y d) {ix : Nat} {n : Int32} (b N : Nat) (hb : im_n S + 2 = b) (hd : decode Y.2.1 pc = .ok (.anewarray ix, 3)) (hw : Cond.classLink Y.1.cls ix "[I" ∈ im_W) (hn : ¬ n < 0) (hN : n.toNatClampNeg = N) (hb4 : N * 4 ≤ 536870912) (hr : im_n S + 1 - xn X ≤ (xR X).cells ∧ im_z S + N - xz X ≤ (xR X).slots)
    (h : im_E X k Q (pc + 3) L (.ref b :: st) (im_alS S b 21 N) (im_alI I b)) : im_E X k Q pc L (.int n :: st) S I := by
  subst hb
  exact r_anew hX hd hw hn hN hb4 hr h
end R4
