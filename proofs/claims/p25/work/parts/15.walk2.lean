/-! walks, by program out of spec2.py -/
set_option maxRecDepth 100000 in
set_option maxHeartbeats 4000000 in
theorem sp_X11_fill {l : Launch} {k : im_K} {S : im_S} {I : im_I} {x0 n0 : Nat} {p1 : Int32} (hx0 : im_k S x0 = (20, n0)) (hn : n0 < 2 ^ 31 := by decide) : im_Runs l k 0 mX11_fill [.ref x0, .int p1] (S, I) (none) (S, fillL_ I x0 n0 p1) := by
  refine im_run (by decide +kernel) ⟨Nat.le_refl _, Nat.le_refl _⟩ (Nat.le_of_ble_eq_true rfl) ?_
  intro X hl hX hxn hxz hxc hxs
  subst hl
  change im_E X k _ 0 [some (.ref x0), some (.int p1), none] [] S I
  refine r_iconst (pc := 0) hX 0 dX11_fill_0 (by decide) ?_
  refine r_istore_n (pc := 1) hX (L' := [_, _, _]) dX11_fill_1 rfl rfl (Nat.le_of_ble_eq_true rfl) ?_
  have hL2 : ∀ (n : Nat) (i : Int32) (J : im_I), ¬ i < 0 → cnt i (Int32.ofNat n0) = n → loopN n i (fun i J => im_up J x0 i.toNatClampNeg p1) J = loopN (cnt (0) (Int32.ofNat n0)) (0) (fun i J => im_up J x0 i.toNatClampNeg p1) (I) → im_E X k (im_Q X k (none) (S, fillL_ I x0 n0 p1)) 2 [some (.ref x0), some (.int p1), some (.int i)] [] S J := by
    intro n
    induction n with
    | zero =>
      intro i J hz hm hR
      refine r_iload_n (pc := 2) hX dX11_fill_2 rfl ?_
      refine r_aload_n (pc := 3) hX dX11_fill_3 rfl ?_
      refine r_alen (pc := 4) hX _ dX11_fill_4 hx0 rfl ?_
      refine r_icmp_ge (pc := 5) hX 18 dX11_fill_5 (by decide) (fun c5 => ?_) (fun c5 => ?_)
      · have c5d := Int32.not_lt.mpr c5
        change J = _ at hR
        subst hR
        exact r_return (pc := 18) hX dX11_fill_18 rfl rfl (by first | rfl | (simp only [fillL_, loopC, c5, c5d, ↓reduceIte, if_true, if_false, decide_true, decide_false, eq_self, b2i_t, b2i_f, Bool.false_eq_true, and_true, true_and, and_false, false_and, or_true, true_or, or_false, false_or, not_true_eq_false, not_false_eq_true]; done) | simp [fillL_, loopC, c5, c5d])
      · have c5d := Int32.not_le.mp c5
        exact (cnt_ex hm c5).elim
    | succ n ih =>
      intro i J hz hm hR
      refine r_iload_n (pc := 2) hX dX11_fill_2 rfl ?_
      refine r_aload_n (pc := 3) hX dX11_fill_3 rfl ?_
      refine r_alen (pc := 4) hX _ dX11_fill_4 hx0 rfl ?_
      refine r_icmp_ge (pc := 5) hX 18 dX11_fill_5 (by decide) (fun c5 => ?_) (fun c5 => ?_)
      · have c5d := Int32.not_lt.mpr c5
        exact (cnt_go hm c5).elim
      · have c5d := Int32.not_le.mp c5
        refine r_aload_n (pc := 8) hX dX11_fill_8 rfl ?_
        refine r_iload_n (pc := 9) hX dX11_fill_9 rfl ?_
        refine r_iload_n (pc := 10) hX dX11_fill_10 rfl ?_
        refine r_iast (pc := 11) hX dX11_fill_11 hx0 (im_vp hz c5 hn) ?_
        refine r_iinc (pc := 12) hX 1 (L' := [_, _, _]) dX11_fill_12 rfl (by decide) rfl rfl ?_
        refine r_goto (pc := 15) hX (tgt := 2) dX11_fill_15 (by decide) ?_
        exact ih _ _ (i32_pos c5 hz) (cnt_nx hm) (by refine Eq.trans (congrArg (loopN n (i + 1) (fun i J => im_up J x0 i.toNatClampNeg p1)) ?_) hR; exact (by first | rfl | (simp only [fillL_, loopC, c5, c5d, ↓reduceIte, if_true, if_false, decide_true, decide_false, eq_self, b2i_t, b2i_f, Bool.false_eq_true, and_true, true_and, and_false, false_and, or_true, true_or, or_false, false_or, not_true_eq_false, not_false_eq_true]; done) | simp [fillL_, loopC, c5, c5d]))
  exact hL2 _ _ _ (by decide) rfl rfl
