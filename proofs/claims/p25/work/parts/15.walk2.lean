/-! walks, by program out of spec2.py -/
set_option maxRecDepth 100000 in
set_option maxHeartbeats 1000000 in
theorem sp_X11_fill {l : Launch} {k : im_K} {S : im_S} {I : im_I} {x0 n0 : Nat} {p1 : Int32} (hx0 : im_k S x0 = (20, n0)) (hn : n0 < 2 ^ 31 := by first | decide | assumption) : im_Runs l k 0 mX11_fill [.ref x0, .int p1] (S, I) (none) (S, fillL_ I x0 n0 p1) := by
  refine im_run (by decide +kernel) ⟨Nat.le_refl _, Nat.le_refl _⟩ (Nat.le_of_ble_eq_true rfl) ?_
  intro X hl hX hxn hxz hxc hxs
  subst hl
  change im_E X k _ 0 [some (.ref x0), some (.int p1), none] [] S I
  refine r_iconst (pc := 0) hX 0 dX11_fill_0 (by decide) ?_
  refine r_istore_n (pc := 1) hX (L' := [_, _, _]) dX11_fill_1 rfl rfl (Nat.le_of_ble_eq_true rfl) ?_
  have hL2 : ∀ (w : Nat) (i : Int32) (J : im_I), ¬ i < 0 → cnt i (Int32.ofNat n0) = w → loopN w i (fun i J => im_up J x0 i.toNatClampNeg p1) J = loopN (cnt (0) (Int32.ofNat n0)) (0) (fun i J => im_up J x0 i.toNatClampNeg p1) (I) → im_E X k (im_Q X k (none) (S, fillL_ I x0 n0 p1)) 2 [some (.ref x0), some (.int p1), some (.int i)] [] S J := by
    intro w
    induction w with
    | zero =>
      intro i J hz hm hR
      refine r_iload_n (pc := 2) hX dX11_fill_2 rfl ?_
      refine r_aload_n (pc := 3) hX dX11_fill_3 rfl ?_
      refine r_alen (pc := 4) hX _ dX11_fill_4 hx0 rfl ?_
      refine r_icmp_ge (pc := 5) hX 18 dX11_fill_5 (by decide) (fun c5 => ?_) (fun c5 => ?_)
      · have c5d := Int32.not_lt.mpr c5
        rw [loopN_0] at hR
        subst hR
        exact r_return (pc := 18) hX dX11_fill_18 rfl rfl (by first | with_reducible rfl | (simp only [fillL_, loopC, eq_true c5, eq_false c5d, ↓reduceIte, if_true, if_false, decide_true, decide_false, eq_self, b2i_t, b2i_f, Bool.false_eq_true, and_true, true_and, and_false, false_and, or_true, true_or, or_false, false_or, not_true_eq_false, not_false_eq_true] <;> rfl) | simp [fillL_, loopC, eq_true c5, eq_false c5d])
      · have c5d := Int32.not_le.mp c5
        exact (cnt_ex hm  c5).elim
    | succ w ih =>
      intro i J hz hm hR
      refine r_iload_n (pc := 2) hX dX11_fill_2 rfl ?_
      refine r_aload_n (pc := 3) hX dX11_fill_3 rfl ?_
      refine r_alen (pc := 4) hX _ dX11_fill_4 hx0 rfl ?_
      refine r_icmp_ge (pc := 5) hX 18 dX11_fill_5 (by decide) (fun c5 => ?_) (fun c5 => ?_)
      · have c5d := Int32.not_lt.mpr c5
        exact (cnt_go hm  c5).elim
      · have c5d := Int32.not_le.mp c5
        refine r_aload_n (pc := 8) hX dX11_fill_8 rfl ?_
        refine r_iload_n (pc := 9) hX dX11_fill_9 rfl ?_
        refine r_iload_n (pc := 10) hX dX11_fill_10 rfl ?_
        refine r_iast (pc := 11) hX dX11_fill_11 hx0 (im_vp hz c5 hn) ?_
        refine r_iinc (pc := 12) hX 1 (L' := [_, _, _]) dX11_fill_12 rfl (by decide) rfl rfl ?_
        refine r_goto (pc := 15) hX (tgt := 2) dX11_fill_15 (by decide) ?_
        refine r_mem (I' := (fun i J => im_up J x0 i.toNatClampNeg p1) i J) (by first | with_reducible rfl | (simp only [fillL_, loopC, eq_false c5, eq_true c5d, ↓reduceIte, if_true, if_false, decide_true, decide_false, eq_self, b2i_t, b2i_f, Bool.false_eq_true, and_true, true_and, and_false, false_and, or_true, true_or, or_false, false_or, not_true_eq_false, not_false_eq_true] <;> rfl) | simp [fillL_, loopC, eq_false c5, eq_true c5d]) ?_
        exact ih _ _ (i32_pos c5 hz) (cnt_nx hm) (loopN_s.symm.trans hR)
  exact hL2 (cnt (0) (Int32.ofNat n0)) (0) (I) (by decide) rfl rfl
set_option maxRecDepth 100000 in
set_option maxHeartbeats 1000000 in
theorem sp_X11_at_tab {l : Launch} {k : im_K} {S : im_S} {I : im_I} {p1 : Int32}  : im_Runs l k 0 mX11_at [.ref 1, .int p1] (S, I) (some (.int (lkind_ p1))) (S, I) := by
  refine im_run (by decide +kernel) ⟨Nat.le_refl _, Nat.le_refl _⟩ (Nat.le_of_ble_eq_true rfl) ?_
  intro X hl hX hxn hxz hxc hxs
  subst hl
  change im_E X k _ 0 [some (.ref 1), some (.int p1)] [] S I
  refine r_iload_n (pc := 0) hX dX11_at_0 rfl ?_
  refine r_if_lt (pc := 1) hX 16 dX11_at_1 (by decide) (fun c1 => ?_) (fun c1 => ?_)
  · have c1d := Int32.not_le.mpr c1
    refine r_iconst (pc := 16) hX (-1) dX11_at_16 (by decide) ?_
    exact r_ireturn (pc := 17) hX dX11_at_17 rfl rfl (by first | with_reducible rfl | (simp only [lkind_, at_, eq_true c1, eq_false c1d, ↓reduceIte, if_true, if_false, decide_true, decide_false, eq_self, b2i_t, b2i_f, Bool.false_eq_true, and_true, true_and, and_false, false_and, or_true, true_or, or_false, false_or, not_true_eq_false, not_false_eq_true] <;> rfl) | simp [lkind_, at_, eq_true c1, eq_false c1d]) rfl
  · have c1d := Int32.not_lt.mp c1
    refine r_iload_n (pc := 4) hX dX11_at_4 rfl ?_
    refine r_aload_n (pc := 5) hX dX11_at_5 rfl ?_
    refine r_tlen (pc := 6) hX dX11_at_6 ?_
    refine r_icmp_ge (pc := 7) hX 16 dX11_at_7 (by decide) (fun c7 => ?_) (fun c7 => ?_)
    · have c7d := Int32.not_lt.mpr c7
      refine r_iconst (pc := 16) hX (-1) dX11_at_16 (by decide) ?_
      exact r_ireturn (pc := 17) hX dX11_at_17 rfl rfl (by first | with_reducible rfl | (simp only [lkind_, at_, eq_false c1, eq_true c1d, eq_true c7, eq_false c7d, ↓reduceIte, if_true, if_false, decide_true, decide_false, eq_self, b2i_t, b2i_f, Bool.false_eq_true, and_true, true_and, and_false, false_and, or_true, true_or, or_false, false_or, not_true_eq_false, not_false_eq_true] <;> rfl) | simp [lkind_, at_, eq_false c1, eq_true c1d, eq_true c7, eq_false c7d]) rfl
    · have c7d := Int32.not_le.mp c7
      refine r_aload_n (pc := 10) hX dX11_at_10 rfl ?_
      refine r_iload_n (pc := 11) hX dX11_at_11 rfl ?_
      refine r_tld (pc := 12) hX dX11_at_12 (im_vp (n := 10) (by assumption) (by assumption) (by decide)) ?_
      refine r_goto (pc := 13) hX (tgt := 17) dX11_at_13 (by decide) ?_
      exact r_ireturn (pc := 17) hX dX11_at_17 rfl rfl (by first | with_reducible rfl | (simp only [lkind_, at_, eq_false c1, eq_true c1d, eq_false c7, eq_true c7d, ↓reduceIte, if_true, if_false, decide_true, decide_false, eq_self, b2i_t, b2i_f, Bool.false_eq_true, and_true, true_and, and_false, false_and, or_true, true_or, or_false, false_or, not_true_eq_false, not_false_eq_true] <;> rfl) | simp [lkind_, at_, eq_false c1, eq_true c1d, eq_false c7, eq_true c7d]) rfl
set_option maxRecDepth 100000 in
set_option maxHeartbeats 1000000 in
theorem sp_X5_cyclesOf {l : Launch} {k : im_K} {S : im_S} {I : im_I} {a : Nat} {p0 : Int32} (h : o_X5 S a) : im_Runs l k 1 mX5_cyclesOf [.ref a, .int p0] (S, I) (some (.int (cyclesOf_ I a p0))) (S, I) := by
  refine im_run (by decide +kernel) ⟨Nat.le_refl _, Nat.le_refl _⟩ (Nat.le_of_ble_eq_true rfl) ?_
  intro X hl hX hxn hxz hxc hxs
  subst hl
  change im_E X k _ 0 [some (.ref a), some (.int p0)] [] S I
  refine r_aload_n (pc := 0) hX dX5_cyclesOf_0 rfl ?_
  refine r_getr (pc := 1) hX dX5_cyclesOf_1 fl_X5_28 rfl (o_X5_k h) (o_X5_r5 h) ?_
  refine r_gets (pc := 4) hX dX5_cyclesOf_4 fn_X5_40 ?_
  refine r_iload_n (pc := 7) hX dX5_cyclesOf_7 rfl ?_
  refine r_callSN (Z := mX11_at) (pc := 8) hX dX5_cyclesOf_8 mn_X5_32 mX11_at_w (sp_X11_at_tab) rfl rfl (Nat.le_of_ble_eq_true rfl) (by decide) rfl (Or.inl rfl) ?_
  refine r_callSN (Z := mX11_at) (pc := 11) hX dX5_cyclesOf_11 mn_X5_32 mX11_at_w (sp_X11_at (o_X5_a5 h)) rfl rfl (Nat.le_of_ble_eq_true rfl) (by decide) rfl (Or.inl rfl) ?_
  exact r_ireturn (pc := 14) hX dX5_cyclesOf_14 rfl rfl (by first | with_reducible rfl | (simp only [cyclesOf_, ↓reduceIte, if_true, if_false, decide_true, decide_false, eq_self, b2i_t, b2i_f, Bool.false_eq_true, and_true, true_and, and_false, false_and, or_true, true_or, or_false, false_or, not_true_eq_false, not_false_eq_true] <;> rfl) | simp [cyclesOf_]) rfl
set_option maxRecDepth 100000 in
set_option maxHeartbeats 1000000 in
theorem sp_X5_beLike {l : Launch} {k : im_K} {S : im_S} {I : im_I} {a : Nat} {b0 : Nat} (h : o_X5 S a) (hb0 : o_X5 S b0) (hb0z : (I b0 3 = 0 ∨ I b0 3 = 1) ∧ (I b0 4 = 0 ∨ I b0 4 = 1)) (hne : a ≠ b0) : im_Runs l k 1 mX5_beLike [.ref a, .ref b0] (S, I) (none) (S, beLike_ I a b0) := by
  refine im_run (by decide +kernel) ⟨Nat.le_refl _, Nat.le_refl _⟩ (Nat.le_of_ble_eq_true rfl) ?_
  intro X hl hX hxn hxz hxc hxs
  subst hl
  change im_E X k _ 0 [some (.ref a), some (.ref b0), none] [] S I
  refine r_aload_n (pc := 0) hX dX5_beLike_0 rfl ?_
  refine r_aload_n (pc := 1) hX dX5_beLike_1 rfl ?_
  refine r_geti (pc := 2) hX dX5_beLike_2 fl_X5_9 rfl (o_X5_k hb0) ?_
  refine r_puti (pc := 5) hX dX5_beLike_5 fl_X5_9 rfl rfl (o_X5_k h) ?_
  refine r_aload_n (pc := 8) hX dX5_beLike_8 rfl ?_
  refine r_aload_n (pc := 9) hX dX5_beLike_9 rfl ?_
  refine r_geti (pc := 10) hX dX5_beLike_10 fl_X5_15 rfl (o_X5_k hb0) ?_
  refine r_puti (pc := 13) hX dX5_beLike_13 fl_X5_15 rfl rfl (o_X5_k h) ?_
  refine r_aload_n (pc := 16) hX dX5_beLike_16 rfl ?_
  refine r_aload_n (pc := 17) hX dX5_beLike_17 rfl ?_
  refine r_geti (pc := 18) hX dX5_beLike_18 fl_X5_18 rfl (o_X5_k hb0) ?_
  refine r_puti (pc := 21) hX dX5_beLike_21 fl_X5_18 rfl rfl (o_X5_k h) ?_
  refine r_aload_n (pc := 24) hX dX5_beLike_24 rfl ?_
  refine r_aload_n (pc := 25) hX dX5_beLike_25 rfl ?_
  refine r_geti (pc := 26) hX dX5_beLike_26 fl_X5_21 rfl (o_X5_k hb0) ?_
  refine r_puti (pc := 29) hX dX5_beLike_29 fl_X5_21 rfl (im_fitZ (t := 5) (j := 3) rfl (by simp only [im_up, hne.symm, false_and, ↓reduceIte, if_false]; exact hb0z.1)) (o_X5_k h) ?_
  refine r_aload_n (pc := 32) hX dX5_beLike_32 rfl ?_
  refine r_aload_n (pc := 33) hX dX5_beLike_33 rfl ?_
  refine r_geti (pc := 34) hX dX5_beLike_34 fl_X5_25 rfl (o_X5_k hb0) ?_
  refine r_puti (pc := 37) hX dX5_beLike_37 fl_X5_25 rfl (im_fitZ (t := 5) (j := 4) rfl (by simp only [im_up, hne.symm, false_and, ↓reduceIte, if_false]; exact hb0z.2)) (o_X5_k h) ?_
  refine r_iconst (pc := 40) hX 0 dX5_beLike_40 (by decide) ?_
  refine r_istore_n (pc := 41) hX (L' := [_, _, _]) dX5_beLike_41 rfl rfl (Nat.le_of_ble_eq_true rfl) ?_
  have hL42 : ∀ (w : Nat) (i : Int32) (J : im_I), cnt i (8) = w → loopN w i (fun i J => put_ J (a + 1) 8 i (at_ (J (b0 + 1)) 8 i)) J = loopN (cnt (0) (8)) (0) (fun i J => put_ J (a + 1) 8 i (at_ (J (b0 + 1)) 8 i)) (beLike0_ I a b0) → im_E X k (im_Q X k (none) (S, beLike_ I a b0)) 42 [some (.ref a), some (.ref b0), some (.int i)] [] S J := by
    intro w
    induction w with
    | zero =>
      intro i J  hm hR
      refine r_iload_n (pc := 42) hX dX5_beLike_42 rfl ?_
      refine r_bipush (pc := 43) hX 8 dX5_beLike_43 (by decide) ?_
      refine r_icmp_ge (pc := 45) hX 70 dX5_beLike_45 (by decide) (fun c45 => ?_) (fun c45 => ?_)
      · have c45d := Int32.not_lt.mpr c45
        rw [loopN_0] at hR
        subst hR
        exact r_return (pc := 70) hX dX5_beLike_70 rfl rfl (by first | with_reducible rfl | (simp only [beLike_, loopC, eq_true c45, eq_false c45d, ↓reduceIte, if_true, if_false, decide_true, decide_false, eq_self, b2i_t, b2i_f, Bool.false_eq_true, and_true, true_and, and_false, false_and, or_true, true_or, or_false, false_or, not_true_eq_false, not_false_eq_true] <;> rfl) | simp [beLike_, loopC, eq_true c45, eq_false c45d])
      · have c45d := Int32.not_le.mp c45
        exact (cnt_ex hm  c45).elim
    | succ w ih =>
      intro i J  hm hR
      refine r_iload_n (pc := 42) hX dX5_beLike_42 rfl ?_
      refine r_bipush (pc := 43) hX 8 dX5_beLike_43 (by decide) ?_
      refine r_icmp_ge (pc := 45) hX 70 dX5_beLike_45 (by decide) (fun c45 => ?_) (fun c45 => ?_)
      · have c45d := Int32.not_lt.mpr c45
        exact (cnt_go hm  c45).elim
      · have c45d := Int32.not_le.mp c45
        refine r_aload_n (pc := 48) hX dX5_beLike_48 rfl ?_
        refine r_getr (pc := 49) hX dX5_beLike_49 fl_X5_28 rfl (o_X5_k h) (o_X5_r5 h) ?_
        refine r_iload_n (pc := 52) hX dX5_beLike_52 rfl ?_
        refine r_aload_n (pc := 53) hX dX5_beLike_53 rfl ?_
        refine r_getr (pc := 54) hX dX5_beLike_54 fl_X5_28 rfl (o_X5_k hb0) (o_X5_r5 hb0) ?_
        refine r_iload_n (pc := 57) hX dX5_beLike_57 rfl ?_
        refine r_callSN (Z := mX11_at) (pc := 58) hX dX5_beLike_58 mn_X5_32 mX11_at_w (sp_X11_at (o_X5_a5 hb0)) rfl rfl (Nat.le_of_ble_eq_true rfl) (by decide) rfl (Or.inl rfl) ?_
        refine r_callSN (Z := mX11_put) (pc := 61) hX dX5_beLike_61 mn_X5_36 mX11_put_w (sp_X11_put (o_X5_a5 h)) rfl rfl (Nat.le_of_ble_eq_true rfl) (by decide) rfl (Or.inl rfl) ?_
        refine r_iinc (pc := 64) hX 1 (L' := [_, _, _]) dX5_beLike_64 rfl (by decide) rfl rfl ?_
        refine r_goto (pc := 67) hX (tgt := 42) dX5_beLike_67 (by decide) ?_
        refine r_mem (I' := (fun i J => put_ J (a + 1) 8 i (at_ (J (b0 + 1)) 8 i)) i J) (by first | with_reducible rfl | (simp only [beLike_, loopC, eq_false c45, eq_true c45d, ↓reduceIte, if_true, if_false, decide_true, decide_false, eq_self, b2i_t, b2i_f, Bool.false_eq_true, and_true, true_and, and_false, false_and, or_true, true_or, or_false, false_or, not_true_eq_false, not_false_eq_true] <;> rfl) | simp [beLike_, loopC, eq_false c45, eq_true c45d]) ?_
        exact ih _ _  (cnt_nx hm) (loopN_s.symm.trans hR)
  exact hL42 (cnt (0) (8)) (0) (beLike0_ I a b0)  rfl rfl
set_option maxRecDepth 100000 in
set_option maxHeartbeats 1000000 in
theorem sp_X8_placeOf {l : Launch} {k : im_K} {S : im_S} {I : im_I} {p0 : Int32} {p1 : Int32}  : im_Runs l k 0 mX8_placeOf [.int p0, .int p1] (S, I) (some (.int (placeOf_ p0 p1))) (S, I) := by
  refine im_run (by decide +kernel) ⟨Nat.le_refl _, Nat.le_refl _⟩ (Nat.le_of_ble_eq_true rfl) ?_
  intro X hl hX hxn hxz hxc hxs
  subst hl
  change im_E X k _ 0 [some (.int p0), some (.int p1)] [] S I
  refine r_iload_n (pc := 0) hX dX8_placeOf_0 rfl ?_
  refine r_bipush (pc := 1) hX 24 dX8_placeOf_1 (by decide) ?_
  refine r_imul (pc := 3) hX dX8_placeOf_3 ?_
  refine r_iload_n (pc := 4) hX dX8_placeOf_4 rfl ?_
  refine r_iadd (pc := 5) hX dX8_placeOf_5 ?_
  exact r_ireturn (pc := 6) hX dX8_placeOf_6 rfl rfl (by first | with_reducible rfl | (simp only [placeOf_, ↓reduceIte, if_true, if_false, decide_true, decide_false, eq_self, b2i_t, b2i_f, Bool.false_eq_true, and_true, true_and, and_false, false_and, or_true, true_or, or_false, false_or, not_true_eq_false, not_false_eq_true] <;> rfl) | simp [placeOf_]) rfl
set_option maxRecDepth 100000 in
set_option maxHeartbeats 1000000 in
theorem sp_X8_isLoose {l : Launch} {k : im_K} {S : im_S} {I : im_I} {a : Nat} {p0 : Int32} (h : o_X8 S a) : im_Runs l k 1 mX8_isLoose [.ref a, .int p0] (S, I) (some (.int (b2i (isLoose_ I a p0)))) (S, I) := by
  refine im_run (by decide +kernel) ⟨Nat.le_refl _, Nat.le_refl _⟩ (Nat.le_of_ble_eq_true rfl) ?_
  intro X hl hX hxn hxz hxc hxs
  subst hl
  change im_E X k _ 0 [some (.ref a), some (.int p0)] [] S I
  refine r_iload_n (pc := 0) hX dX8_isLoose_0 rfl ?_
  refine r_aload_n (pc := 1) hX dX8_isLoose_1 rfl ?_
  refine r_geti (pc := 2) hX dX8_isLoose_2 fl_X8_48 rfl (o_X8_k h) ?_
  refine r_callSN (Z := mX11_isBelow) (pc := 5) hX dX8_isLoose_5 mn_X8_40 mX11_isBelow_w (sp_X11_isBelow) rfl rfl (Nat.le_of_ble_eq_true rfl) (by decide) rfl (Or.inl rfl) ?_
  refine r_if_eq (pc := 8) hX 26 dX8_isLoose_8 (by decide) (fun c8 => ?_) (fun c8 => ?_)
  · replace c8 := b2i_0 c8
    refine r_iconst (pc := 26) hX 0 dX8_isLoose_26 (by decide) ?_
    exact r_ireturn (pc := 27) hX dX8_isLoose_27 rfl rfl (by first | with_reducible rfl | (simp only [isLoose_, b2i, c8, ↓reduceIte, if_true, if_false, decide_true, decide_false, eq_self, b2i_t, b2i_f, Bool.false_eq_true, and_true, true_and, and_false, false_and, or_true, true_or, or_false, false_or, not_true_eq_false, not_false_eq_true] <;> rfl) | simp [isLoose_, b2i, c8]) rfl
  · replace c8 := b2i_1 c8
    refine r_aload_n (pc := 11) hX dX8_isLoose_11 rfl ?_
    refine r_getr (pc := 12) hX dX8_isLoose_12 fl_X8_28 rfl (o_X8_k h) (o_X8_r7 h) ?_
    refine r_iload_n (pc := 15) hX dX8_isLoose_15 rfl ?_
    refine r_callSN (Z := mX11_at) (pc := 16) hX dX8_isLoose_16 mn_X8_51 mX11_at_w (sp_X11_at (o_X8_a7 h)) rfl rfl (Nat.le_of_ble_eq_true rfl) (by decide) rfl (Or.inl rfl) ?_
    refine r_if_ne (pc := 19) hX 26 dX8_isLoose_19 (by decide) (fun c19 => ?_) (fun c19 => ?_)
    · refine r_iconst (pc := 26) hX 0 dX8_isLoose_26 (by decide) ?_
      exact r_ireturn (pc := 27) hX dX8_isLoose_27 rfl rfl (by first | with_reducible rfl | (simp only [isLoose_, b2i, c8, eq_false c19, ↓reduceIte, if_true, if_false, decide_true, decide_false, eq_self, b2i_t, b2i_f, Bool.false_eq_true, and_true, true_and, and_false, false_and, or_true, true_or, or_false, false_or, not_true_eq_false, not_false_eq_true] <;> rfl) | simp [isLoose_, b2i, c8, eq_false c19]) rfl
    · refine r_iconst (pc := 22) hX 1 dX8_isLoose_22 (by decide) ?_
      refine r_goto (pc := 23) hX (tgt := 27) dX8_isLoose_23 (by decide) ?_
      exact r_ireturn (pc := 27) hX dX8_isLoose_27 rfl rfl (by first | with_reducible rfl | (simp only [isLoose_, b2i, c8, eq_true c19, ↓reduceIte, if_true, if_false, decide_true, decide_false, eq_self, b2i_t, b2i_f, Bool.false_eq_true, and_true, true_and, and_false, false_and, or_true, true_or, or_false, false_or, not_true_eq_false, not_false_eq_true] <;> rfl) | simp [isLoose_, b2i, c8, eq_true c19]) rfl
set_option maxRecDepth 100000 in
set_option maxHeartbeats 1000000 in
theorem sp_X8_canBeNode {l : Launch} {k : im_K} {S : im_S} {I : im_I} {a : Nat} {p0 : Int32} {p1 : Int32} {p2 : Int32} (h : o_X8 S a) : im_Runs l k 2 mX8_canBeNode [.ref a, .int p0, .int p1, .int p2] (S, I) (some (.int (b2i (canBeNode_ I a p0 p1 p2)))) (S, I) := by
  refine im_run (by decide +kernel) ⟨Nat.le_refl _, Nat.le_refl _⟩ (Nat.le_of_ble_eq_true rfl) ?_
  intro X hl hX hxn hxz hxc hxs
  subst hl
  change im_E X k _ 0 [some (.ref a), some (.int p0), some (.int p1), some (.int p2)] [] S I
  refine r_iload_n (pc := 0) hX dX8_canBeNode_0 rfl ?_
  refine r_if_ne (pc := 1) hX 28 dX8_canBeNode_1 (by decide) (fun c1 => ?_) (fun c1 => ?_)
  · refine r_iload_n (pc := 28) hX dX8_canBeNode_28 rfl ?_
    refine r_iconst (pc := 29) hX 1 dX8_canBeNode_29 (by decide) ?_
    refine r_icmp_ne (pc := 30) hX 52 dX8_canBeNode_30 (by decide) (fun c30 => ?_) (fun c30 => ?_)
    · refine r_iload_n (pc := 52) hX dX8_canBeNode_52 rfl ?_
      refine r_iconst (pc := 53) hX 2 dX8_canBeNode_53 (by decide) ?_
      refine r_icmp_lt (pc := 54) hX 87 dX8_canBeNode_54 (by decide) (fun c54 => ?_) (fun c54 => ?_)
      · have c54d := Int32.not_le.mpr c54
        refine r_iconst (pc := 87) hX 0 dX8_canBeNode_87 (by decide) ?_
        exact r_ireturn (pc := 88) hX dX8_canBeNode_88 rfl rfl (by first | with_reducible rfl | (simp only [canBeNode_, b2i, eq_false c1, eq_false c30, eq_true c54, eq_false c54d, ↓reduceIte, if_true, if_false, decide_true, decide_false, eq_self, b2i_t, b2i_f, Bool.false_eq_true, and_true, true_and, and_false, false_and, or_true, true_or, or_false, false_or, not_true_eq_false, not_false_eq_true] <;> rfl) | simp [canBeNode_, b2i, eq_false c1, eq_false c30, eq_true c54, eq_false c54d]) rfl
      · have c54d := Int32.not_lt.mp c54
        refine r_iload_n (pc := 57) hX dX8_canBeNode_57 rfl ?_
        refine r_iconst (pc := 58) hX 5 dX8_canBeNode_58 (by decide) ?_
        refine r_icmp_gt (pc := 59) hX 87 dX8_canBeNode_59 (by decide) (fun c59 => ?_) (fun c59 => ?_)
        · have c59d := Int32.not_le.mpr c59
          refine r_iconst (pc := 87) hX 0 dX8_canBeNode_87 (by decide) ?_
          exact r_ireturn (pc := 88) hX dX8_canBeNode_88 rfl rfl (by first | with_reducible rfl | (simp only [canBeNode_, b2i, eq_false c1, eq_false c30, eq_false c54, eq_true c54d, eq_true c59, eq_false c59d, ↓reduceIte, if_true, if_false, decide_true, decide_false, eq_self, b2i_t, b2i_f, Bool.false_eq_true, and_true, true_and, and_false, false_and, or_true, true_or, or_false, false_or, not_true_eq_false, not_false_eq_true] <;> rfl) | simp [canBeNode_, b2i, eq_false c1, eq_false c30, eq_false c54, eq_true c54d, eq_true c59, eq_false c59d]) rfl
        · have c59d := Int32.not_lt.mp c59
          refine r_aload_n (pc := 62) hX dX8_canBeNode_62 rfl ?_
          refine r_iload_n (pc := 63) hX dX8_canBeNode_63 rfl ?_
          refine r_callV (Z := mX8_isLoose) (t := 8) (pc := 64) hX dX8_canBeNode_64 ml_X8_44 mX8_isLoose_w ⟨by decide, rfl⟩ (o_X8_k h) (sp_X8_isLoose h) rfl rfl (Nat.le_of_ble_eq_true rfl) (by decide) rfl (Or.inl rfl) ?_
          refine r_if_eq (pc := 67) hX 87 dX8_canBeNode_67 (by decide) (fun c67 => ?_) (fun c67 => ?_)
          · replace c67 := b2i_0 c67
            refine r_iconst (pc := 87) hX 0 dX8_canBeNode_87 (by decide) ?_
            exact r_ireturn (pc := 88) hX dX8_canBeNode_88 rfl rfl (by first | with_reducible rfl | (simp only [canBeNode_, b2i, eq_false c1, eq_false c30, eq_false c54, eq_true c54d, eq_false c59, eq_true c59d, c67, ↓reduceIte, if_true, if_false, decide_true, decide_false, eq_self, b2i_t, b2i_f, Bool.false_eq_true, and_true, true_and, and_false, false_and, or_true, true_or, or_false, false_or, not_true_eq_false, not_false_eq_true] <;> rfl) | simp [canBeNode_, b2i, eq_false c1, eq_false c30, eq_false c54, eq_true c54d, eq_false c59, eq_true c59d, c67]) rfl
          · replace c67 := b2i_1 c67
            refine r_aload_n (pc := 70) hX dX8_canBeNode_70 rfl ?_
            refine r_iload_n (pc := 71) hX dX8_canBeNode_71 rfl ?_
            refine r_callV (Z := mX8_isLoose) (t := 8) (pc := 72) hX dX8_canBeNode_72 ml_X8_44 mX8_isLoose_w ⟨by decide, rfl⟩ (o_X8_k h) (sp_X8_isLoose h) rfl rfl (Nat.le_of_ble_eq_true rfl) (by decide) rfl (Or.inl rfl) ?_
            refine r_if_eq (pc := 75) hX 87 dX8_canBeNode_75 (by decide) (fun c75 => ?_) (fun c75 => ?_)
            · replace c75 := b2i_0 c75
              refine r_iconst (pc := 87) hX 0 dX8_canBeNode_87 (by decide) ?_
              exact r_ireturn (pc := 88) hX dX8_canBeNode_88 rfl rfl (by first | with_reducible rfl | (simp only [canBeNode_, b2i, eq_false c1, eq_false c30, eq_false c54, eq_true c54d, eq_false c59, eq_true c59d, c67, c75, ↓reduceIte, if_true, if_false, decide_true, decide_false, eq_self, b2i_t, b2i_f, Bool.false_eq_true, and_true, true_and, and_false, false_and, or_true, true_or, or_false, false_or, not_true_eq_false, not_false_eq_true] <;> rfl) | simp [canBeNode_, b2i, eq_false c1, eq_false c30, eq_false c54, eq_true c54d, eq_false c59, eq_true c59d, c67, c75]) rfl
            · replace c75 := b2i_1 c75
              refine r_iload_n (pc := 78) hX dX8_canBeNode_78 rfl ?_
              refine r_iload_n (pc := 79) hX dX8_canBeNode_79 rfl ?_
              refine r_icmp_eq (pc := 80) hX 87 dX8_canBeNode_80 (by decide) (fun c80 => ?_) (fun c80 => ?_)
              · refine r_iconst (pc := 87) hX 0 dX8_canBeNode_87 (by decide) ?_
                exact r_ireturn (pc := 88) hX dX8_canBeNode_88 rfl rfl (by first | with_reducible rfl | (simp only [canBeNode_, b2i, eq_false c1, eq_false c30, eq_false c54, eq_true c54d, eq_false c59, eq_true c59d, c67, c75, eq_true c80, ↓reduceIte, if_true, if_false, decide_true, decide_false, eq_self, b2i_t, b2i_f, Bool.false_eq_true, and_true, true_and, and_false, false_and, or_true, true_or, or_false, false_or, not_true_eq_false, not_false_eq_true] <;> rfl) | simp [canBeNode_, b2i, eq_false c1, eq_false c30, eq_false c54, eq_true c54d, eq_false c59, eq_true c59d, c67, c75, eq_true c80]) rfl
              · refine r_iconst (pc := 83) hX 1 dX8_canBeNode_83 (by decide) ?_
                refine r_goto (pc := 84) hX (tgt := 88) dX8_canBeNode_84 (by decide) ?_
                exact r_ireturn (pc := 88) hX dX8_canBeNode_88 rfl rfl (by first | with_reducible rfl | (simp only [canBeNode_, b2i, eq_false c1, eq_false c30, eq_false c54, eq_true c54d, eq_false c59, eq_true c59d, c67, c75, eq_false c80, ↓reduceIte, if_true, if_false, decide_true, decide_false, eq_self, b2i_t, b2i_f, Bool.false_eq_true, and_true, true_and, and_false, false_and, or_true, true_or, or_false, false_or, not_true_eq_false, not_false_eq_true] <;> rfl) | simp [canBeNode_, b2i, eq_false c1, eq_false c30, eq_false c54, eq_true c54d, eq_false c59, eq_true c59d, c67, c75, eq_false c80]) rfl
    · refine r_iload_n (pc := 33) hX dX8_canBeNode_33 rfl ?_
      refine r_bipush (pc := 34) hX 8 dX8_canBeNode_34 (by decide) ?_
      refine r_callSN (Z := mX11_isBelow) (pc := 36) hX dX8_canBeNode_36 mn_X8_40 mX11_isBelow_w (sp_X11_isBelow) rfl rfl (Nat.le_of_ble_eq_true rfl) (by decide) rfl (Or.inl rfl) ?_
      refine r_if_eq (pc := 39) hX 50 dX8_canBeNode_39 (by decide) (fun c39 => ?_) (fun c39 => ?_)
      · replace c39 := b2i_0 c39
        refine r_iconst (pc := 50) hX 0 dX8_canBeNode_50 (by decide) ?_
        exact r_ireturn (pc := 51) hX dX8_canBeNode_51 rfl rfl (by first | with_reducible rfl | (simp only [canBeNode_, b2i, eq_false c1, eq_true c30, c39, ↓reduceIte, if_true, if_false, decide_true, decide_false, eq_self, b2i_t, b2i_f, Bool.false_eq_true, and_true, true_and, and_false, false_and, or_true, true_or, or_false, false_or, not_true_eq_false, not_false_eq_true] <;> rfl) | simp [canBeNode_, b2i, eq_false c1, eq_true c30, c39]) rfl
      · replace c39 := b2i_1 c39
        refine r_iload_n (pc := 42) hX dX8_canBeNode_42 rfl ?_
        refine r_if_ne (pc := 43) hX 50 dX8_canBeNode_43 (by decide) (fun c43 => ?_) (fun c43 => ?_)
        · refine r_iconst (pc := 50) hX 0 dX8_canBeNode_50 (by decide) ?_
          exact r_ireturn (pc := 51) hX dX8_canBeNode_51 rfl rfl (by first | with_reducible rfl | (simp only [canBeNode_, b2i, eq_false c1, eq_true c30, c39, eq_false c43, ↓reduceIte, if_true, if_false, decide_true, decide_false, eq_self, b2i_t, b2i_f, Bool.false_eq_true, and_true, true_and, and_false, false_and, or_true, true_or, or_false, false_or, not_true_eq_false, not_false_eq_true] <;> rfl) | simp [canBeNode_, b2i, eq_false c1, eq_true c30, c39, eq_false c43]) rfl
        · refine r_iconst (pc := 46) hX 1 dX8_canBeNode_46 (by decide) ?_
          refine r_goto (pc := 47) hX (tgt := 51) dX8_canBeNode_47 (by decide) ?_
          exact r_ireturn (pc := 51) hX dX8_canBeNode_51 rfl rfl (by first | with_reducible rfl | (simp only [canBeNode_, b2i, eq_false c1, eq_true c30, c39, eq_true c43, ↓reduceIte, if_true, if_false, decide_true, decide_false, eq_self, b2i_t, b2i_f, Bool.false_eq_true, and_true, true_and, and_false, false_and, or_true, true_or, or_false, false_or, not_true_eq_false, not_false_eq_true] <;> rfl) | simp [canBeNode_, b2i, eq_false c1, eq_true c30, c39, eq_true c43]) rfl
  · refine r_iload_n (pc := 4) hX dX8_canBeNode_4 rfl ?_
    refine r_sipush (pc := 5) hX (-999) dX8_canBeNode_5 (by decide) ?_
    refine r_icmp_lt (pc := 8) hX 26 dX8_canBeNode_8 (by decide) (fun c8 => ?_) (fun c8 => ?_)
    · have c8d := Int32.not_le.mpr c8
      refine r_iconst (pc := 26) hX 0 dX8_canBeNode_26 (by decide) ?_
      exact r_ireturn (pc := 27) hX dX8_canBeNode_27 rfl rfl (by first | with_reducible rfl | (simp only [canBeNode_, b2i, eq_true c1, eq_true c8, eq_false c8d, ↓reduceIte, if_true, if_false, decide_true, decide_false, eq_self, b2i_t, b2i_f, Bool.false_eq_true, and_true, true_and, and_false, false_and, or_true, true_or, or_false, false_or, not_true_eq_false, not_false_eq_true] <;> rfl) | simp [canBeNode_, b2i, eq_true c1, eq_true c8, eq_false c8d]) rfl
    · have c8d := Int32.not_lt.mp c8
      refine r_iload_n (pc := 11) hX dX8_canBeNode_11 rfl ?_
      refine r_sipush (pc := 12) hX 999 dX8_canBeNode_12 (by decide) ?_
      refine r_icmp_gt (pc := 15) hX 26 dX8_canBeNode_15 (by decide) (fun c15 => ?_) (fun c15 => ?_)
      · have c15d := Int32.not_le.mpr c15
        refine r_iconst (pc := 26) hX 0 dX8_canBeNode_26 (by decide) ?_
        exact r_ireturn (pc := 27) hX dX8_canBeNode_27 rfl rfl (by first | with_reducible rfl | (simp only [canBeNode_, b2i, eq_true c1, eq_false c8, eq_true c8d, eq_true c15, eq_false c15d, ↓reduceIte, if_true, if_false, decide_true, decide_false, eq_self, b2i_t, b2i_f, Bool.false_eq_true, and_true, true_and, and_false, false_and, or_true, true_or, or_false, false_or, not_true_eq_false, not_false_eq_true] <;> rfl) | simp [canBeNode_, b2i, eq_true c1, eq_false c8, eq_true c8d, eq_true c15, eq_false c15d]) rfl
      · have c15d := Int32.not_lt.mp c15
        refine r_iload_n (pc := 18) hX dX8_canBeNode_18 rfl ?_
        refine r_if_ne (pc := 19) hX 26 dX8_canBeNode_19 (by decide) (fun c19 => ?_) (fun c19 => ?_)
        · refine r_iconst (pc := 26) hX 0 dX8_canBeNode_26 (by decide) ?_
          exact r_ireturn (pc := 27) hX dX8_canBeNode_27 rfl rfl (by first | with_reducible rfl | (simp only [canBeNode_, b2i, eq_true c1, eq_false c8, eq_true c8d, eq_false c15, eq_true c15d, eq_false c19, ↓reduceIte, if_true, if_false, decide_true, decide_false, eq_self, b2i_t, b2i_f, Bool.false_eq_true, and_true, true_and, and_false, false_and, or_true, true_or, or_false, false_or, not_true_eq_false, not_false_eq_true] <;> rfl) | simp [canBeNode_, b2i, eq_true c1, eq_false c8, eq_true c8d, eq_false c15, eq_true c15d, eq_false c19]) rfl
        · refine r_iconst (pc := 22) hX 1 dX8_canBeNode_22 (by decide) ?_
          refine r_goto (pc := 23) hX (tgt := 27) dX8_canBeNode_23 (by decide) ?_
          exact r_ireturn (pc := 27) hX dX8_canBeNode_27 rfl rfl (by first | with_reducible rfl | (simp only [canBeNode_, b2i, eq_true c1, eq_false c8, eq_true c8d, eq_false c15, eq_true c15d, eq_true c19, ↓reduceIte, if_true, if_false, decide_true, decide_false, eq_self, b2i_t, b2i_f, Bool.false_eq_true, and_true, true_and, and_false, false_and, or_true, true_or, or_false, false_or, not_true_eq_false, not_false_eq_true] <;> rfl) | simp [canBeNode_, b2i, eq_true c1, eq_false c8, eq_true c8d, eq_false c15, eq_true c15d, eq_true c19]) rfl
set_option maxRecDepth 100000 in
set_option maxHeartbeats 1000000 in
theorem sp_X8_statementsIn {l : Launch} {k : im_K} {S : im_S} {I : im_I} {a : Nat} {p0 : Int32} (h : o_X8 S a) : im_Runs l k 1 mX8_statementsIn [.ref a, .int p0] (S, I) (some (.int (statementsIn_ I a p0))) (S, I) := by
  refine im_run (by decide +kernel) ⟨Nat.le_refl _, Nat.le_refl _⟩ (Nat.le_of_ble_eq_true rfl) ?_
  intro X hl hX hxn hxz hxc hxs
  subst hl
  change im_E X k _ 0 [some (.ref a), some (.int p0)] [] S I
  refine r_aload_n (pc := 0) hX dX8_statementsIn_0 rfl ?_
  refine r_getr (pc := 1) hX dX8_statementsIn_1 fl_X8_31 rfl (o_X8_k h) (o_X8_r8 h) ?_
  refine r_iload_n (pc := 4) hX dX8_statementsIn_4 rfl ?_
  refine r_callSN (Z := mX11_at) (pc := 5) hX dX8_statementsIn_5 mn_X8_51 mX11_at_w (sp_X11_at (o_X8_a8 h)) rfl rfl (Nat.le_of_ble_eq_true rfl) (by decide) rfl (Or.inl rfl) ?_
  exact r_ireturn (pc := 8) hX dX8_statementsIn_8 rfl rfl (by first | with_reducible rfl | (simp only [statementsIn_, ↓reduceIte, if_true, if_false, decide_true, decide_false, eq_self, b2i_t, b2i_f, Bool.false_eq_true, and_true, true_and, and_false, false_and, or_true, true_or, or_false, false_or, not_true_eq_false, not_false_eq_true] <;> rfl) | simp [statementsIn_]) rfl
set_option maxRecDepth 100000 in
set_option maxHeartbeats 1000000 in
theorem sp_X8_variableOf {l : Launch} {k : im_K} {S : im_S} {I : im_I} {a : Nat} {p0 : Int32} {p1 : Int32} (h : o_X8 S a) : im_Runs l k 1 mX8_variableOf [.ref a, .int p0, .int p1] (S, I) (some (.int (variableOf_ I a p0 p1))) (S, I) := by
  refine im_run (by decide +kernel) ⟨Nat.le_refl _, Nat.le_refl _⟩ (Nat.le_of_ble_eq_true rfl) ?_
  intro X hl hX hxn hxz hxc hxs
  subst hl
  change im_E X k _ 0 [some (.ref a), some (.int p0), some (.int p1)] [] S I
  refine r_aload_n (pc := 0) hX dX8_variableOf_0 rfl ?_
  refine r_getr (pc := 1) hX dX8_variableOf_1 fl_X8_34 rfl (o_X8_k h) (o_X8_r9 h) ?_
  refine r_iload_n (pc := 4) hX dX8_variableOf_4 rfl ?_
  refine r_iload_n (pc := 5) hX dX8_variableOf_5 rfl ?_
  refine r_callS (Z := mX8_placeOf) (pc := 6) hX dX8_variableOf_6 ml_X8_63 mX8_placeOf_w (sp_X8_placeOf) rfl rfl (Nat.le_of_ble_eq_true rfl) (by decide) rfl (Or.inl rfl) ?_
  refine r_callSN (Z := mX11_at) (pc := 9) hX dX8_variableOf_9 mn_X8_51 mX11_at_w (sp_X11_at (o_X8_a9 h)) rfl rfl (Nat.le_of_ble_eq_true rfl) (by decide) rfl (Or.inl rfl) ?_
  exact r_ireturn (pc := 12) hX dX8_variableOf_12 rfl rfl (by first | with_reducible rfl | (simp only [variableOf_, ↓reduceIte, if_true, if_false, decide_true, decide_false, eq_self, b2i_t, b2i_f, Bool.false_eq_true, and_true, true_and, and_false, false_and, or_true, true_or, or_false, false_or, not_true_eq_false, not_false_eq_true] <;> rfl) | simp [variableOf_]) rfl
set_option maxRecDepth 100000 in
set_option maxHeartbeats 1000000 in
theorem sp_X8_rootOf {l : Launch} {k : im_K} {S : im_S} {I : im_I} {a : Nat} {p0 : Int32} {p1 : Int32} (h : o_X8 S a) : im_Runs l k 1 mX8_rootOf [.ref a, .int p0, .int p1] (S, I) (some (.int (rootOf_ I a p0 p1))) (S, I) := by
  refine im_run (by decide +kernel) ⟨Nat.le_refl _, Nat.le_refl _⟩ (Nat.le_of_ble_eq_true rfl) ?_
  intro X hl hX hxn hxz hxc hxs
  subst hl
  change im_E X k _ 0 [some (.ref a), some (.int p0), some (.int p1)] [] S I
  refine r_aload_n (pc := 0) hX dX8_rootOf_0 rfl ?_
  refine r_getr (pc := 1) hX dX8_rootOf_1 fl_X8_37 rfl (o_X8_k h) (o_X8_r10 h) ?_
  refine r_iload_n (pc := 4) hX dX8_rootOf_4 rfl ?_
  refine r_iload_n (pc := 5) hX dX8_rootOf_5 rfl ?_
  refine r_callS (Z := mX8_placeOf) (pc := 6) hX dX8_rootOf_6 ml_X8_63 mX8_placeOf_w (sp_X8_placeOf) rfl rfl (Nat.le_of_ble_eq_true rfl) (by decide) rfl (Or.inl rfl) ?_
  refine r_callSN (Z := mX11_at) (pc := 9) hX dX8_rootOf_9 mn_X8_51 mX11_at_w (sp_X11_at (o_X8_a10 h)) rfl rfl (Nat.le_of_ble_eq_true rfl) (by decide) rfl (Or.inl rfl) ?_
  exact r_ireturn (pc := 12) hX dX8_rootOf_12 rfl rfl (by first | with_reducible rfl | (simp only [rootOf_, ↓reduceIte, if_true, if_false, decide_true, decide_false, eq_self, b2i_t, b2i_f, Bool.false_eq_true, and_true, true_and, and_false, false_and, or_true, true_or, or_false, false_or, not_true_eq_false, not_false_eq_true] <;> rfl) | simp [rootOf_]) rfl
set_option maxRecDepth 100000 in
set_option maxHeartbeats 1000000 in
theorem sp_X8_roundsOf {l : Launch} {k : im_K} {S : im_S} {I : im_I} {a : Nat} {p0 : Int32} (h : o_X8 S a) : im_Runs l k 1 mX8_roundsOf [.ref a, .int p0] (S, I) (some (.int (roundsOf_ I a p0))) (S, I) := by
  refine im_run (by decide +kernel) ⟨Nat.le_refl _, Nat.le_refl _⟩ (Nat.le_of_ble_eq_true rfl) ?_
  intro X hl hX hxn hxz hxc hxs
  subst hl
  change im_E X k _ 0 [some (.ref a), some (.int p0)] [] S I
  refine r_iload_n (pc := 0) hX dX8_roundsOf_0 rfl ?_
  refine r_iconst (pc := 1) hX (-1) dX8_roundsOf_1 (by decide) ?_
  refine r_icmp_ne (pc := 2) hX 9 dX8_roundsOf_2 (by decide) (fun c2 => ?_) (fun c2 => ?_)
  · refine r_aload_n (pc := 9) hX dX8_roundsOf_9 rfl ?_
    refine r_getr (pc := 10) hX dX8_roundsOf_10 fl_X8_15 rfl (o_X8_k h) (o_X8_r3 h) ?_
    refine r_iload_n (pc := 13) hX dX8_roundsOf_13 rfl ?_
    refine r_callSN (Z := mX11_at) (pc := 14) hX dX8_roundsOf_14 mn_X8_51 mX11_at_w (sp_X11_at (o_X8_a3 h)) rfl rfl (Nat.le_of_ble_eq_true rfl) (by decide) rfl (Or.inl rfl) ?_
    exact r_ireturn (pc := 17) hX dX8_roundsOf_17 rfl rfl (by first | with_reducible rfl | (simp only [roundsOf_, eq_false c2, ↓reduceIte, if_true, if_false, decide_true, decide_false, eq_self, b2i_t, b2i_f, Bool.false_eq_true, and_true, true_and, and_false, false_and, or_true, true_or, or_false, false_or, not_true_eq_false, not_false_eq_true] <;> rfl) | simp [roundsOf_, eq_false c2]) rfl
  · refine r_iconst (pc := 5) hX 1 dX8_roundsOf_5 (by decide) ?_
    refine r_goto (pc := 6) hX (tgt := 17) dX8_roundsOf_6 (by decide) ?_
    exact r_ireturn (pc := 17) hX dX8_roundsOf_17 rfl rfl (by first | with_reducible rfl | (simp only [roundsOf_, eq_true c2, ↓reduceIte, if_true, if_false, decide_true, decide_false, eq_self, b2i_t, b2i_f, Bool.false_eq_true, and_true, true_and, and_false, false_and, or_true, true_or, or_false, false_or, not_true_eq_false, not_false_eq_true] <;> rfl) | simp [roundsOf_, eq_true c2]) rfl
set_option maxRecDepth 100000 in
set_option maxHeartbeats 1000000 in
theorem sp_X8_addNode {l : Launch} {k : im_K} {S : im_S} {I : im_I} {a : Nat} {p0 : Int32} {p1 : Int32} {p2 : Int32} (h : o_X8 S a) : im_Runs l k 1 mX8_addNode [.ref a, .int p0, .int p1, .int p2] (S, I) (some (.int (I a 0))) (S, addNode_ I a p0 p1 p2) := by
  refine im_run (by decide +kernel) ⟨Nat.le_refl _, Nat.le_refl _⟩ (Nat.le_of_ble_eq_true rfl) ?_
  intro X hl hX hxn hxz hxc hxs
  subst hl
  change im_E X k _ 0 [some (.ref a), some (.int p0), some (.int p1), some (.int p2), none] [] S I
  refine r_aload_n (pc := 0) hX dX8_addNode_0 rfl ?_
  refine r_geti (pc := 1) hX dX8_addNode_1 fl_X8_48 rfl (o_X8_k h) ?_
  refine r_istore (pc := 4) hX (L' := [_, _, _, _, _]) dX8_addNode_4 rfl rfl (Nat.le_of_ble_eq_true rfl) ?_
  refine r_aload_n (pc := 6) hX dX8_addNode_6 rfl ?_
  refine r_getr (pc := 7) hX dX8_addNode_7 fl_X8_19 rfl (o_X8_k h) (o_X8_r4 h) ?_
  refine r_iload (pc := 10) hX dX8_addNode_10 rfl ?_
  refine r_iload_n (pc := 12) hX dX8_addNode_12 rfl ?_
  refine r_callSN (Z := mX11_put) (pc := 13) hX dX8_addNode_13 mn_X8_55 mX11_put_w (sp_X11_put (o_X8_a4 h)) rfl rfl (Nat.le_of_ble_eq_true rfl) (by decide) rfl (Or.inl rfl) ?_
  refine r_aload_n (pc := 16) hX dX8_addNode_16 rfl ?_
  refine r_getr (pc := 17) hX dX8_addNode_17 fl_X8_22 rfl (o_X8_k h) (o_X8_r5 h) ?_
  refine r_iload (pc := 20) hX dX8_addNode_20 rfl ?_
  refine r_iload_n (pc := 22) hX dX8_addNode_22 rfl ?_
  refine r_callSN (Z := mX11_put) (pc := 23) hX dX8_addNode_23 mn_X8_55 mX11_put_w (sp_X11_put (o_X8_a5 h)) rfl rfl (Nat.le_of_ble_eq_true rfl) (by decide) rfl (Or.inl rfl) ?_
  refine r_aload_n (pc := 26) hX dX8_addNode_26 rfl ?_
  refine r_getr (pc := 27) hX dX8_addNode_27 fl_X8_25 rfl (o_X8_k h) (o_X8_r6 h) ?_
  refine r_iload (pc := 30) hX dX8_addNode_30 rfl ?_
  refine r_iload_n (pc := 32) hX dX8_addNode_32 rfl ?_
  refine r_callSN (Z := mX11_put) (pc := 33) hX dX8_addNode_33 mn_X8_55 mX11_put_w (sp_X11_put (o_X8_a6 h)) rfl rfl (Nat.le_of_ble_eq_true rfl) (by decide) rfl (Or.inl rfl) ?_
  refine r_aload_n (pc := 36) hX dX8_addNode_36 rfl ?_
  refine r_getr (pc := 37) hX dX8_addNode_37 fl_X8_28 rfl (o_X8_k h) (o_X8_r7 h) ?_
  refine r_iload (pc := 40) hX dX8_addNode_40 rfl ?_
  refine r_iconst (pc := 42) hX 0 dX8_addNode_42 (by decide) ?_
  refine r_callSN (Z := mX11_put) (pc := 43) hX dX8_addNode_43 mn_X8_55 mX11_put_w (sp_X11_put (o_X8_a7 h)) rfl rfl (Nat.le_of_ble_eq_true rfl) (by decide) rfl (Or.inl rfl) ?_
  refine r_iload_n (pc := 46) hX dX8_addNode_46 rfl ?_
  refine r_iconst (pc := 47) hX 2 dX8_addNode_47 (by decide) ?_
  refine r_icmp_lt (pc := 48) hX 69 dX8_addNode_48 (by decide) (fun c48 => ?_) (fun c48 => ?_)
  · have c48d := Int32.not_le.mpr c48
    refine r_aload_n (pc := 69) hX dX8_addNode_69 rfl ?_
    refine r_dup (pc := 70) hX dX8_addNode_70 rfl ?_
    refine r_geti (pc := 71) hX dX8_addNode_71 fl_X8_48 rfl (o_X8_k h) ?_
    refine r_iconst (pc := 74) hX 1 dX8_addNode_74 (by decide) ?_
    refine r_iadd (pc := 75) hX dX8_addNode_75 ?_
    refine r_puti (pc := 76) hX dX8_addNode_76 fl_X8_48 rfl rfl (o_X8_k h) ?_
    refine r_iload (pc := 79) hX dX8_addNode_79 rfl ?_
    exact r_ireturn (pc := 81) hX dX8_addNode_81 rfl rfl (by first | with_reducible rfl | (simp only [addNode_, eq_true c48, eq_false c48d, ↓reduceIte, if_true, if_false, decide_true, decide_false, eq_self, b2i_t, b2i_f, Bool.false_eq_true, and_true, true_and, and_false, false_and, or_true, true_or, or_false, false_or, not_true_eq_false, not_false_eq_true] <;> rfl) | simp [addNode_, eq_true c48, eq_false c48d]) (by first | with_reducible rfl | (simp only [addNode_, eq_true c48, eq_false c48d, ↓reduceIte, if_true, if_false, decide_true, decide_false, eq_self, b2i_t, b2i_f, Bool.false_eq_true, and_true, true_and, and_false, false_and, or_true, true_or, or_false, false_or, not_true_eq_false, not_false_eq_true] <;> rfl) | simp [addNode_, eq_true c48, eq_false c48d])
  · have c48d := Int32.not_lt.mp c48
    refine r_aload_n (pc := 51) hX dX8_addNode_51 rfl ?_
    refine r_getr (pc := 52) hX dX8_addNode_52 fl_X8_28 rfl (o_X8_k h) (o_X8_r7 h) ?_
    refine r_iload_n (pc := 55) hX dX8_addNode_55 rfl ?_
    refine r_iconst (pc := 56) hX 1 dX8_addNode_56 (by decide) ?_
    refine r_callSN (Z := mX11_put) (pc := 57) hX dX8_addNode_57 mn_X8_55 mX11_put_w (sp_X11_put (o_X8_a7 h)) rfl rfl (Nat.le_of_ble_eq_true rfl) (by decide) rfl (Or.inl rfl) ?_
    refine r_aload_n (pc := 60) hX dX8_addNode_60 rfl ?_
    refine r_getr (pc := 61) hX dX8_addNode_61 fl_X8_28 rfl (o_X8_k h) (o_X8_r7 h) ?_
    refine r_iload_n (pc := 64) hX dX8_addNode_64 rfl ?_
    refine r_iconst (pc := 65) hX 1 dX8_addNode_65 (by decide) ?_
    refine r_callSN (Z := mX11_put) (pc := 66) hX dX8_addNode_66 mn_X8_55 mX11_put_w (sp_X11_put (o_X8_a7 h)) rfl rfl (Nat.le_of_ble_eq_true rfl) (by decide) rfl (Or.inl rfl) ?_
    refine r_aload_n (pc := 69) hX dX8_addNode_69 rfl ?_
    refine r_dup (pc := 70) hX dX8_addNode_70 rfl ?_
    refine r_geti (pc := 71) hX dX8_addNode_71 fl_X8_48 rfl (o_X8_k h) ?_
    refine r_iconst (pc := 74) hX 1 dX8_addNode_74 (by decide) ?_
    refine r_iadd (pc := 75) hX dX8_addNode_75 ?_
    refine r_puti (pc := 76) hX dX8_addNode_76 fl_X8_48 rfl rfl (o_X8_k h) ?_
    refine r_iload (pc := 79) hX dX8_addNode_79 rfl ?_
    exact r_ireturn (pc := 81) hX dX8_addNode_81 rfl rfl (by first | with_reducible rfl | (simp only [addNode_, eq_false c48, eq_true c48d, ↓reduceIte, if_true, if_false, decide_true, decide_false, eq_self, b2i_t, b2i_f, Bool.false_eq_true, and_true, true_and, and_false, false_and, or_true, true_or, or_false, false_or, not_true_eq_false, not_false_eq_true] <;> rfl) | simp [addNode_, eq_false c48, eq_true c48d]) (by first | with_reducible rfl | (simp only [addNode_, eq_false c48, eq_true c48d, ↓reduceIte, if_true, if_false, decide_true, decide_false, eq_self, b2i_t, b2i_f, Bool.false_eq_true, and_true, true_and, and_false, false_and, or_true, true_or, or_false, false_or, not_true_eq_false, not_false_eq_true] <;> rfl) | simp [addNode_, eq_false c48, eq_true c48d])
set_option maxRecDepth 100000 in
set_option maxHeartbeats 1000000 in
theorem sp_X8_addStatement {l : Launch} {k : im_K} {S : im_S} {I : im_I} {a : Nat} {p0 : Int32} {p1 : Int32} {p2 : Int32} (h : o_X8 S a) : im_Runs l k 2 mX8_addStatement [.ref a, .int p0, .int p1, .int p2] (S, I) (some (.int (statementsIn_ I a p0 + 1))) (S, addStatement_ I a p0 p1 p2) := by
  refine im_run (by decide +kernel) ⟨Nat.le_refl _, Nat.le_refl _⟩ (Nat.le_of_ble_eq_true rfl) ?_
  intro X hl hX hxn hxz hxc hxs
  subst hl
  change im_E X k _ 0 [some (.ref a), some (.int p0), some (.int p1), some (.int p2), none] [] S I
  refine r_aload_n (pc := 0) hX dX8_addStatement_0 rfl ?_
  refine r_iload_n (pc := 1) hX dX8_addStatement_1 rfl ?_
  refine r_callV (Z := mX8_statementsIn) (t := 8) (pc := 2) hX dX8_addStatement_2 ml_X8_59 mX8_statementsIn_w ⟨by decide, rfl⟩ (o_X8_k h) (sp_X8_statementsIn h) rfl rfl (Nat.le_of_ble_eq_true rfl) (by decide) rfl (Or.inl rfl) ?_
  refine r_istore (pc := 5) hX (L' := [_, _, _, _, _]) dX8_addStatement_5 rfl rfl (Nat.le_of_ble_eq_true rfl) ?_
  refine r_aload_n (pc := 7) hX dX8_addStatement_7 rfl ?_
  refine r_getr (pc := 8) hX dX8_addStatement_8 fl_X8_34 rfl (o_X8_k h) (o_X8_r9 h) ?_
  refine r_iload_n (pc := 11) hX dX8_addStatement_11 rfl ?_
  refine r_iload (pc := 12) hX dX8_addStatement_12 rfl ?_
  refine r_callS (Z := mX8_placeOf) (pc := 14) hX dX8_addStatement_14 ml_X8_63 mX8_placeOf_w (sp_X8_placeOf) rfl rfl (Nat.le_of_ble_eq_true rfl) (by decide) rfl (Or.inl rfl) ?_
  refine r_iload_n (pc := 17) hX dX8_addStatement_17 rfl ?_
  refine r_callSN (Z := mX11_put) (pc := 18) hX dX8_addStatement_18 mn_X8_55 mX11_put_w (sp_X11_put (o_X8_a9 h)) rfl rfl (Nat.le_of_ble_eq_true rfl) (by decide) rfl (Or.inl rfl) ?_
  refine r_aload_n (pc := 21) hX dX8_addStatement_21 rfl ?_
  refine r_getr (pc := 22) hX dX8_addStatement_22 fl_X8_37 rfl (o_X8_k h) (o_X8_r10 h) ?_
  refine r_iload_n (pc := 25) hX dX8_addStatement_25 rfl ?_
  refine r_iload (pc := 26) hX dX8_addStatement_26 rfl ?_
  refine r_callS (Z := mX8_placeOf) (pc := 28) hX dX8_addStatement_28 ml_X8_63 mX8_placeOf_w (sp_X8_placeOf) rfl rfl (Nat.le_of_ble_eq_true rfl) (by decide) rfl (Or.inl rfl) ?_
  refine r_iload_n (pc := 31) hX dX8_addStatement_31 rfl ?_
  refine r_callSN (Z := mX11_put) (pc := 32) hX dX8_addStatement_32 mn_X8_55 mX11_put_w (sp_X11_put (o_X8_a10 h)) rfl rfl (Nat.le_of_ble_eq_true rfl) (by decide) rfl (Or.inl rfl) ?_
  refine r_aload_n (pc := 35) hX dX8_addStatement_35 rfl ?_
  refine r_getr (pc := 36) hX dX8_addStatement_36 fl_X8_28 rfl (o_X8_k h) (o_X8_r7 h) ?_
  refine r_iload_n (pc := 39) hX dX8_addStatement_39 rfl ?_
  refine r_iconst (pc := 40) hX 1 dX8_addStatement_40 (by decide) ?_
  refine r_callSN (Z := mX11_put) (pc := 41) hX dX8_addStatement_41 mn_X8_55 mX11_put_w (sp_X11_put (o_X8_a7 h)) rfl rfl (Nat.le_of_ble_eq_true rfl) (by decide) rfl (Or.inl rfl) ?_
  refine r_aload_n (pc := 44) hX dX8_addStatement_44 rfl ?_
  refine r_getr (pc := 45) hX dX8_addStatement_45 fl_X8_31 rfl (o_X8_k h) (o_X8_r8 h) ?_
  refine r_iload_n (pc := 48) hX dX8_addStatement_48 rfl ?_
  refine r_iload (pc := 49) hX dX8_addStatement_49 rfl ?_
  refine r_iconst (pc := 51) hX 1 dX8_addStatement_51 (by decide) ?_
  refine r_iadd (pc := 52) hX dX8_addStatement_52 ?_
  refine r_callSN (Z := mX11_put) (pc := 53) hX dX8_addStatement_53 mn_X8_55 mX11_put_w (sp_X11_put (o_X8_a8 h)) rfl rfl (Nat.le_of_ble_eq_true rfl) (by decide) rfl (Or.inl rfl) ?_
  refine r_aload_n (pc := 56) hX dX8_addStatement_56 rfl ?_
  refine r_dup (pc := 57) hX dX8_addStatement_57 rfl ?_
  refine r_geti (pc := 58) hX dX8_addStatement_58 fl_X8_67 rfl (o_X8_k h) ?_
  refine r_iconst (pc := 61) hX 1 dX8_addStatement_61 (by decide) ?_
  refine r_iadd (pc := 62) hX dX8_addStatement_62 ?_
  refine r_puti (pc := 63) hX dX8_addStatement_63 fl_X8_67 rfl rfl (o_X8_k h) ?_
  refine r_iload (pc := 66) hX dX8_addStatement_66 rfl ?_
  refine r_iconst (pc := 68) hX 1 dX8_addStatement_68 (by decide) ?_
  refine r_iadd (pc := 69) hX dX8_addStatement_69 ?_
  exact r_ireturn (pc := 70) hX dX8_addStatement_70 rfl rfl (by first | with_reducible rfl | (simp only [addStatement_, ↓reduceIte, if_true, if_false, decide_true, decide_false, eq_self, b2i_t, b2i_f, Bool.false_eq_true, and_true, true_and, and_false, false_and, or_true, true_or, or_false, false_or, not_true_eq_false, not_false_eq_true] <;> rfl) | simp [addStatement_]) (by first | with_reducible rfl | (simp only [addStatement_, ↓reduceIte, if_true, if_false, decide_true, decide_false, eq_self, b2i_t, b2i_f, Bool.false_eq_true, and_true, true_and, and_false, false_and, or_true, true_or, or_false, false_or, not_true_eq_false, not_false_eq_true] <;> rfl) | simp [addStatement_])
set_option maxRecDepth 100000 in
set_option maxHeartbeats 1000000 in
theorem sp_X8_looseCount {l : Launch} {k : im_K} {S : im_S} {I : im_I} {a : Nat} (h : o_X8 S a) : im_Runs l k 2 mX8_looseCount [.ref a] (S, I) (some (.int (looseCount_ I a))) (S, I) := by
  refine im_run (by decide +kernel) ⟨Nat.le_refl _, Nat.le_refl _⟩ (Nat.le_of_ble_eq_true rfl) ?_
  intro X hl hX hxn hxz hxc hxs
  subst hl
  change im_E X k _ 0 [some (.ref a), none, none] [] S I
  refine r_iconst (pc := 0) hX 0 dX8_looseCount_0 (by decide) ?_
  refine r_istore_n (pc := 1) hX (L' := [_, _, _]) dX8_looseCount_1 rfl rfl (Nat.le_of_ble_eq_true rfl) ?_
  refine r_iconst (pc := 2) hX 0 dX8_looseCount_2 (by decide) ?_
  refine r_istore_n (pc := 3) hX (L' := [_, _, _]) dX8_looseCount_3 rfl rfl (Nat.le_of_ble_eq_true rfl) ?_
  have hL4 : ∀ (w : Nat) (i : Int32) (J : Int32), cnt i (I a 0) = w → loopN w i (fun i c => if isLoose_ I a i = false then c else c + 1) J = loopN (cnt (0) (I a 0)) (0) (fun i c => if isLoose_ I a i = false then c else c + 1) (0) → im_E X k (im_Q X k (some (.int (looseCount_ I a))) (S, I)) 4 [some (.ref a), some (.int J), some (.int i)] [] S I := by
    intro w
    induction w with
    | zero =>
      intro i J  hm hR
      refine r_iload_n (pc := 4) hX dX8_looseCount_4 rfl ?_
      refine r_aload_n (pc := 5) hX dX8_looseCount_5 rfl ?_
      refine r_geti (pc := 6) hX dX8_looseCount_6 fl_X8_48 rfl (o_X8_k h) ?_
      refine r_icmp_ge (pc := 9) hX 29 dX8_looseCount_9 (by decide) (fun c9 => ?_) (fun c9 => ?_)
      · have c9d := Int32.not_lt.mpr c9
        rw [loopN_0] at hR
        subst hR
        refine r_iload_n (pc := 29) hX dX8_looseCount_29 rfl ?_
        exact r_ireturn (pc := 30) hX dX8_looseCount_30 rfl rfl (by first | with_reducible rfl | (simp only [looseCount_, loopC, eq_true c9, eq_false c9d, ↓reduceIte, if_true, if_false, decide_true, decide_false, eq_self, b2i_t, b2i_f, Bool.false_eq_true, and_true, true_and, and_false, false_and, or_true, true_or, or_false, false_or, not_true_eq_false, not_false_eq_true] <;> rfl) | simp [looseCount_, loopC, eq_true c9, eq_false c9d]) rfl
      · have c9d := Int32.not_le.mp c9
        exact (cnt_ex hm  c9).elim
    | succ w ih =>
      intro i J  hm hR
      refine r_iload_n (pc := 4) hX dX8_looseCount_4 rfl ?_
      refine r_aload_n (pc := 5) hX dX8_looseCount_5 rfl ?_
      refine r_geti (pc := 6) hX dX8_looseCount_6 fl_X8_48 rfl (o_X8_k h) ?_
      refine r_icmp_ge (pc := 9) hX 29 dX8_looseCount_9 (by decide) (fun c9 => ?_) (fun c9 => ?_)
      · have c9d := Int32.not_lt.mpr c9
        exact (cnt_go hm  c9).elim
      · have c9d := Int32.not_le.mp c9
        refine r_aload_n (pc := 12) hX dX8_looseCount_12 rfl ?_
        refine r_iload_n (pc := 13) hX dX8_looseCount_13 rfl ?_
        refine r_callV (Z := mX8_isLoose) (t := 8) (pc := 14) hX dX8_looseCount_14 ml_X8_44 mX8_isLoose_w ⟨by decide, rfl⟩ (o_X8_k h) (sp_X8_isLoose h) rfl rfl (Nat.le_of_ble_eq_true rfl) (by decide) rfl (Or.inl rfl) ?_
        refine r_if_eq (pc := 17) hX 23 dX8_looseCount_17 (by decide) (fun c17 => ?_) (fun c17 => ?_)
        · replace c17 := b2i_0 c17
          refine r_iinc (pc := 23) hX 1 (L' := [_, _, _]) dX8_looseCount_23 rfl (by decide) rfl rfl ?_
          refine r_goto (pc := 26) hX (tgt := 4) dX8_looseCount_26 (by decide) ?_
          exact ih _ _  (cnt_nx hm) (by refine Eq.trans (congrArg (loopN w (i + 1) (fun i c => if isLoose_ I a i = false then c else c + 1)) ?_) (loopN_s.symm.trans hR); exact (by first | with_reducible rfl | (simp only [looseCount_, loopC, eq_false c9, eq_true c9d, c17, ↓reduceIte, if_true, if_false, decide_true, decide_false, eq_self, b2i_t, b2i_f, Bool.false_eq_true, and_true, true_and, and_false, false_and, or_true, true_or, or_false, false_or, not_true_eq_false, not_false_eq_true] <;> rfl) | simp [looseCount_, loopC, eq_false c9, eq_true c9d, c17]))
        · replace c17 := b2i_1 c17
          refine r_iinc (pc := 20) hX 1 (L' := [_, _, _]) dX8_looseCount_20 rfl (by decide) rfl rfl ?_
          refine r_iinc (pc := 23) hX 1 (L' := [_, _, _]) dX8_looseCount_23 rfl (by decide) rfl rfl ?_
          refine r_goto (pc := 26) hX (tgt := 4) dX8_looseCount_26 (by decide) ?_
          exact ih _ _  (cnt_nx hm) (by refine Eq.trans (congrArg (loopN w (i + 1) (fun i c => if isLoose_ I a i = false then c else c + 1)) ?_) (loopN_s.symm.trans hR); exact (by first | with_reducible rfl | (simp only [looseCount_, loopC, eq_false c9, eq_true c9d, c17, ↓reduceIte, if_true, if_false, decide_true, decide_false, eq_self, b2i_t, b2i_f, Bool.false_eq_true, and_true, true_and, and_false, false_and, or_true, true_or, or_false, false_or, not_true_eq_false, not_false_eq_true] <;> rfl) | simp [looseCount_, loopC, eq_false c9, eq_true c9d, c17]))
  exact hL4 (cnt (0) (I a 0)) (0) (0)  rfl rfl
set_option maxRecDepth 100000 in
set_option maxHeartbeats 1000000 in
theorem sp_X3_clear {l : Launch} {k : im_K} {S : im_S} {I : im_I} {a : Nat} (h : o_X3 S a) : im_Runs l k 0 mX3_clear [.ref a] (S, I) (none) (S, im_up I a 0 0) := by
  refine im_run (by decide +kernel) ⟨Nat.le_refl _, Nat.le_refl _⟩ (Nat.le_of_ble_eq_true rfl) ?_
  intro X hl hX hxn hxz hxc hxs
  subst hl
  change im_E X k _ 0 [some (.ref a)] [] S I
  refine r_aload_n (pc := 0) hX dX3_clear_0 rfl ?_
  refine r_iconst (pc := 1) hX 0 dX3_clear_1 (by decide) ?_
  refine r_puti (pc := 2) hX dX3_clear_2 fl_X3_30 rfl rfl (o_X3_k h) ?_
  exact r_return (pc := 5) hX dX3_clear_5 rfl rfl rfl
set_option maxRecDepth 100000 in
set_option maxHeartbeats 1000000 in
theorem sp_X3_add {l : Launch} {k : im_K} {S : im_S} {I : im_I} {a : Nat} {p0 : Int32} {p1 : Int32} {p2 : Int32} (h : o_X3 S a) : im_Runs l k 1 mX3_add [.ref a, .int p0, .int p1, .int p2] (S, I) (none) (S, add_ I a p0 p1 p2) := by
  refine im_run (by decide +kernel) ⟨Nat.le_refl _, Nat.le_refl _⟩ (Nat.le_of_ble_eq_true rfl) ?_
  intro X hl hX hxn hxz hxc hxs
  subst hl
  change im_E X k _ 0 [some (.ref a), some (.int p0), some (.int p1), some (.int p2)] [] S I
  refine r_aload_n (pc := 0) hX dX3_add_0 rfl ?_
  refine r_geti (pc := 1) hX dX3_add_1 fl_X3_30 rfl (o_X3_k h) ?_
  refine r_bipush (pc := 4) hX 88 dX3_add_4 (by decide) ?_
  refine r_icmp_lt (pc := 6) hX 10 dX3_add_6 (by decide) (fun c6 => ?_) (fun c6 => ?_)
  · have c6d := Int32.not_le.mpr c6
    refine r_aload_n (pc := 10) hX dX3_add_10 rfl ?_
    refine r_getr (pc := 11) hX dX3_add_11 fl_X3_9 rfl (o_X3_k h) (o_X3_r1 h) ?_
    refine r_aload_n (pc := 14) hX dX3_add_14 rfl ?_
    refine r_geti (pc := 15) hX dX3_add_15 fl_X3_30 rfl (o_X3_k h) ?_
    refine r_iload_n (pc := 18) hX dX3_add_18 rfl ?_
    refine r_callSN (Z := mX11_put) (pc := 19) hX dX3_add_19 mn_X3_34 mX11_put_w (sp_X11_put (o_X3_a1 h)) rfl rfl (Nat.le_of_ble_eq_true rfl) (by decide) rfl (Or.inl rfl) ?_
    refine r_aload_n (pc := 22) hX dX3_add_22 rfl ?_
    refine r_getr (pc := 23) hX dX3_add_23 fl_X3_15 rfl (o_X3_k h) (o_X3_r2 h) ?_
    refine r_aload_n (pc := 26) hX dX3_add_26 rfl ?_
    refine r_geti (pc := 27) hX dX3_add_27 fl_X3_30 rfl (o_X3_k h) ?_
    refine r_iload_n (pc := 30) hX dX3_add_30 rfl ?_
    refine r_callSN (Z := mX11_put) (pc := 31) hX dX3_add_31 mn_X3_34 mX11_put_w (sp_X11_put (o_X3_a2 h)) rfl rfl (Nat.le_of_ble_eq_true rfl) (by decide) rfl (Or.inl rfl) ?_
    refine r_aload_n (pc := 34) hX dX3_add_34 rfl ?_
    refine r_getr (pc := 35) hX dX3_add_35 fl_X3_21 rfl (o_X3_k h) (o_X3_r4 h) ?_
    refine r_aload_n (pc := 38) hX dX3_add_38 rfl ?_
    refine r_geti (pc := 39) hX dX3_add_39 fl_X3_30 rfl (o_X3_k h) ?_
    refine r_iconst (pc := 42) hX 0 dX3_add_42 (by decide) ?_
    refine r_callSN (Z := mX11_put) (pc := 43) hX dX3_add_43 mn_X3_34 mX11_put_w (sp_X11_put (o_X3_a4 h)) rfl rfl (Nat.le_of_ble_eq_true rfl) (by decide) rfl (Or.inl rfl) ?_
    refine r_aload_n (pc := 46) hX dX3_add_46 rfl ?_
    refine r_getr (pc := 47) hX dX3_add_47 fl_X3_24 rfl (o_X3_k h) (o_X3_r5 h) ?_
    refine r_aload_n (pc := 50) hX dX3_add_50 rfl ?_
    refine r_geti (pc := 51) hX dX3_add_51 fl_X3_30 rfl (o_X3_k h) ?_
    refine r_iload_n (pc := 54) hX dX3_add_54 rfl ?_
    refine r_callSN (Z := mX11_put) (pc := 55) hX dX3_add_55 mn_X3_34 mX11_put_w (sp_X11_put (o_X3_a5 h)) rfl rfl (Nat.le_of_ble_eq_true rfl) (by decide) rfl (Or.inl rfl) ?_
    refine r_aload_n (pc := 58) hX dX3_add_58 rfl ?_
    refine r_getr (pc := 59) hX dX3_add_59 fl_X3_27 rfl (o_X3_k h) (o_X3_r6 h) ?_
    refine r_aload_n (pc := 62) hX dX3_add_62 rfl ?_
    refine r_geti (pc := 63) hX dX3_add_63 fl_X3_30 rfl (o_X3_k h) ?_
    refine r_iconst (pc := 66) hX 0 dX3_add_66 (by decide) ?_
    refine r_callSN (Z := mX11_put) (pc := 67) hX dX3_add_67 mn_X3_34 mX11_put_w (sp_X11_put (o_X3_a6 h)) rfl rfl (Nat.le_of_ble_eq_true rfl) (by decide) rfl (Or.inl rfl) ?_
    refine r_aload_n (pc := 70) hX dX3_add_70 rfl ?_
    refine r_dup (pc := 71) hX dX3_add_71 rfl ?_
    refine r_geti (pc := 72) hX dX3_add_72 fl_X3_30 rfl (o_X3_k h) ?_
    refine r_iconst (pc := 75) hX 1 dX3_add_75 (by decide) ?_
    refine r_iadd (pc := 76) hX dX3_add_76 ?_
    refine r_puti (pc := 77) hX dX3_add_77 fl_X3_30 rfl rfl (o_X3_k h) ?_
    exact r_return (pc := 80) hX dX3_add_80 rfl rfl (by first | with_reducible rfl | (simp only [add_, eq_true c6, eq_false c6d, ↓reduceIte, if_true, if_false, decide_true, decide_false, eq_self, b2i_t, b2i_f, Bool.false_eq_true, and_true, true_and, and_false, false_and, or_true, true_or, or_false, false_or, not_true_eq_false, not_false_eq_true] <;> rfl) | simp [add_, eq_true c6, eq_false c6d])
  · have c6d := Int32.not_lt.mp c6
    exact r_return (pc := 9) hX dX3_add_9 rfl rfl (by first | with_reducible rfl | (simp only [add_, eq_false c6, eq_true c6d, ↓reduceIte, if_true, if_false, decide_true, decide_false, eq_self, b2i_t, b2i_f, Bool.false_eq_true, and_true, true_and, and_false, false_and, or_true, true_or, or_false, false_or, not_true_eq_false, not_false_eq_true] <;> rfl) | simp [add_, eq_false c6, eq_true c6d])
set_option maxRecDepth 100000 in
set_option maxHeartbeats 1000000 in
theorem sp_X3_setReads {l : Launch} {k : im_K} {S : im_S} {I : im_I} {a : Nat} {p0 : Int32} {p1 : Int32} {p2 : Int32} (h : o_X3 S a) : im_Runs l k 1 mX3_setReads [.ref a, .int p0, .int p1, .int p2] (S, I) (none) (S, setReads_ I a p0 p1 p2) := by
  refine im_run (by decide +kernel) ⟨Nat.le_refl _, Nat.le_refl _⟩ (Nat.le_of_ble_eq_true rfl) ?_
  intro X hl hX hxn hxz hxc hxs
  subst hl
  change im_E X k _ 0 [some (.ref a), some (.int p0), some (.int p1), some (.int p2), none] [] S I
  refine r_iconst (pc := 0) hX 3 dX3_setReads_0 (by decide) ?_
  refine r_aload_n (pc := 1) hX dX3_setReads_1 rfl ?_
  refine r_geti (pc := 2) hX dX3_setReads_2 fl_X3_30 rfl (o_X3_k h) ?_
  refine r_iconst (pc := 5) hX 1 dX3_setReads_5 (by decide) ?_
  refine r_isub (pc := 6) hX dX3_setReads_6 ?_
  refine r_imul (pc := 7) hX dX3_setReads_7 ?_
  refine r_istore (pc := 8) hX (L' := [_, _, _, _, _]) dX3_setReads_8 rfl rfl (Nat.le_of_ble_eq_true rfl) ?_
  refine r_aload_n (pc := 10) hX dX3_setReads_10 rfl ?_
  refine r_getr (pc := 11) hX dX3_setReads_11 fl_X3_18 rfl (o_X3_k h) (o_X3_r3 h) ?_
  refine r_iload (pc := 14) hX dX3_setReads_14 rfl ?_
  refine r_iload_n (pc := 16) hX dX3_setReads_16 rfl ?_
  refine r_callSN (Z := mX11_put) (pc := 17) hX dX3_setReads_17 mn_X3_34 mX11_put_w (sp_X11_put (o_X3_a3 h)) rfl rfl (Nat.le_of_ble_eq_true rfl) (by decide) rfl (Or.inl rfl) ?_
  refine r_aload_n (pc := 20) hX dX3_setReads_20 rfl ?_
  refine r_getr (pc := 21) hX dX3_setReads_21 fl_X3_18 rfl (o_X3_k h) (o_X3_r3 h) ?_
  refine r_iload (pc := 24) hX dX3_setReads_24 rfl ?_
  refine r_iconst (pc := 26) hX 1 dX3_setReads_26 (by decide) ?_
  refine r_iadd (pc := 27) hX dX3_setReads_27 ?_
  refine r_iload_n (pc := 28) hX dX3_setReads_28 rfl ?_
  refine r_callSN (Z := mX11_put) (pc := 29) hX dX3_setReads_29 mn_X3_34 mX11_put_w (sp_X11_put (o_X3_a3 h)) rfl rfl (Nat.le_of_ble_eq_true rfl) (by decide) rfl (Or.inl rfl) ?_
  refine r_aload_n (pc := 32) hX dX3_setReads_32 rfl ?_
  refine r_getr (pc := 33) hX dX3_setReads_33 fl_X3_18 rfl (o_X3_k h) (o_X3_r3 h) ?_
  refine r_iload (pc := 36) hX dX3_setReads_36 rfl ?_
  refine r_iconst (pc := 38) hX 2 dX3_setReads_38 (by decide) ?_
  refine r_iadd (pc := 39) hX dX3_setReads_39 ?_
  refine r_iload_n (pc := 40) hX dX3_setReads_40 rfl ?_
  refine r_callSN (Z := mX11_put) (pc := 41) hX dX3_setReads_41 mn_X3_34 mX11_put_w (sp_X11_put (o_X3_a3 h)) rfl rfl (Nat.le_of_ble_eq_true rfl) (by decide) rfl (Or.inl rfl) ?_
  exact r_return (pc := 44) hX dX3_setReads_44 rfl rfl (by first | with_reducible rfl | (simp only [setReads_, ↓reduceIte, if_true, if_false, decide_true, decide_false, eq_self, b2i_t, b2i_f, Bool.false_eq_true, and_true, true_and, and_false, false_and, or_true, true_or, or_false, false_or, not_true_eq_false, not_false_eq_true] <;> rfl) | simp [setReads_])
set_option maxRecDepth 100000 in
set_option maxHeartbeats 1000000 in
theorem sp_X3_setNumber {l : Launch} {k : im_K} {S : im_S} {I : im_I} {a : Nat} {p0 : Int32} (h : o_X3 S a) : im_Runs l k 1 mX3_setNumber [.ref a, .int p0] (S, I) (none) (S, setNumber_ I a p0) := by
  refine im_run (by decide +kernel) ⟨Nat.le_refl _, Nat.le_refl _⟩ (Nat.le_of_ble_eq_true rfl) ?_
  intro X hl hX hxn hxz hxc hxs
  subst hl
  change im_E X k _ 0 [some (.ref a), some (.int p0)] [] S I
  refine r_aload_n (pc := 0) hX dX3_setNumber_0 rfl ?_
  refine r_getr (pc := 1) hX dX3_setNumber_1 fl_X3_21 rfl (o_X3_k h) (o_X3_r4 h) ?_
  refine r_aload_n (pc := 4) hX dX3_setNumber_4 rfl ?_
  refine r_geti (pc := 5) hX dX3_setNumber_5 fl_X3_30 rfl (o_X3_k h) ?_
  refine r_iconst (pc := 8) hX 1 dX3_setNumber_8 (by decide) ?_
  refine r_isub (pc := 9) hX dX3_setNumber_9 ?_
  refine r_iload_n (pc := 10) hX dX3_setNumber_10 rfl ?_
  refine r_callSN (Z := mX11_put) (pc := 11) hX dX3_setNumber_11 mn_X3_34 mX11_put_w (sp_X11_put (o_X3_a4 h)) rfl rfl (Nat.le_of_ble_eq_true rfl) (by decide) rfl (Or.inl rfl) ?_
  exact r_return (pc := 14) hX dX3_setNumber_14 rfl rfl (by first | with_reducible rfl | (simp only [setNumber_, ↓reduceIte, if_true, if_false, decide_true, decide_false, eq_self, b2i_t, b2i_f, Bool.false_eq_true, and_true, true_and, and_false, false_and, or_true, true_or, or_false, false_or, not_true_eq_false, not_false_eq_true] <;> rfl) | simp [setNumber_])
set_option maxRecDepth 100000 in
set_option maxHeartbeats 1000000 in
theorem sp_X3_setHeight {l : Launch} {k : im_K} {S : im_S} {I : im_I} {a : Nat} {p0 : Int32} {p1 : Int32} (h : o_X3 S a) : im_Runs l k 1 mX3_setHeight [.ref a, .int p0, .int p1] (S, I) (none) (S, setHeight_ I a p0 p1) := by
  refine im_run (by decide +kernel) ⟨Nat.le_refl _, Nat.le_refl _⟩ (Nat.le_of_ble_eq_true rfl) ?_
  intro X hl hX hxn hxz hxc hxs
  subst hl
  change im_E X k _ 0 [some (.ref a), some (.int p0), some (.int p1)] [] S I
  refine r_aload_n (pc := 0) hX dX3_setHeight_0 rfl ?_
  refine r_getr (pc := 1) hX dX3_setHeight_1 fl_X3_27 rfl (o_X3_k h) (o_X3_r6 h) ?_
  refine r_iload_n (pc := 4) hX dX3_setHeight_4 rfl ?_
  refine r_iload_n (pc := 5) hX dX3_setHeight_5 rfl ?_
  refine r_callSN (Z := mX11_put) (pc := 6) hX dX3_setHeight_6 mn_X3_34 mX11_put_w (sp_X11_put (o_X3_a6 h)) rfl rfl (Nat.le_of_ble_eq_true rfl) (by decide) rfl (Or.inl rfl) ?_
  exact r_return (pc := 9) hX dX3_setHeight_9 rfl rfl (by first | with_reducible rfl | (simp only [setHeight_, ↓reduceIte, if_true, if_false, decide_true, decide_false, eq_self, b2i_t, b2i_f, Bool.false_eq_true, and_true, true_and, and_false, false_and, or_true, true_or, or_false, false_or, not_true_eq_false, not_false_eq_true] <;> rfl) | simp [setHeight_])
set_option maxRecDepth 100000 in
set_option maxHeartbeats 1000000 in
theorem sp_X3_addCopy {l : Launch} {k : im_K} {S : im_S} {I : im_I} {a : Nat} {b0 : Nat} {p1 : Int32} (h : o_X3 S a) (hb0 : o_X3 S b0) : im_Runs l k 2 mX3_addCopy [.ref a, .ref b0, .int p1] (S, I) (none) (S, addCopy_ I a b0 p1) := by
  refine im_run (by decide +kernel) ⟨Nat.le_refl _, Nat.le_refl _⟩ (Nat.le_of_ble_eq_true rfl) ?_
  intro X hl hX hxn hxz hxc hxs
  subst hl
  change im_E X k _ 0 [some (.ref a), some (.ref b0), some (.int p1)] [] S I
  refine r_aload_n (pc := 0) hX dX3_addCopy_0 rfl ?_
  refine r_aload_n (pc := 1) hX dX3_addCopy_1 rfl ?_
  refine r_iload_n (pc := 2) hX dX3_addCopy_2 rfl ?_
  refine r_callV (Z := mX3_kindOf) (t := 3) (pc := 3) hX dX3_addCopy_3 ml_X3_38 mX3_kindOf_w ⟨by decide, rfl⟩ (o_X3_k hb0) (sp_X3_kindOf hb0) rfl rfl (Nat.le_of_ble_eq_true rfl) (by decide) rfl (Or.inl rfl) ?_
  refine r_aload_n (pc := 6) hX dX3_addCopy_6 rfl ?_
  refine r_iload_n (pc := 7) hX dX3_addCopy_7 rfl ?_
  refine r_callV (Z := mX3_writtenBy) (t := 3) (pc := 8) hX dX3_addCopy_8 ml_X3_42 mX3_writtenBy_w ⟨by decide, rfl⟩ (o_X3_k hb0) (sp_X3_writtenBy hb0) rfl rfl (Nat.le_of_ble_eq_true rfl) (by decide) rfl (Or.inl rfl) ?_
  refine r_aload_n (pc := 11) hX dX3_addCopy_11 rfl ?_
  refine r_iload_n (pc := 12) hX dX3_addCopy_12 rfl ?_
  refine r_callV (Z := mX3_blockOf) (t := 3) (pc := 13) hX dX3_addCopy_13 ml_X3_45 mX3_blockOf_w ⟨by decide, rfl⟩ (o_X3_k hb0) (sp_X3_blockOf hb0) rfl rfl (Nat.le_of_ble_eq_true rfl) (by decide) rfl (Or.inl rfl) ?_
  refine r_callV (Z := mX3_add) (t := 3) (pc := 16) hX dX3_addCopy_16 ml_X3_48 mX3_add_w ⟨by decide, rfl⟩ (o_X3_k h) (sp_X3_add h) rfl rfl (Nat.le_of_ble_eq_true rfl) (by decide) rfl (Or.inl rfl) ?_
  refine r_aload_n (pc := 19) hX dX3_addCopy_19 rfl ?_
  refine r_aload_n (pc := 20) hX dX3_addCopy_20 rfl ?_
  refine r_iload_n (pc := 21) hX dX3_addCopy_21 rfl ?_
  refine r_iconst (pc := 22) hX 0 dX3_addCopy_22 (by decide) ?_
  refine r_callV (Z := mX3_readBy) (t := 3) (pc := 23) hX dX3_addCopy_23 ml_X3_52 mX3_readBy_w ⟨by decide, rfl⟩ (o_X3_k hb0) (sp_X3_readBy hb0) rfl rfl (Nat.le_of_ble_eq_true rfl) (by decide) rfl (Or.inl rfl) ?_
  refine r_aload_n (pc := 26) hX dX3_addCopy_26 rfl ?_
  refine r_iload_n (pc := 27) hX dX3_addCopy_27 rfl ?_
  refine r_iconst (pc := 28) hX 1 dX3_addCopy_28 (by decide) ?_
  refine r_callV (Z := mX3_readBy) (t := 3) (pc := 29) hX dX3_addCopy_29 ml_X3_52 mX3_readBy_w ⟨by decide, rfl⟩ (o_X3_k hb0) (sp_X3_readBy hb0) rfl rfl (Nat.le_of_ble_eq_true rfl) (by decide) rfl (Or.inl rfl) ?_
  refine r_aload_n (pc := 32) hX dX3_addCopy_32 rfl ?_
  refine r_iload_n (pc := 33) hX dX3_addCopy_33 rfl ?_
  refine r_iconst (pc := 34) hX 2 dX3_addCopy_34 (by decide) ?_
  refine r_callV (Z := mX3_readBy) (t := 3) (pc := 35) hX dX3_addCopy_35 ml_X3_52 mX3_readBy_w ⟨by decide, rfl⟩ (o_X3_k hb0) (sp_X3_readBy hb0) rfl rfl (Nat.le_of_ble_eq_true rfl) (by decide) rfl (Or.inl rfl) ?_
  refine r_callV (Z := mX3_setReads) (t := 3) (pc := 38) hX dX3_addCopy_38 ml_X3_56 mX3_setReads_w ⟨by decide, rfl⟩ (o_X3_k h) (sp_X3_setReads h) rfl rfl (Nat.le_of_ble_eq_true rfl) (by decide) rfl (Or.inl rfl) ?_
  refine r_aload_n (pc := 41) hX dX3_addCopy_41 rfl ?_
  refine r_aload_n (pc := 42) hX dX3_addCopy_42 rfl ?_
  refine r_iload_n (pc := 43) hX dX3_addCopy_43 rfl ?_
  refine r_callV (Z := mX3_numberOf) (t := 3) (pc := 44) hX dX3_addCopy_44 ml_X3_59 mX3_numberOf_w ⟨by decide, rfl⟩ (o_X3_k hb0) (sp_X3_numberOf hb0) rfl rfl (Nat.le_of_ble_eq_true rfl) (by decide) rfl (Or.inl rfl) ?_
  refine r_callV (Z := mX3_setNumber) (t := 3) (pc := 47) hX dX3_addCopy_47 ml_X3_62 mX3_setNumber_w ⟨by decide, rfl⟩ (o_X3_k h) (sp_X3_setNumber h) rfl rfl (Nat.le_of_ble_eq_true rfl) (by decide) rfl (Or.inl rfl) ?_
  refine r_aload_n (pc := 50) hX dX3_addCopy_50 rfl ?_
  refine r_aload_n (pc := 51) hX dX3_addCopy_51 rfl ?_
  refine r_geti (pc := 52) hX dX3_addCopy_52 fl_X3_30 rfl (o_X3_k h) ?_
  refine r_iconst (pc := 55) hX 1 dX3_addCopy_55 (by decide) ?_
  refine r_isub (pc := 56) hX dX3_addCopy_56 ?_
  refine r_aload_n (pc := 57) hX dX3_addCopy_57 rfl ?_
  refine r_iload_n (pc := 58) hX dX3_addCopy_58 rfl ?_
  refine r_callV (Z := mX3_heightOf) (t := 3) (pc := 59) hX dX3_addCopy_59 ml_X3_66 mX3_heightOf_w ⟨by decide, rfl⟩ (o_X3_k hb0) (sp_X3_heightOf hb0) rfl rfl (Nat.le_of_ble_eq_true rfl) (by decide) rfl (Or.inl rfl) ?_
  refine r_callV (Z := mX3_setHeight) (t := 3) (pc := 62) hX dX3_addCopy_62 ml_X3_69 mX3_setHeight_w ⟨by decide, rfl⟩ (o_X3_k h) (sp_X3_setHeight h) rfl rfl (Nat.le_of_ble_eq_true rfl) (by decide) rfl (Or.inl rfl) ?_
  exact r_return (pc := 65) hX dX3_addCopy_65 rfl rfl (by first | with_reducible rfl | (simp only [addCopy_, ↓reduceIte, if_true, if_false, decide_true, decide_false, eq_self, b2i_t, b2i_f, Bool.false_eq_true, and_true, true_and, and_false, false_and, or_true, true_or, or_false, false_or, not_true_eq_false, not_false_eq_true] <;> rfl) | simp [addCopy_])
set_option maxRecDepth 100000 in
set_option maxHeartbeats 1000000 in
theorem sp_X3_isReading {l : Launch} {k : im_K} {S : im_S} {I : im_I} {a : Nat} {p0 : Int32} {p1 : Int32} (h : o_X3 S a) : im_Runs l k 1 mX3_isReading [.ref a, .int p0, .int p1] (S, I) (some (.int (b2i (isReading_ I a p0 p1)))) (S, I) := by
  refine im_run (by decide +kernel) ⟨Nat.le_refl _, Nat.le_refl _⟩ (Nat.le_of_ble_eq_true rfl) ?_
  intro X hl hX hxn hxz hxc hxs
  subst hl
  change im_E X k _ 0 [some (.ref a), some (.int p0), some (.int p1), none] [] S I
  refine r_iconst (pc := 0) hX 3 dX3_isReading_0 (by decide) ?_
  refine r_iload_n (pc := 1) hX dX3_isReading_1 rfl ?_
  refine r_imul (pc := 2) hX dX3_isReading_2 ?_
  refine r_istore_n (pc := 3) hX (L' := [_, _, _, _]) dX3_isReading_3 rfl rfl (Nat.le_of_ble_eq_true rfl) ?_
  refine r_aload_n (pc := 4) hX dX3_isReading_4 rfl ?_
  refine r_getr (pc := 5) hX dX3_isReading_5 fl_X3_18 rfl (o_X3_k h) (o_X3_r3 h) ?_
  refine r_iload_n (pc := 8) hX dX3_isReading_8 rfl ?_
  refine r_callSN (Z := mX11_at) (pc := 9) hX dX3_isReading_9 mn_X3_73 mX11_at_w (sp_X11_at (o_X3_a3 h)) rfl rfl (Nat.le_of_ble_eq_true rfl) (by decide) rfl (Or.inl rfl) ?_
  refine r_iload_n (pc := 12) hX dX3_isReading_12 rfl ?_
  refine r_icmp_eq (pc := 13) hX 44 dX3_isReading_13 (by decide) (fun c13 => ?_) (fun c13 => ?_)
  · refine r_iconst (pc := 44) hX 1 dX3_isReading_44 (by decide) ?_
    refine r_goto (pc := 45) hX (tgt := 49) dX3_isReading_45 (by decide) ?_
    exact r_ireturn (pc := 49) hX dX3_isReading_49 rfl rfl (by first | with_reducible rfl | (simp only [isReading_, b2i, eq_true c13, ↓reduceIte, if_true, if_false, decide_true, decide_false, eq_self, b2i_t, b2i_f, Bool.false_eq_true, and_true, true_and, and_false, false_and, or_true, true_or, or_false, false_or, not_true_eq_false, not_false_eq_true] <;> rfl) | simp [isReading_, b2i, eq_true c13]) rfl
  · refine r_aload_n (pc := 16) hX dX3_isReading_16 rfl ?_
    refine r_getr (pc := 17) hX dX3_isReading_17 fl_X3_18 rfl (o_X3_k h) (o_X3_r3 h) ?_
    refine r_iload_n (pc := 20) hX dX3_isReading_20 rfl ?_
    refine r_iconst (pc := 21) hX 1 dX3_isReading_21 (by decide) ?_
    refine r_iadd (pc := 22) hX dX3_isReading_22 ?_
    refine r_callSN (Z := mX11_at) (pc := 23) hX dX3_isReading_23 mn_X3_73 mX11_at_w (sp_X11_at (o_X3_a3 h)) rfl rfl (Nat.le_of_ble_eq_true rfl) (by decide) rfl (Or.inl rfl) ?_
    refine r_iload_n (pc := 26) hX dX3_isReading_26 rfl ?_
    refine r_icmp_eq (pc := 27) hX 44 dX3_isReading_27 (by decide) (fun c27 => ?_) (fun c27 => ?_)
    · refine r_iconst (pc := 44) hX 1 dX3_isReading_44 (by decide) ?_
      refine r_goto (pc := 45) hX (tgt := 49) dX3_isReading_45 (by decide) ?_
      exact r_ireturn (pc := 49) hX dX3_isReading_49 rfl rfl (by first | with_reducible rfl | (simp only [isReading_, b2i, eq_false c13, eq_true c27, ↓reduceIte, if_true, if_false, decide_true, decide_false, eq_self, b2i_t, b2i_f, Bool.false_eq_true, and_true, true_and, and_false, false_and, or_true, true_or, or_false, false_or, not_true_eq_false, not_false_eq_true] <;> rfl) | simp [isReading_, b2i, eq_false c13, eq_true c27]) rfl
    · refine r_aload_n (pc := 30) hX dX3_isReading_30 rfl ?_
      refine r_getr (pc := 31) hX dX3_isReading_31 fl_X3_18 rfl (o_X3_k h) (o_X3_r3 h) ?_
      refine r_iload_n (pc := 34) hX dX3_isReading_34 rfl ?_
      refine r_iconst (pc := 35) hX 2 dX3_isReading_35 (by decide) ?_
      refine r_iadd (pc := 36) hX dX3_isReading_36 ?_
      refine r_callSN (Z := mX11_at) (pc := 37) hX dX3_isReading_37 mn_X3_73 mX11_at_w (sp_X11_at (o_X3_a3 h)) rfl rfl (Nat.le_of_ble_eq_true rfl) (by decide) rfl (Or.inl rfl) ?_
      refine r_iload_n (pc := 40) hX dX3_isReading_40 rfl ?_
      refine r_icmp_ne (pc := 41) hX 48 dX3_isReading_41 (by decide) (fun c41 => ?_) (fun c41 => ?_)
      · refine r_iconst (pc := 48) hX 0 dX3_isReading_48 (by decide) ?_
        exact r_ireturn (pc := 49) hX dX3_isReading_49 rfl rfl (by first | with_reducible rfl | (simp only [isReading_, b2i, eq_false c13, eq_false c27, eq_false c41, ↓reduceIte, if_true, if_false, decide_true, decide_false, eq_self, b2i_t, b2i_f, Bool.false_eq_true, and_true, true_and, and_false, false_and, or_true, true_or, or_false, false_or, not_true_eq_false, not_false_eq_true] <;> rfl) | simp [isReading_, b2i, eq_false c13, eq_false c27, eq_false c41]) rfl
      · refine r_iconst (pc := 44) hX 1 dX3_isReading_44 (by decide) ?_
        refine r_goto (pc := 45) hX (tgt := 49) dX3_isReading_45 (by decide) ?_
        exact r_ireturn (pc := 49) hX dX3_isReading_49 rfl rfl (by first | with_reducible rfl | (simp only [isReading_, b2i, eq_false c13, eq_false c27, eq_true c41, ↓reduceIte, if_true, if_false, decide_true, decide_false, eq_self, b2i_t, b2i_f, Bool.false_eq_true, and_true, true_and, and_false, false_and, or_true, true_or, or_false, false_or, not_true_eq_false, not_false_eq_true] <;> rfl) | simp [isReading_, b2i, eq_false c13, eq_false c27, eq_true c41]) rfl
set_option maxRecDepth 100000 in
set_option maxHeartbeats 1000000 in
theorem sp_X0_setNodes {l : Launch} {k : im_K} {S : im_S} {I : im_I} {x0 n0 : Nat} {p1 : Int32} {p2 : Int32} {p3 : Int32} {p4 : Int32} (hx0 : im_k S x0 = (20, n0)) (hn : n0 < 2 ^ 31 := by first | decide | assumption) : im_Runs l k 1 mX0_setNodes [.ref x0, .int p1, .int p2, .int p3, .int p4] (S, I) (none) (S, setNodes_ I x0 n0 p1 p2 p3 p4) := by
  refine im_run (by decide +kernel) ⟨Nat.le_refl _, Nat.le_refl _⟩ (Nat.le_of_ble_eq_true rfl) ?_
  intro X hl hX hxn hxz hxc hxs
  subst hl
  change im_E X k _ 0 [some (.ref x0), some (.int p1), some (.int p2), some (.int p3), some (.int p4)] [] S I
  refine r_aload_n (pc := 0) hX dX0_setNodes_0 rfl ?_
  refine r_iconst (pc := 1) hX 3 dX0_setNodes_1 (by decide) ?_
  refine r_iload_n (pc := 2) hX dX0_setNodes_2 rfl ?_
  refine r_imul (pc := 3) hX dX0_setNodes_3 ?_
  refine r_iload_n (pc := 4) hX dX0_setNodes_4 rfl ?_
  refine r_callSN (Z := mX11_put) (pc := 5) hX dX0_setNodes_5 mn_X0_58 mX11_put_w (sp_X11_put hx0) rfl rfl (Nat.le_of_ble_eq_true rfl) (by decide) rfl (Or.inl rfl) ?_
  refine r_aload_n (pc := 8) hX dX0_setNodes_8 rfl ?_
  refine r_iconst (pc := 9) hX 3 dX0_setNodes_9 (by decide) ?_
  refine r_iload_n (pc := 10) hX dX0_setNodes_10 rfl ?_
  refine r_imul (pc := 11) hX dX0_setNodes_11 ?_
  refine r_iconst (pc := 12) hX 1 dX0_setNodes_12 (by decide) ?_
  refine r_iadd (pc := 13) hX dX0_setNodes_13 ?_
  refine r_iload_n (pc := 14) hX dX0_setNodes_14 rfl ?_
  refine r_callSN (Z := mX11_put) (pc := 15) hX dX0_setNodes_15 mn_X0_58 mX11_put_w (sp_X11_put hx0) rfl rfl (Nat.le_of_ble_eq_true rfl) (by decide) rfl (Or.inl rfl) ?_
  refine r_aload_n (pc := 18) hX dX0_setNodes_18 rfl ?_
  refine r_iconst (pc := 19) hX 3 dX0_setNodes_19 (by decide) ?_
  refine r_iload_n (pc := 20) hX dX0_setNodes_20 rfl ?_
  refine r_imul (pc := 21) hX dX0_setNodes_21 ?_
  refine r_iconst (pc := 22) hX 2 dX0_setNodes_22 (by decide) ?_
  refine r_iadd (pc := 23) hX dX0_setNodes_23 ?_
  refine r_iload (pc := 24) hX dX0_setNodes_24 rfl ?_
  refine r_callSN (Z := mX11_put) (pc := 26) hX dX0_setNodes_26 mn_X0_58 mX11_put_w (sp_X11_put hx0) rfl rfl (Nat.le_of_ble_eq_true rfl) (by decide) rfl (Or.inl rfl) ?_
  exact r_return (pc := 29) hX dX0_setNodes_29 rfl rfl (by first | with_reducible rfl | (simp only [setNodes_, ↓reduceIte, if_true, if_false, decide_true, decide_false, eq_self, b2i_t, b2i_f, Bool.false_eq_true, and_true, true_and, and_false, false_and, or_true, true_or, or_false, false_or, not_true_eq_false, not_false_eq_true] <;> rfl) | simp [setNodes_])
set_option maxRecDepth 100000 in
set_option maxHeartbeats 1000000 in
theorem sp_X0_coverLeaf {l : Launch} {k : im_K} {S : im_S} {I : im_I} {a m : Nat} {p0 : Int32} {p1 : Int32} (h : o_X0 S a m) : im_Runs l k 2 mX0_coverLeaf [.ref a, .int p0, .int p1] (S, I) (none) (S, coverLeaf_ I a m p0 p1) := by
  refine im_run (by decide +kernel) ⟨Nat.le_refl _, Nat.le_refl _⟩ (Nat.le_of_ble_eq_true rfl) ?_
  intro X hl hX hxn hxz hxc hxs
  subst hl
  change im_E X k _ 0 [some (.ref a), some (.int p0), some (.int p1)] [] S I
  refine r_aload_n (pc := 0) hX dX0_coverLeaf_0 rfl ?_
  refine r_getr (pc := 1) hX dX0_coverLeaf_1 fl_X0_29 rfl (o_X0_k h) (o_X0_r5 h) ?_
  refine r_iload_n (pc := 4) hX dX0_coverLeaf_4 rfl ?_
  refine r_iconst (pc := 5) hX (-1) dX0_coverLeaf_5 (by decide) ?_
  refine r_iconst (pc := 6) hX (-1) dX0_coverLeaf_6 (by decide) ?_
  refine r_iconst (pc := 7) hX (-1) dX0_coverLeaf_7 (by decide) ?_
  refine r_callS (Z := mX0_setNodes) (pc := 8) hX dX0_coverLeaf_8 ml_X0_75 mX0_setNodes_w (sp_X0_setNodes (o_X0_a5 h)) rfl rfl (Nat.le_of_ble_eq_true rfl) (by decide) rfl (Or.inl rfl) ?_
  refine r_aload_n (pc := 11) hX dX0_coverLeaf_11 rfl ?_
  refine r_getr (pc := 12) hX dX0_coverLeaf_12 fl_X0_32 rfl (o_X0_k h) (o_X0_r6 h) ?_
  refine r_iload_n (pc := 15) hX dX0_coverLeaf_15 rfl ?_
  refine r_iconst (pc := 16) hX (-1) dX0_coverLeaf_16 (by decide) ?_
  refine r_iconst (pc := 17) hX (-1) dX0_coverLeaf_17 (by decide) ?_
  refine r_iconst (pc := 18) hX (-1) dX0_coverLeaf_18 (by decide) ?_
  refine r_callS (Z := mX0_setNodes) (pc := 19) hX dX0_coverLeaf_19 ml_X0_75 mX0_setNodes_w (sp_X0_setNodes (o_X0_a6 h)) rfl rfl (Nat.le_of_ble_eq_true rfl) (by decide) rfl (Or.inl rfl) ?_
  refine r_iload_n (pc := 22) hX dX0_coverLeaf_22 rfl ?_
  refine r_iconst (pc := 23) hX 1 dX0_coverLeaf_23 (by decide) ?_
  refine r_icmp_ne (pc := 24) hX 48 dX0_coverLeaf_24 (by decide) (fun c24 => ?_) (fun c24 => ?_)
  · refine r_aload_n (pc := 48) hX dX0_coverLeaf_48 rfl ?_
    refine r_getr (pc := 49) hX dX0_coverLeaf_49 fl_X0_23 rfl (o_X0_k h) (o_X0_r3 h) ?_
    refine r_iload_n (pc := 52) hX dX0_coverLeaf_52 rfl ?_
    refine r_iconst (pc := 53) hX 0 dX0_coverLeaf_53 (by decide) ?_
    refine r_callSN (Z := mX11_put) (pc := 54) hX dX0_coverLeaf_54 mn_X0_58 mX11_put_w (sp_X11_put (o_X0_a3 h)) rfl rfl (Nat.le_of_ble_eq_true rfl) (by decide) rfl (Or.inl rfl) ?_
    refine r_aload_n (pc := 57) hX dX0_coverLeaf_57 rfl ?_
    refine r_getr (pc := 58) hX dX0_coverLeaf_58 fl_X0_19 rfl (o_X0_k h) (o_X0_r0 h) ?_
    refine r_iload_n (pc := 61) hX dX0_coverLeaf_61 rfl ?_
    refine r_aload_n (pc := 62) hX dX0_coverLeaf_62 rfl ?_
    refine r_getr (pc := 63) hX dX0_coverLeaf_63 fl_X0_15 rfl (o_X0_k h) (o_X0_r2 h) ?_
    refine r_iconst (pc := 66) hX 0 dX0_coverLeaf_66 (by decide) ?_
    refine r_callV (Z := mX5_cyclesOf) (t := 5) (pc := 67) hX dX0_coverLeaf_67 ml_X0_79 mX5_cyclesOf_w ⟨by decide, rfl⟩ (o_X5_k (o_X0_o2 h)) (sp_X5_cyclesOf (o_X0_o2 h)) rfl rfl (Nat.le_of_ble_eq_true rfl) (by decide) rfl (Or.inl rfl) ?_
    refine r_callSN (Z := mX11_put) (pc := 70) hX dX0_coverLeaf_70 mn_X0_58 mX11_put_w (sp_X11_put (o_X0_a0 h)) rfl rfl (Nat.le_of_ble_eq_true rfl) (by decide) rfl (Or.inl rfl) ?_
    refine r_aload_n (pc := 73) hX dX0_coverLeaf_73 rfl ?_
    refine r_getr (pc := 74) hX dX0_coverLeaf_74 fl_X0_26 rfl (o_X0_k h) (o_X0_r4 h) ?_
    refine r_iload_n (pc := 77) hX dX0_coverLeaf_77 rfl ?_
    refine r_aload_n (pc := 78) hX dX0_coverLeaf_78 rfl ?_
    refine r_getr (pc := 79) hX dX0_coverLeaf_79 fl_X0_9 rfl (o_X0_k h) (o_X0_r1 h) ?_
    refine r_getr (pc := 82) hX dX0_coverLeaf_82 fl_X0_85 rfl (o_X8_k (o_X0_o1 h)) (o_X8_r5 (o_X0_o1 h)) ?_
    refine r_iload_n (pc := 85) hX dX0_coverLeaf_85 rfl ?_
    refine r_callSN (Z := mX11_at) (pc := 86) hX dX0_coverLeaf_86 mn_X0_54 mX11_at_w (sp_X11_at (o_X8_a5 (o_X0_o1 h))) rfl rfl (Nat.le_of_ble_eq_true rfl) (by decide) rfl (Or.inl rfl) ?_
    refine r_callSN (Z := mX11_put) (pc := 89) hX dX0_coverLeaf_89 mn_X0_58 mX11_put_w (sp_X11_put (o_X0_a4 h)) rfl rfl (Nat.le_of_ble_eq_true rfl) (by decide) rfl (Or.inl rfl) ?_
    exact r_return (pc := 92) hX dX0_coverLeaf_92 rfl rfl (by first | with_reducible rfl | (simp only [coverLeaf_, eq_false c24, ↓reduceIte, if_true, if_false, decide_true, decide_false, eq_self, b2i_t, b2i_f, Bool.false_eq_true, and_true, true_and, and_false, false_and, or_true, true_or, or_false, false_or, not_true_eq_false, not_false_eq_true] <;> rfl) | simp [coverLeaf_, eq_false c24])
  · refine r_aload_n (pc := 27) hX dX0_coverLeaf_27 rfl ?_
    refine r_getr (pc := 28) hX dX0_coverLeaf_28 fl_X0_23 rfl (o_X0_k h) (o_X0_r3 h) ?_
    refine r_iload_n (pc := 31) hX dX0_coverLeaf_31 rfl ?_
    refine r_iconst (pc := 32) hX 1 dX0_coverLeaf_32 (by decide) ?_
    refine r_callSN (Z := mX11_put) (pc := 33) hX dX0_coverLeaf_33 mn_X0_58 mX11_put_w (sp_X11_put (o_X0_a3 h)) rfl rfl (Nat.le_of_ble_eq_true rfl) (by decide) rfl (Or.inl rfl) ?_
    refine r_aload_n (pc := 36) hX dX0_coverLeaf_36 rfl ?_
    refine r_getr (pc := 37) hX dX0_coverLeaf_37 fl_X0_19 rfl (o_X0_k h) (o_X0_r0 h) ?_
    refine r_iload_n (pc := 40) hX dX0_coverLeaf_40 rfl ?_
    refine r_iconst (pc := 41) hX 0 dX0_coverLeaf_41 (by decide) ?_
    refine r_callSN (Z := mX11_put) (pc := 42) hX dX0_coverLeaf_42 mn_X0_58 mX11_put_w (sp_X11_put (o_X0_a0 h)) rfl rfl (Nat.le_of_ble_eq_true rfl) (by decide) rfl (Or.inl rfl) ?_
    refine r_goto (pc := 45) hX (tgt := 92) dX0_coverLeaf_45 (by decide) ?_
    exact r_return (pc := 92) hX dX0_coverLeaf_92 rfl rfl (by first | with_reducible rfl | (simp only [coverLeaf_, eq_true c24, ↓reduceIte, if_true, if_false, decide_true, decide_false, eq_self, b2i_t, b2i_f, Bool.false_eq_true, and_true, true_and, and_false, false_and, or_true, true_or, or_false, false_or, not_true_eq_false, not_false_eq_true] <;> rfl) | simp [coverLeaf_, eq_true c24])
set_option maxRecDepth 100000 in
set_option maxHeartbeats 1000000 in
theorem sp_X0_coverPlain {l : Launch} {k : im_K} {S : im_S} {I : im_I} {a m : Nat} {p0 : Int32} {p1 : Int32} (h : o_X0 S a m) : im_Runs l k 2 mX0_coverPlain [.ref a, .int p0, .int p1] (S, I) (none) (S, coverPlain_ I a m p0 p1) := by
  refine im_run (by decide +kernel) ⟨Nat.le_refl _, Nat.le_refl _⟩ (Nat.le_of_ble_eq_true rfl) ?_
  intro X hl hX hxn hxz hxc hxs
  subst hl
  change im_E X k _ 0 [some (.ref a), some (.int p0), some (.int p1), none, none] [] S I
  refine r_aload_n (pc := 0) hX dX0_coverPlain_0 rfl ?_
  refine r_getr (pc := 1) hX dX0_coverPlain_1 fl_X0_9 rfl (o_X0_k h) (o_X0_r1 h) ?_
  refine r_getr (pc := 4) hX dX0_coverPlain_4 fl_X0_85 rfl (o_X8_k (o_X0_o1 h)) (o_X8_r5 (o_X0_o1 h)) ?_
  refine r_iload_n (pc := 7) hX dX0_coverPlain_7 rfl ?_
  refine r_callSN (Z := mX11_at) (pc := 8) hX dX0_coverPlain_8 mn_X0_54 mX11_at_w (sp_X11_at (o_X8_a5 (o_X0_o1 h))) rfl rfl (Nat.le_of_ble_eq_true rfl) (by decide) rfl (Or.inl rfl) ?_
  refine r_istore_n (pc := 11) hX (L' := [_, _, _, _, _]) dX0_coverPlain_11 rfl rfl (Nat.le_of_ble_eq_true rfl) ?_
  refine r_aload_n (pc := 12) hX dX0_coverPlain_12 rfl ?_
  refine r_getr (pc := 13) hX dX0_coverPlain_13 fl_X0_9 rfl (o_X0_k h) (o_X0_r1 h) ?_
  refine r_getr (pc := 16) hX dX0_coverPlain_16 fl_X0_88 rfl (o_X8_k (o_X0_o1 h)) (o_X8_r6 (o_X0_o1 h)) ?_
  refine r_iload_n (pc := 19) hX dX0_coverPlain_19 rfl ?_
  refine r_callSN (Z := mX11_at) (pc := 20) hX dX0_coverPlain_20 mn_X0_54 mX11_at_w (sp_X11_at (o_X8_a6 (o_X0_o1 h))) rfl rfl (Nat.le_of_ble_eq_true rfl) (by decide) rfl (Or.inl rfl) ?_
  refine r_istore (pc := 23) hX (L' := [_, _, _, _, _]) dX0_coverPlain_23 rfl rfl (Nat.le_of_ble_eq_true rfl) ?_
  refine r_aload_n (pc := 25) hX dX0_coverPlain_25 rfl ?_
  refine r_getr (pc := 26) hX dX0_coverPlain_26 fl_X0_23 rfl (o_X0_k h) (o_X0_r3 h) ?_
  refine r_iload_n (pc := 29) hX dX0_coverPlain_29 rfl ?_
  refine r_iload_n (pc := 30) hX dX0_coverPlain_30 rfl ?_
  refine r_callSN (Z := mX11_put) (pc := 31) hX dX0_coverPlain_31 mn_X0_58 mX11_put_w (sp_X11_put (o_X0_a3 h)) rfl rfl (Nat.le_of_ble_eq_true rfl) (by decide) rfl (Or.inl rfl) ?_
  refine r_aload_n (pc := 34) hX dX0_coverPlain_34 rfl ?_
  refine r_getr (pc := 35) hX dX0_coverPlain_35 fl_X0_19 rfl (o_X0_k h) (o_X0_r0 h) ?_
  refine r_iload_n (pc := 38) hX dX0_coverPlain_38 rfl ?_
  refine r_aload_n (pc := 39) hX dX0_coverPlain_39 rfl ?_
  refine r_getr (pc := 40) hX dX0_coverPlain_40 fl_X0_15 rfl (o_X0_k h) (o_X0_r2 h) ?_
  refine r_iload_n (pc := 43) hX dX0_coverPlain_43 rfl ?_
  refine r_callV (Z := mX5_cyclesOf) (t := 5) (pc := 44) hX dX0_coverPlain_44 ml_X0_79 mX5_cyclesOf_w ⟨by decide, rfl⟩ (o_X5_k (o_X0_o2 h)) (sp_X5_cyclesOf (o_X0_o2 h)) rfl rfl (Nat.le_of_ble_eq_true rfl) (by decide) rfl (Or.inl rfl) ?_
  refine r_aload_n (pc := 47) hX dX0_coverPlain_47 rfl ?_
  refine r_getr (pc := 48) hX dX0_coverPlain_48 fl_X0_19 rfl (o_X0_k h) (o_X0_r0 h) ?_
  refine r_iload_n (pc := 51) hX dX0_coverPlain_51 rfl ?_
  refine r_callSN (Z := mX11_at) (pc := 52) hX dX0_coverPlain_52 mn_X0_54 mX11_at_w (sp_X11_at (o_X0_a0 h)) rfl rfl (Nat.le_of_ble_eq_true rfl) (by decide) rfl (Or.inl rfl) ?_
  refine r_iadd (pc := 55) hX dX0_coverPlain_55 ?_
  refine r_aload_n (pc := 56) hX dX0_coverPlain_56 rfl ?_
  refine r_getr (pc := 57) hX dX0_coverPlain_57 fl_X0_19 rfl (o_X0_k h) (o_X0_r0 h) ?_
  refine r_iload (pc := 60) hX dX0_coverPlain_60 rfl ?_
  refine r_callSN (Z := mX11_at) (pc := 62) hX dX0_coverPlain_62 mn_X0_54 mX11_at_w (sp_X11_at (o_X0_a0 h)) rfl rfl (Nat.le_of_ble_eq_true rfl) (by decide) rfl (Or.inl rfl) ?_
  refine r_iadd (pc := 65) hX dX0_coverPlain_65 ?_
  refine r_callSN (Z := mX11_put) (pc := 66) hX dX0_coverPlain_66 mn_X0_58 mX11_put_w (sp_X11_put (o_X0_a0 h)) rfl rfl (Nat.le_of_ble_eq_true rfl) (by decide) rfl (Or.inl rfl) ?_
  refine r_aload_n (pc := 69) hX dX0_coverPlain_69 rfl ?_
  refine r_getr (pc := 70) hX dX0_coverPlain_70 fl_X0_29 rfl (o_X0_k h) (o_X0_r5 h) ?_
  refine r_iload_n (pc := 73) hX dX0_coverPlain_73 rfl ?_
  refine r_iload_n (pc := 74) hX dX0_coverPlain_74 rfl ?_
  refine r_iload (pc := 75) hX dX0_coverPlain_75 rfl ?_
  refine r_iconst (pc := 77) hX (-1) dX0_coverPlain_77 (by decide) ?_
  refine r_callS (Z := mX0_setNodes) (pc := 78) hX dX0_coverPlain_78 ml_X0_75 mX0_setNodes_w (sp_X0_setNodes (o_X0_a5 h)) rfl rfl (Nat.le_of_ble_eq_true rfl) (by decide) rfl (Or.inl rfl) ?_
  refine r_aload_n (pc := 81) hX dX0_coverPlain_81 rfl ?_
  refine r_getr (pc := 82) hX dX0_coverPlain_82 fl_X0_32 rfl (o_X0_k h) (o_X0_r6 h) ?_
  refine r_iload_n (pc := 85) hX dX0_coverPlain_85 rfl ?_
  refine r_iload_n (pc := 86) hX dX0_coverPlain_86 rfl ?_
  refine r_iload (pc := 87) hX dX0_coverPlain_87 rfl ?_
  refine r_iconst (pc := 89) hX (-1) dX0_coverPlain_89 (by decide) ?_
  refine r_callS (Z := mX0_setNodes) (pc := 90) hX dX0_coverPlain_90 ml_X0_75 mX0_setNodes_w (sp_X0_setNodes (o_X0_a6 h)) rfl rfl (Nat.le_of_ble_eq_true rfl) (by decide) rfl (Or.inl rfl) ?_
  exact r_return (pc := 93) hX dX0_coverPlain_93 rfl rfl (by first | with_reducible rfl | (simp only [coverPlain_, ↓reduceIte, if_true, if_false, decide_true, decide_false, eq_self, b2i_t, b2i_f, Bool.false_eq_true, and_true, true_and, and_false, false_and, or_true, true_or, or_false, false_or, not_true_eq_false, not_false_eq_true] <;> rfl) | simp [coverPlain_])
set_option maxRecDepth 100000 in
set_option maxHeartbeats 1000000 in
theorem sp_X0_isSmall {l : Launch} {k : im_K} {S : im_S} {I : im_I} {a m : Nat} {p0 : Int32} (h : o_X0 S a m) : im_Runs l k 1 mX0_isSmall [.ref a, .int p0] (S, I) (some (.int (b2i (isSmall_ I m p0)))) (S, I) := by
  refine im_run (by decide +kernel) ⟨Nat.le_refl _, Nat.le_refl _⟩ (Nat.le_of_ble_eq_true rfl) ?_
  intro X hl hX hxn hxz hxc hxs
  subst hl
  change im_E X k _ 0 [some (.ref a), some (.int p0), none] [] S I
  refine r_aload_n (pc := 0) hX dX0_isSmall_0 rfl ?_
  refine r_getr (pc := 1) hX dX0_isSmall_1 fl_X0_9 rfl (o_X0_k h) (o_X0_r1 h) ?_
  refine r_getr (pc := 4) hX dX0_isSmall_4 fl_X0_85 rfl (o_X8_k (o_X0_o1 h)) (o_X8_r5 (o_X0_o1 h)) ?_
  refine r_iload_n (pc := 7) hX dX0_isSmall_7 rfl ?_
  refine r_callSN (Z := mX11_at) (pc := 8) hX dX0_isSmall_8 mn_X0_54 mX11_at_w (sp_X11_at (o_X8_a5 (o_X0_o1 h))) rfl rfl (Nat.le_of_ble_eq_true rfl) (by decide) rfl (Or.inl rfl) ?_
  refine r_istore_n (pc := 11) hX (L' := [_, _, _]) dX0_isSmall_11 rfl rfl (Nat.le_of_ble_eq_true rfl) ?_
  refine r_aload_n (pc := 12) hX dX0_isSmall_12 rfl ?_
  refine r_getr (pc := 13) hX dX0_isSmall_13 fl_X0_9 rfl (o_X0_k h) (o_X0_r1 h) ?_
  refine r_getr (pc := 16) hX dX0_isSmall_16 fl_X0_53 rfl (o_X8_k (o_X0_o1 h)) (o_X8_r4 (o_X0_o1 h)) ?_
  refine r_iload_n (pc := 19) hX dX0_isSmall_19 rfl ?_
  refine r_callSN (Z := mX11_at) (pc := 20) hX dX0_isSmall_20 mn_X0_54 mX11_at_w (sp_X11_at (o_X8_a4 (o_X0_o1 h))) rfl rfl (Nat.le_of_ble_eq_true rfl) (by decide) rfl (Or.inl rfl) ?_
  refine r_if_ne (pc := 23) hX 53 dX0_isSmall_23 (by decide) (fun c23 => ?_) (fun c23 => ?_)
  · refine r_iconst (pc := 53) hX 0 dX0_isSmall_53 (by decide) ?_
    exact r_ireturn (pc := 54) hX dX0_isSmall_54 rfl rfl (by first | with_reducible rfl | (simp only [isSmall_, b2i, eq_false c23, ↓reduceIte, if_true, if_false, decide_true, decide_false, eq_self, b2i_t, b2i_f, Bool.false_eq_true, and_true, true_and, and_false, false_and, or_true, true_or, or_false, false_or, not_true_eq_false, not_false_eq_true] <;> rfl) | simp [isSmall_, b2i, eq_false c23]) rfl
  · refine r_iload_n (pc := 26) hX dX0_isSmall_26 rfl ?_
    refine r_aload_n (pc := 27) hX dX0_isSmall_27 rfl ?_
    refine r_getr (pc := 28) hX dX0_isSmall_28 fl_X0_15 rfl (o_X0_k h) (o_X0_r2 h) ?_
    refine r_geti (pc := 31) hX dX0_isSmall_31 fl_X0_95 rfl (o_X5_k (o_X0_o2 h)) ?_
    refine r_ineg (pc := 34) hX dX0_isSmall_34 ?_
    refine r_icmp_lt (pc := 35) hX 53 dX0_isSmall_35 (by decide) (fun c35 => ?_) (fun c35 => ?_)
    · have c35d := Int32.not_le.mpr c35
      refine r_iconst (pc := 53) hX 0 dX0_isSmall_53 (by decide) ?_
      exact r_ireturn (pc := 54) hX dX0_isSmall_54 rfl rfl (by first | with_reducible rfl | (simp only [isSmall_, b2i, eq_true c23, eq_true c35, eq_false c35d, ↓reduceIte, if_true, if_false, decide_true, decide_false, eq_self, b2i_t, b2i_f, Bool.false_eq_true, and_true, true_and, and_false, false_and, or_true, true_or, or_false, false_or, not_true_eq_false, not_false_eq_true] <;> rfl) | simp [isSmall_, b2i, eq_true c23, eq_true c35, eq_false c35d]) rfl
    · have c35d := Int32.not_lt.mp c35
      refine r_iload_n (pc := 38) hX dX0_isSmall_38 rfl ?_
      refine r_aload_n (pc := 39) hX dX0_isSmall_39 rfl ?_
      refine r_getr (pc := 40) hX dX0_isSmall_40 fl_X0_15 rfl (o_X0_k h) (o_X0_r2 h) ?_
      refine r_geti (pc := 43) hX dX0_isSmall_43 fl_X0_95 rfl (o_X5_k (o_X0_o2 h)) ?_
      refine r_icmp_gt (pc := 46) hX 53 dX0_isSmall_46 (by decide) (fun c46 => ?_) (fun c46 => ?_)
      · have c46d := Int32.not_le.mpr c46
        refine r_iconst (pc := 53) hX 0 dX0_isSmall_53 (by decide) ?_
        exact r_ireturn (pc := 54) hX dX0_isSmall_54 rfl rfl (by first | with_reducible rfl | (simp only [isSmall_, b2i, eq_true c23, eq_false c35, eq_true c35d, eq_true c46, eq_false c46d, ↓reduceIte, if_true, if_false, decide_true, decide_false, eq_self, b2i_t, b2i_f, Bool.false_eq_true, and_true, true_and, and_false, false_and, or_true, true_or, or_false, false_or, not_true_eq_false, not_false_eq_true] <;> rfl) | simp [isSmall_, b2i, eq_true c23, eq_false c35, eq_true c35d, eq_true c46, eq_false c46d]) rfl
      · have c46d := Int32.not_lt.mp c46
        refine r_iconst (pc := 49) hX 1 dX0_isSmall_49 (by decide) ?_
        refine r_goto (pc := 50) hX (tgt := 54) dX0_isSmall_50 (by decide) ?_
        exact r_ireturn (pc := 54) hX dX0_isSmall_54 rfl rfl (by first | with_reducible rfl | (simp only [isSmall_, b2i, eq_true c23, eq_false c35, eq_true c35d, eq_false c46, eq_true c46d, ↓reduceIte, if_true, if_false, decide_true, decide_false, eq_self, b2i_t, b2i_f, Bool.false_eq_true, and_true, true_and, and_false, false_and, or_true, true_or, or_false, false_or, not_true_eq_false, not_false_eq_true] <;> rfl) | simp [isSmall_, b2i, eq_true c23, eq_false c35, eq_true c35d, eq_false c46, eq_true c46d]) rfl
set_option maxRecDepth 100000 in
set_option maxHeartbeats 1000000 in
theorem sp_X0_push {l : Launch} {k : im_K} {S : im_S} {I : im_I} {a m : Nat} {p0 : Int32} (h : o_X0 S a m) : im_Runs l k 1 mX0_push [.ref a, .int p0] (S, I) (none) (S, push_ I a p0) := by
  refine im_run (by decide +kernel) ⟨Nat.le_refl _, Nat.le_refl _⟩ (Nat.le_of_ble_eq_true rfl) ?_
  intro X hl hX hxn hxz hxc hxs
  subst hl
  change im_E X k _ 0 [some (.ref a), some (.int p0)] [] S I
  refine r_iload_n (pc := 0) hX dX0_push_0 rfl ?_
  refine r_iconst (pc := 1) hX (-1) dX0_push_1 (by decide) ?_
  refine r_icmp_eq (pc := 2) hX 27 dX0_push_2 (by decide) (fun c2 => ?_) (fun c2 => ?_)
  · exact r_return (pc := 27) hX dX0_push_27 rfl rfl (by first | with_reducible rfl | (simp only [push_, eq_true c2, ↓reduceIte, if_true, if_false, decide_true, decide_false, eq_self, b2i_t, b2i_f, Bool.false_eq_true, and_true, true_and, and_false, false_and, or_true, true_or, or_false, false_or, not_true_eq_false, not_false_eq_true] <;> rfl) | simp [push_, eq_true c2])
  · refine r_aload_n (pc := 5) hX dX0_push_5 rfl ?_
    refine r_getr (pc := 6) hX dX0_push_6 fl_X0_38 rfl (o_X0_k h) (o_X0_r8 h) ?_
    refine r_aload_n (pc := 9) hX dX0_push_9 rfl ?_
    refine r_geti (pc := 10) hX dX0_push_10 fl_X0_116 rfl (o_X0_k h) ?_
    refine r_iload_n (pc := 13) hX dX0_push_13 rfl ?_
    refine r_callSN (Z := mX11_put) (pc := 14) hX dX0_push_14 mn_X0_58 mX11_put_w (sp_X11_put (o_X0_a8 h)) rfl rfl (Nat.le_of_ble_eq_true rfl) (by decide) rfl (Or.inl rfl) ?_
    refine r_aload_n (pc := 17) hX dX0_push_17 rfl ?_
    refine r_dup (pc := 18) hX dX0_push_18 rfl ?_
    refine r_geti (pc := 19) hX dX0_push_19 fl_X0_116 rfl (o_X0_k h) ?_
    refine r_iconst (pc := 22) hX 1 dX0_push_22 (by decide) ?_
    refine r_iadd (pc := 23) hX dX0_push_23 ?_
    refine r_puti (pc := 24) hX dX0_push_24 fl_X0_116 rfl rfl (o_X0_k h) ?_
    exact r_return (pc := 27) hX dX0_push_27 rfl rfl (by first | with_reducible rfl | (simp only [push_, eq_false c2, ↓reduceIte, if_true, if_false, decide_true, decide_false, eq_self, b2i_t, b2i_f, Bool.false_eq_true, and_true, true_and, and_false, false_and, or_true, true_or, or_false, false_or, not_true_eq_false, not_false_eq_true] <;> rfl) | simp [push_, eq_false c2])
set_option maxRecDepth 100000 in
set_option maxHeartbeats 1000000 in
theorem sp_X0_valueRead {l : Launch} {k : im_K} {S : im_S} {I : im_I} {a m : Nat} {p0 : Int32} {p1 : Int32} (h : o_X0 S a m) : im_Runs l k 1 mX0_valueRead [.ref a, .int p0, .int p1] (S, I) (some (.int (valueRead_ I a p0 p1))) (S, I) := by
  refine im_run (by decide +kernel) ⟨Nat.le_refl _, Nat.le_refl _⟩ (Nat.le_of_ble_eq_true rfl) ?_
  intro X hl hX hxn hxz hxc hxs
  subst hl
  change im_E X k _ 0 [some (.ref a), some (.int p0), some (.int p1)] [] S I
  refine r_aload_n (pc := 0) hX dX0_valueRead_0 rfl ?_
  refine r_getr (pc := 1) hX dX0_valueRead_1 fl_X0_35 rfl (o_X0_k h) (o_X0_r7 h) ?_
  refine r_aload_n (pc := 4) hX dX0_valueRead_4 rfl ?_
  refine r_getr (pc := 5) hX dX0_valueRead_5 fl_X0_29 rfl (o_X0_k h) (o_X0_r5 h) ?_
  refine r_iconst (pc := 8) hX 3 dX0_valueRead_8 (by decide) ?_
  refine r_iload_n (pc := 9) hX dX0_valueRead_9 rfl ?_
  refine r_imul (pc := 10) hX dX0_valueRead_10 ?_
  refine r_iload_n (pc := 11) hX dX0_valueRead_11 rfl ?_
  refine r_iadd (pc := 12) hX dX0_valueRead_12 ?_
  refine r_callSN (Z := mX11_at) (pc := 13) hX dX0_valueRead_13 mn_X0_54 mX11_at_w (sp_X11_at (o_X0_a5 h)) rfl rfl (Nat.le_of_ble_eq_true rfl) (by decide) rfl (Or.inl rfl) ?_
  refine r_callSN (Z := mX11_at) (pc := 16) hX dX0_valueRead_16 mn_X0_54 mX11_at_w (sp_X11_at (o_X0_a7 h)) rfl rfl (Nat.le_of_ble_eq_true rfl) (by decide) rfl (Or.inl rfl) ?_
  exact r_ireturn (pc := 19) hX dX0_valueRead_19 rfl rfl (by first | with_reducible rfl | (simp only [valueRead_, ↓reduceIte, if_true, if_false, decide_true, decide_false, eq_self, b2i_t, b2i_f, Bool.false_eq_true, and_true, true_and, and_false, false_and, or_true, true_or, or_false, false_or, not_true_eq_false, not_false_eq_true] <;> rfl) | simp [valueRead_]) rfl
set_option maxRecDepth 100000 in
set_option maxHeartbeats 1000000 in
theorem sp_X0_emit {l : Launch} {k : im_K} {S : im_S} {I : im_I} {a m : Nat} {b0 : Nat} {p1 : Int32} {p2 : Int32} {p3 : Int32} (h : o_X0 S a m) (hb0 : o_X3 S b0) : im_Runs l k 2 mX0_emit [.ref a, .ref b0, .int p1, .int p2, .int p3] (S, I) (none) (S, emit_ I a b0 p1 p2 p3) := by
  refine im_run (by decide +kernel) ⟨Nat.le_refl _, Nat.le_refl _⟩ (Nat.le_of_ble_eq_true rfl) ?_
  intro X hl hX hxn hxz hxc hxs
  subst hl
  change im_E X k _ 0 [some (.ref a), some (.ref b0), some (.int p1), some (.int p2), some (.int p3), none] [] S I
  refine r_aload_n (pc := 0) hX dX0_emit_0 rfl ?_
  refine r_getr (pc := 1) hX dX0_emit_1 fl_X0_23 rfl (o_X0_k h) (o_X0_r3 h) ?_
  refine r_iload_n (pc := 4) hX dX0_emit_4 rfl ?_
  refine r_callSN (Z := mX11_at) (pc := 5) hX dX0_emit_5 mn_X0_54 mX11_at_w (sp_X11_at (o_X0_a3 h)) rfl rfl (Nat.le_of_ble_eq_true rfl) (by decide) rfl (Or.inl rfl) ?_
  refine r_istore (pc := 8) hX (L' := [_, _, _, _, _, _]) dX0_emit_8 rfl rfl (Nat.le_of_ble_eq_true rfl) ?_
  refine r_aload_n (pc := 10) hX dX0_emit_10 rfl ?_
  refine r_iload (pc := 11) hX dX0_emit_11 rfl ?_
  refine r_iload_n (pc := 13) hX dX0_emit_13 rfl ?_
  refine r_iload (pc := 14) hX dX0_emit_14 rfl ?_
  refine r_callV (Z := mX3_add) (t := 3) (pc := 16) hX dX0_emit_16 ml_X0_123 mX3_add_w ⟨by decide, rfl⟩ (o_X3_k hb0) (sp_X3_add hb0) rfl rfl (Nat.le_of_ble_eq_true rfl) (by decide) rfl (Or.inl rfl) ?_
  refine r_aload_n (pc := 19) hX dX0_emit_19 rfl ?_
  refine r_aload_n (pc := 20) hX dX0_emit_20 rfl ?_
  refine r_getr (pc := 21) hX dX0_emit_21 fl_X0_26 rfl (o_X0_k h) (o_X0_r4 h) ?_
  refine r_iload_n (pc := 24) hX dX0_emit_24 rfl ?_
  refine r_callSN (Z := mX11_at) (pc := 25) hX dX0_emit_25 mn_X0_54 mX11_at_w (sp_X11_at (o_X0_a4 h)) rfl rfl (Nat.le_of_ble_eq_true rfl) (by decide) rfl (Or.inl rfl) ?_
  refine r_callV (Z := mX3_setNumber) (t := 3) (pc := 28) hX dX0_emit_28 ml_X0_129 mX3_setNumber_w ⟨by decide, rfl⟩ (o_X3_k hb0) (sp_X3_setNumber hb0) rfl rfl (Nat.le_of_ble_eq_true rfl) (by decide) rfl (Or.inl rfl) ?_
  refine r_iload (pc := 31) hX dX0_emit_31 rfl ?_
  refine r_iconst (pc := 33) hX 1 dX0_emit_33 (by decide) ?_
  refine r_icmp_ne (pc := 34) hX 57 dX0_emit_34 (by decide) (fun c34 => ?_) (fun c34 => ?_)
  · refine r_aload_n (pc := 57) hX dX0_emit_57 rfl ?_
    refine r_aload_n (pc := 58) hX dX0_emit_58 rfl ?_
    refine r_iload_n (pc := 59) hX dX0_emit_59 rfl ?_
    refine r_iconst (pc := 60) hX 0 dX0_emit_60 (by decide) ?_
    refine r_callV (Z := mX0_valueRead) (t := 0) (pc := 61) hX dX0_emit_61 ml_X0_135 mX0_valueRead_w ⟨by decide, rfl⟩ (o_X0_k h) (sp_X0_valueRead h) rfl rfl (Nat.le_of_ble_eq_true rfl) (by decide) rfl (Or.inl rfl) ?_
    refine r_aload_n (pc := 64) hX dX0_emit_64 rfl ?_
    refine r_iload_n (pc := 65) hX dX0_emit_65 rfl ?_
    refine r_iconst (pc := 66) hX 1 dX0_emit_66 (by decide) ?_
    refine r_callV (Z := mX0_valueRead) (t := 0) (pc := 67) hX dX0_emit_67 ml_X0_135 mX0_valueRead_w ⟨by decide, rfl⟩ (o_X0_k h) (sp_X0_valueRead h) rfl rfl (Nat.le_of_ble_eq_true rfl) (by decide) rfl (Or.inl rfl) ?_
    refine r_aload_n (pc := 70) hX dX0_emit_70 rfl ?_
    refine r_iload_n (pc := 71) hX dX0_emit_71 rfl ?_
    refine r_iconst (pc := 72) hX 2 dX0_emit_72 (by decide) ?_
    refine r_callV (Z := mX0_valueRead) (t := 0) (pc := 73) hX dX0_emit_73 ml_X0_135 mX0_valueRead_w ⟨by decide, rfl⟩ (o_X0_k h) (sp_X0_valueRead h) rfl rfl (Nat.le_of_ble_eq_true rfl) (by decide) rfl (Or.inl rfl) ?_
    refine r_callV (Z := mX3_setReads) (t := 3) (pc := 76) hX dX0_emit_76 ml_X0_132 mX3_setReads_w ⟨by decide, rfl⟩ (o_X3_k hb0) (sp_X3_setReads hb0) rfl rfl (Nat.le_of_ble_eq_true rfl) (by decide) rfl (Or.inl rfl) ?_
    exact r_return (pc := 79) hX dX0_emit_79 rfl rfl (by first | with_reducible rfl | (simp only [emit_, eq_false c34, ↓reduceIte, if_true, if_false, decide_true, decide_false, eq_self, b2i_t, b2i_f, Bool.false_eq_true, and_true, true_and, and_false, false_and, or_true, true_or, or_false, false_or, not_true_eq_false, not_false_eq_true] <;> rfl) | simp [emit_, eq_false c34])
  · refine r_aload_n (pc := 37) hX dX0_emit_37 rfl ?_
    refine r_aload_n (pc := 38) hX dX0_emit_38 rfl ?_
    refine r_getr (pc := 39) hX dX0_emit_39 fl_X0_9 rfl (o_X0_k h) (o_X0_r1 h) ?_
    refine r_getr (pc := 42) hX dX0_emit_42 fl_X0_85 rfl (o_X8_k (o_X0_o1 h)) (o_X8_r5 (o_X0_o1 h)) ?_
    refine r_iload_n (pc := 45) hX dX0_emit_45 rfl ?_
    refine r_callSN (Z := mX11_at) (pc := 46) hX dX0_emit_46 mn_X0_54 mX11_at_w (sp_X11_at (o_X8_a5 (o_X0_o1 h))) rfl rfl (Nat.le_of_ble_eq_true rfl) (by decide) rfl (Or.inl rfl) ?_
    refine r_iconst (pc := 49) hX (-1) dX0_emit_49 (by decide) ?_
    refine r_iconst (pc := 50) hX (-1) dX0_emit_50 (by decide) ?_
    refine r_callV (Z := mX3_setReads) (t := 3) (pc := 51) hX dX0_emit_51 ml_X0_132 mX3_setReads_w ⟨by decide, rfl⟩ (o_X3_k hb0) (sp_X3_setReads hb0) rfl rfl (Nat.le_of_ble_eq_true rfl) (by decide) rfl (Or.inl rfl) ?_
    refine r_goto (pc := 54) hX (tgt := 79) dX0_emit_54 (by decide) ?_
    exact r_return (pc := 79) hX dX0_emit_79 rfl rfl (by first | with_reducible rfl | (simp only [emit_, eq_true c34, ↓reduceIte, if_true, if_false, decide_true, decide_false, eq_self, b2i_t, b2i_f, Bool.false_eq_true, and_true, true_and, and_false, false_and, or_true, true_or, or_false, false_or, not_true_eq_false, not_false_eq_true] <;> rfl) | simp [emit_, eq_true c34])
