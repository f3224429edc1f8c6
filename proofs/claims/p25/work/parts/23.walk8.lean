/-! walks, by program out of spec8.py -/
set_option maxRecDepth 100000 in
set_option maxHeartbeats 1000000 in
theorem sp_X1_add {l : Launch} {k : im_K} {S : im_S} {I : im_I} {a m : Nat} {p0 : Int32} {p1 : Int32} {p2 : Int32} {p3 : Int32} {p4 : Int32} (h : o_X1 S a m) : im_Runs l k 0 mX1_add [.ref a, .int p0, .int p1, .int p2, .int p3, .int p4] (S, I) (none) (S, codeAdd_ I a p0 p1 p2 p3 p4) := by
  refine im_run (by decide +kernel) ⟨Nat.le_refl _, Nat.le_refl _⟩ (Nat.le_of_ble_eq_true rfl) ?_
  intro X hl hX hxn hxz hxc hxs
  subst hl
  change im_E X k _ 0 [some (.ref a), some (.int p0), some (.int p1), some (.int p2), some (.int p3), some (.int p4), none] [] S I
  refine r_aload_n (pc := 0) hX dX1_add_0 rfl ?_
  refine r_geti (pc := 1) hX dX1_add_1 fl_X1_28 rfl (o_X1_k h) ?_
  refine r_if_lt (pc := 4) hX 17 dX1_add_4 (by decide) (fun c4 => ?_) (fun c4 => ?_)
  · have c4d := Int32.not_le.mpr c4
    exact r_return (pc := 17) hX dX1_add_17 rfl rfl (by first | with_reducible rfl | (simp only [codeAdd_, eq_true c4, eq_false c4d, ↓reduceIte, if_true, if_false, decide_true, decide_false, eq_self, b2i_t, b2i_f, Bool.false_eq_true, and_true, true_and, and_false, false_and, or_true, true_or, or_false, false_or, not_true_eq_false, not_false_eq_true] <;> rfl) | simp [codeAdd_, eq_true c4, eq_false c4d])
  · have c4d := Int32.not_lt.mp c4
    refine r_aload_n (pc := 7) hX dX1_add_7 rfl ?_
    refine r_geti (pc := 8) hX dX1_add_8 fl_X1_28 rfl (o_X1_k h) ?_
    refine r_sipush (pc := 11) hX 528 dX1_add_11 (by decide) ?_
    refine r_icmp_lt (pc := 14) hX 18 dX1_add_14 (by decide) (fun c14 => ?_) (fun c14 => ?_)
    · have c14d := Int32.not_le.mpr c14
      refine r_iconst (pc := 18) hX 4 dX1_add_18 (by decide) ?_
      refine r_aload_n (pc := 19) hX dX1_add_19 rfl ?_
      refine r_geti (pc := 20) hX dX1_add_20 fl_X1_28 rfl (o_X1_k h) ?_
      refine r_imul (pc := 23) hX dX1_add_23 ?_
      refine r_istore (pc := 24) hX (L' := [_, _, _, _, _, _, _]) dX1_add_24 rfl rfl (Nat.le_of_ble_eq_true rfl) ?_
      refine r_aload_n (pc := 26) hX dX1_add_26 rfl ?_
      refine r_getr (pc := 27) hX dX1_add_27 fl_X1_15 rfl (o_X1_k h) (o_X1_r2 h) ?_
      refine r_aload_n (pc := 30) hX dX1_add_30 rfl ?_
      refine r_geti (pc := 31) hX dX1_add_31 fl_X1_28 rfl (o_X1_k h) ?_
      refine r_iload_n (pc := 34) hX dX1_add_34 rfl ?_
      refine r_iast (pc := 35) hX dX1_add_35 (o_X1_a2 h) (im_vp c4 (by rw [Int32.not_le]; exact c14) (by decide)) ?_
      refine r_aload_n (pc := 36) hX dX1_add_36 rfl ?_
      refine r_getr (pc := 37) hX dX1_add_37 fl_X1_19 rfl (o_X1_k h) (o_X1_r3 h) ?_
      refine r_iload (pc := 40) hX dX1_add_40 rfl ?_
      refine r_iload_n (pc := 42) hX dX1_add_42 rfl ?_
      refine r_iast (pc := 43) hX dX1_add_43 (o_X1_a3 h) (vp_op0 c4 c14) ?_
      refine r_aload_n (pc := 44) hX dX1_add_44 rfl ?_
      refine r_getr (pc := 45) hX dX1_add_45 fl_X1_19 rfl (o_X1_k h) (o_X1_r3 h) ?_
      refine r_iload (pc := 48) hX dX1_add_48 rfl ?_
      refine r_iconst (pc := 50) hX 1 dX1_add_50 (by decide) ?_
      refine r_iadd (pc := 51) hX dX1_add_51 ?_
      refine r_iload_n (pc := 52) hX dX1_add_52 rfl ?_
      refine r_iast (pc := 53) hX dX1_add_53 (o_X1_a3 h) (vp_op c4 c14 (by decide) (by decide)) ?_
      refine r_aload_n (pc := 54) hX dX1_add_54 rfl ?_
      refine r_getr (pc := 55) hX dX1_add_55 fl_X1_19 rfl (o_X1_k h) (o_X1_r3 h) ?_
      refine r_iload (pc := 58) hX dX1_add_58 rfl ?_
      refine r_iconst (pc := 60) hX 2 dX1_add_60 (by decide) ?_
      refine r_iadd (pc := 61) hX dX1_add_61 ?_
      refine r_iload (pc := 62) hX dX1_add_62 rfl ?_
      refine r_iast (pc := 64) hX dX1_add_64 (o_X1_a3 h) (vp_op c4 c14 (by decide) (by decide)) ?_
      refine r_aload_n (pc := 65) hX dX1_add_65 rfl ?_
      refine r_getr (pc := 66) hX dX1_add_66 fl_X1_19 rfl (o_X1_k h) (o_X1_r3 h) ?_
      refine r_iload (pc := 69) hX dX1_add_69 rfl ?_
      refine r_iconst (pc := 71) hX 3 dX1_add_71 (by decide) ?_
      refine r_iadd (pc := 72) hX dX1_add_72 ?_
      refine r_iload (pc := 73) hX dX1_add_73 rfl ?_
      refine r_iast (pc := 75) hX dX1_add_75 (o_X1_a3 h) (vp_op c4 c14 (by decide) (by decide)) ?_
      refine r_aload_n (pc := 76) hX dX1_add_76 rfl ?_
      refine r_getr (pc := 77) hX dX1_add_77 fl_X1_22 rfl (o_X1_k h) (o_X1_r4 h) ?_
      refine r_aload_n (pc := 80) hX dX1_add_80 rfl ?_
      refine r_geti (pc := 81) hX dX1_add_81 fl_X1_28 rfl (o_X1_k h) ?_
      refine r_aload_n (pc := 84) hX dX1_add_84 rfl ?_
      refine r_geti (pc := 85) hX dX1_add_85 fl_X1_37 rfl (o_X1_k h) ?_
      refine r_iast (pc := 88) hX dX1_add_88 (o_X1_a4 h) (vp_eq (by simp [im_up]) (im_vp c4 (by rw [Int32.not_le]; exact c14) (by decide))) ?_
      refine r_aload_n (pc := 89) hX dX1_add_89 rfl ?_
      refine r_dup (pc := 90) hX dX1_add_90 rfl ?_
      refine r_geti (pc := 91) hX dX1_add_91 fl_X1_28 rfl (o_X1_k h) ?_
      refine r_iconst (pc := 94) hX 1 dX1_add_94 (by decide) ?_
      refine r_iadd (pc := 95) hX dX1_add_95 ?_
      refine r_puti (pc := 96) hX dX1_add_96 fl_X1_28 rfl rfl (o_X1_k h) ?_
      exact r_return (pc := 99) hX dX1_add_99 rfl rfl (by first | with_reducible rfl | (simp only [codeAdd_, eq_false c4, eq_true c4d, eq_true c14, eq_false c14d, ↓reduceIte, if_true, if_false, decide_true, decide_false, eq_self, b2i_t, b2i_f, Bool.false_eq_true, and_true, true_and, and_false, false_and, or_true, true_or, or_false, false_or, not_true_eq_false, not_false_eq_true] <;> rfl) | simp [codeAdd_, eq_false c4, eq_true c4d, eq_true c14, eq_false c14d])
    · have c14d := Int32.not_lt.mp c14
      exact r_return (pc := 17) hX dX1_add_17 rfl rfl (by first | with_reducible rfl | (simp only [codeAdd_, eq_false c4, eq_true c4d, eq_false c14, eq_true c14d, ↓reduceIte, if_true, if_false, decide_true, decide_false, eq_self, b2i_t, b2i_f, Bool.false_eq_true, and_true, true_and, and_false, false_and, or_true, true_or, or_false, false_or, not_true_eq_false, not_false_eq_true] <;> rfl) | simp [codeAdd_, eq_false c4, eq_true c4d, eq_false c14, eq_true c14d])
set_option maxRecDepth 100000 in
set_option maxHeartbeats 1000000 in
theorem sp_X1_kindOf {l : Launch} {k : im_K} {S : im_S} {I : im_I} {a m : Nat} {p0 : Int32} (h : o_X1 S a m) : im_Runs l k 1 mX1_kindOf [.ref a, .int p0] (S, I) (some (.int (codeKindOf_ I a p0))) (S, I) := by
  refine im_run (by decide +kernel) ⟨Nat.le_refl _, Nat.le_refl _⟩ (Nat.le_of_ble_eq_true rfl) ?_
  intro X hl hX hxn hxz hxc hxs
  subst hl
  change im_E X k _ 0 [some (.ref a), some (.int p0)] [] S I
  refine r_aload_n (pc := 0) hX dX1_kindOf_0 rfl ?_
  refine r_getr (pc := 1) hX dX1_kindOf_1 fl_X1_15 rfl (o_X1_k h) (o_X1_r2 h) ?_
  refine r_iload_n (pc := 4) hX dX1_kindOf_4 rfl ?_
  refine r_callSN (Z := mX11_at) (pc := 5) hX dX1_kindOf_5 mn_X1_109 mX11_at_w (sp_X11_at (o_X1_a2 h)) rfl rfl (Nat.le_of_ble_eq_true rfl) (by decide) rfl (Or.inl rfl) ?_
  exact r_ireturn (pc := 8) hX dX1_kindOf_8 rfl rfl (by first | with_reducible rfl | (simp only [codeKindOf_, ↓reduceIte, if_true, if_false, decide_true, decide_false, eq_self, b2i_t, b2i_f, Bool.false_eq_true, and_true, true_and, and_false, false_and, or_true, true_or, or_false, false_or, not_true_eq_false, not_false_eq_true] <;> rfl) | simp [codeKindOf_]) rfl
set_option maxRecDepth 100000 in
set_option maxHeartbeats 1000000 in
theorem sp_X1_operandOf {l : Launch} {k : im_K} {S : im_S} {I : im_I} {a m : Nat} {p0 : Int32} {p1 : Int32} (h : o_X1 S a m) : im_Runs l k 1 mX1_operandOf [.ref a, .int p0, .int p1] (S, I) (some (.int (operandOf_ I a p0 p1))) (S, I) := by
  refine im_run (by decide +kernel) ⟨Nat.le_refl _, Nat.le_refl _⟩ (Nat.le_of_ble_eq_true rfl) ?_
  intro X hl hX hxn hxz hxc hxs
  subst hl
  change im_E X k _ 0 [some (.ref a), some (.int p0), some (.int p1)] [] S I
  refine r_aload_n (pc := 0) hX dX1_operandOf_0 rfl ?_
  refine r_getr (pc := 1) hX dX1_operandOf_1 fl_X1_19 rfl (o_X1_k h) (o_X1_r3 h) ?_
  refine r_iconst (pc := 4) hX 4 dX1_operandOf_4 (by decide) ?_
  refine r_iload_n (pc := 5) hX dX1_operandOf_5 rfl ?_
  refine r_imul (pc := 6) hX dX1_operandOf_6 ?_
  refine r_iload_n (pc := 7) hX dX1_operandOf_7 rfl ?_
  refine r_iadd (pc := 8) hX dX1_operandOf_8 ?_
  refine r_iconst (pc := 9) hX 1 dX1_operandOf_9 (by decide) ?_
  refine r_isub (pc := 10) hX dX1_operandOf_10 ?_
  refine r_callSN (Z := mX11_at) (pc := 11) hX dX1_operandOf_11 mn_X1_109 mX11_at_w (sp_X11_at (o_X1_a3 h)) rfl rfl (Nat.le_of_ble_eq_true rfl) (by decide) rfl (Or.inl rfl) ?_
  exact r_ireturn (pc := 14) hX dX1_operandOf_14 rfl rfl (by first | with_reducible rfl | (simp only [operandOf_, ↓reduceIte, if_true, if_false, decide_true, decide_false, eq_self, b2i_t, b2i_f, Bool.false_eq_true, and_true, true_and, and_false, false_and, or_true, true_or, or_false, false_or, not_true_eq_false, not_false_eq_true] <;> rfl) | simp [operandOf_]) rfl
set_option maxRecDepth 100000 in
set_option maxHeartbeats 1000000 in
theorem sp_X1_startOf {l : Launch} {k : im_K} {S : im_S} {I : im_I} {a m : Nat} {p0 : Int32} (h : o_X1 S a m) : im_Runs l k 1 mX1_startOf [.ref a, .int p0] (S, I) (some (.int (startOf_ I a p0))) (S, I) := by
  refine im_run (by decide +kernel) ⟨Nat.le_refl _, Nat.le_refl _⟩ (Nat.le_of_ble_eq_true rfl) ?_
  intro X hl hX hxn hxz hxc hxs
  subst hl
  change im_E X k _ 0 [some (.ref a), some (.int p0)] [] S I
  refine r_aload_n (pc := 0) hX dX1_startOf_0 rfl ?_
  refine r_getr (pc := 1) hX dX1_startOf_1 fl_X1_25 rfl (o_X1_k h) (o_X1_r5 h) ?_
  refine r_iload_n (pc := 4) hX dX1_startOf_4 rfl ?_
  refine r_callSN (Z := mX11_at) (pc := 5) hX dX1_startOf_5 mn_X1_109 mX11_at_w (sp_X11_at (o_X1_a5 h)) rfl rfl (Nat.le_of_ble_eq_true rfl) (by decide) rfl (Or.inl rfl) ?_
  exact r_ireturn (pc := 8) hX dX1_startOf_8 rfl rfl (by first | with_reducible rfl | (simp only [startOf_, ↓reduceIte, if_true, if_false, decide_true, decide_false, eq_self, b2i_t, b2i_f, Bool.false_eq_true, and_true, true_and, and_false, false_and, or_true, true_or, or_false, false_or, not_true_eq_false, not_false_eq_true] <;> rfl) | simp [startOf_]) rfl
set_option maxRecDepth 100000 in
set_option maxHeartbeats 1000000 in
theorem sp_X1_tellPlace {l : Launch} {k : im_K} {S : im_S} {I : im_I} {a m : Nat} {p0 : Int32} {p1 : Int32} (h : o_X1 S a m) : im_Runs l k 2 mX1_tellPlace [.ref a, .int p0, .int p1] (S, I) (some (.int (tellPlace_ I a p0 p1))) (S, I) := by
  refine im_run (by decide +kernel) ⟨Nat.le_refl _, Nat.le_refl _⟩ (Nat.le_of_ble_eq_true rfl) ?_
  intro X hl hX hxn hxz hxc hxs
  subst hl
  change im_E X k _ 0 [some (.ref a), some (.int p0), some (.int p1)] [] S I
  refine r_iload_n (pc := 0) hX dX1_tellPlace_0 rfl ?_
  refine r_if_ne (pc := 1) hX 10 dX1_tellPlace_1 (by decide) (fun c1 => ?_) (fun c1 => ?_)
  · refine r_iload_n (pc := 10) hX dX1_tellPlace_10 rfl ?_
    refine r_iconst (pc := 11) hX 5 dX1_tellPlace_11 (by decide) ?_
    refine r_icmp_ne (pc := 12) hX 26 dX1_tellPlace_12 (by decide) (fun c12 => ?_) (fun c12 => ?_)
    · refine r_aload_n (pc := 26) hX dX1_tellPlace_26 rfl ?_
      refine r_iload_n (pc := 27) hX dX1_tellPlace_27 rfl ?_
      refine r_iload_n (pc := 28) hX dX1_tellPlace_28 rfl ?_
      refine r_callV (Z := mX1_operandOf) (t := 1) (pc := 29) hX dX1_tellPlace_29 ml_X1_130 mX1_operandOf_w ⟨by decide, rfl⟩ (o_X1_k h) (sp_X1_operandOf h) rfl rfl (Nat.le_of_ble_eq_true rfl) (by decide) rfl (Or.inl rfl) ?_
      exact r_ireturn (pc := 32) hX dX1_tellPlace_32 rfl rfl (by first | with_reducible rfl | (simp only [tellPlace_, eq_false c1, eq_false c12, ↓reduceIte, if_true, if_false, decide_true, decide_false, eq_self, b2i_t, b2i_f, Bool.false_eq_true, and_true, true_and, and_false, false_and, or_true, true_or, or_false, false_or, not_true_eq_false, not_false_eq_true] <;> rfl) | simp [tellPlace_, eq_false c1, eq_false c12]) rfl
    · refine r_aload_n (pc := 15) hX dX1_tellPlace_15 rfl ?_
      refine r_getr (pc := 16) hX dX1_tellPlace_16 fl_X1_22 rfl (o_X1_k h) (o_X1_r4 h) ?_
      refine r_iload_n (pc := 19) hX dX1_tellPlace_19 rfl ?_
      refine r_callSN (Z := mX11_at) (pc := 20) hX dX1_tellPlace_20 mn_X1_109 mX11_at_w (sp_X11_at (o_X1_a4 h)) rfl rfl (Nat.le_of_ble_eq_true rfl) (by decide) rfl (Or.inl rfl) ?_
      refine r_goto (pc := 23) hX (tgt := 32) dX1_tellPlace_23 (by decide) ?_
      exact r_ireturn (pc := 32) hX dX1_tellPlace_32 rfl rfl (by first | with_reducible rfl | (simp only [tellPlace_, eq_false c1, eq_true c12, ↓reduceIte, if_true, if_false, decide_true, decide_false, eq_self, b2i_t, b2i_f, Bool.false_eq_true, and_true, true_and, and_false, false_and, or_true, true_or, or_false, false_or, not_true_eq_false, not_false_eq_true] <;> rfl) | simp [tellPlace_, eq_false c1, eq_true c12]) rfl
  · refine r_aload_n (pc := 4) hX dX1_tellPlace_4 rfl ?_
    refine r_iload_n (pc := 5) hX dX1_tellPlace_5 rfl ?_
    refine r_callV (Z := mX1_kindOf) (t := 1) (pc := 6) hX dX1_tellPlace_6 ml_X1_129 mX1_kindOf_w ⟨by decide, rfl⟩ (o_X1_k h) (sp_X1_kindOf h) rfl rfl (Nat.le_of_ble_eq_true rfl) (by decide) rfl (Or.inl rfl) ?_
    exact r_ireturn (pc := 9) hX dX1_tellPlace_9 rfl rfl (by first | with_reducible rfl | (simp only [tellPlace_, eq_true c1, ↓reduceIte, if_true, if_false, decide_true, decide_false, eq_self, b2i_t, b2i_f, Bool.false_eq_true, and_true, true_and, and_false, false_and, or_true, true_or, or_false, false_or, not_true_eq_false, not_false_eq_true] <;> rfl) | simp [tellPlace_, eq_true c1]) rfl
set_option maxRecDepth 100000 in
set_option maxHeartbeats 1000000 in
theorem sp_X1_countOf {l : Launch} {k : im_K} {S : im_S} {I : im_I} {a m : Nat} {p0 : Int32} (h : o_X1 S a m) : im_Runs l k 2 mX1_countOf [.ref a, .int p0] (S, I) (some (.int (countOf_ I a p0))) (S, I) := by
  refine im_run (by decide +kernel) ⟨Nat.le_refl _, Nat.le_refl _⟩ (Nat.le_of_ble_eq_true rfl) ?_
  intro X hl hX hxn hxz hxc hxs
  subst hl
  change im_E X k _ 0 [some (.ref a), some (.int p0), none, none] [] S I
  refine r_iconst (pc := 0) hX 0 dX1_countOf_0 (by decide) ?_
  refine r_istore_n (pc := 1) hX (L' := [_, _, _, _]) dX1_countOf_1 rfl rfl (Nat.le_of_ble_eq_true rfl) ?_
  refine r_iconst (pc := 2) hX 0 dX1_countOf_2 (by decide) ?_
  refine r_istore_n (pc := 3) hX (L' := [_, _, _, _]) dX1_countOf_3 rfl rfl (Nat.le_of_ble_eq_true rfl) ?_
  have hL4 : ∀ (w1 : Nat) (i1 : Int32) (J1 : Int32), cnt i1 (I a 0) = w1 → loopN w1 i1 (fun i n => if codeKindOf_ I a i = p0 then n + 1 else n) J1 = loopN (cnt (0) (I a 0)) (0) (fun i n => if codeKindOf_ I a i = p0 then n + 1 else n) (0) → im_E X k (im_Q X k (some (.int (countOf_ I a p0))) (S, I)) 4 [some (.ref a), some (.int p0), some (.int J1), some (.int i1)] [] S I := by
    intro w1
    induction w1 with
    | zero =>
      intro i1 J1  hm1 hR1
      refine r_iload_n (pc := 4) hX dX1_countOf_4 rfl ?_
      refine r_aload_n (pc := 5) hX dX1_countOf_5 rfl ?_
      refine r_geti (pc := 6) hX dX1_countOf_6 fl_X1_28 rfl (o_X1_k h) ?_
      refine r_icmp_ge (pc := 9) hX 30 dX1_countOf_9 (by decide) (fun c9 => ?_) (fun c9 => ?_)
      · have c9d := Int32.not_lt.mpr c9
        rw [loopN_0] at hR1
        subst hR1
        refine r_iload_n (pc := 30) hX dX1_countOf_30 rfl ?_
        exact r_ireturn (pc := 31) hX dX1_countOf_31 rfl rfl (by first | with_reducible rfl | (simp only [countOf_, loopC, eq_true c9, eq_false c9d, ↓reduceIte, if_true, if_false, decide_true, decide_false, eq_self, b2i_t, b2i_f, Bool.false_eq_true, and_true, true_and, and_false, false_and, or_true, true_or, or_false, false_or, not_true_eq_false, not_false_eq_true] <;> rfl) | simp [countOf_, loopC, eq_true c9, eq_false c9d]) rfl
      · have c9d := Int32.not_le.mp c9
        exact (cnt_ex hm1  c9).elim
    | succ w1 ih1 =>
      intro i1 J1  hm1 hR1
      refine r_iload_n (pc := 4) hX dX1_countOf_4 rfl ?_
      refine r_aload_n (pc := 5) hX dX1_countOf_5 rfl ?_
      refine r_geti (pc := 6) hX dX1_countOf_6 fl_X1_28 rfl (o_X1_k h) ?_
      refine r_icmp_ge (pc := 9) hX 30 dX1_countOf_9 (by decide) (fun c9 => ?_) (fun c9 => ?_)
      · have c9d := Int32.not_lt.mpr c9
        exact (cnt_go hm1  c9).elim
      · have c9d := Int32.not_le.mp c9
        refine r_aload_n (pc := 12) hX dX1_countOf_12 rfl ?_
        refine r_iload_n (pc := 13) hX dX1_countOf_13 rfl ?_
        refine r_callV (Z := mX1_kindOf) (t := 1) (pc := 14) hX dX1_countOf_14 ml_X1_129 mX1_kindOf_w ⟨by decide, rfl⟩ (o_X1_k h) (sp_X1_kindOf h) rfl rfl (Nat.le_of_ble_eq_true rfl) (by decide) rfl (Or.inl rfl) ?_
        refine r_iload_n (pc := 17) hX dX1_countOf_17 rfl ?_
        refine r_icmp_ne (pc := 18) hX 24 dX1_countOf_18 (by decide) (fun c18 => ?_) (fun c18 => ?_)
        · refine r_iinc (pc := 24) hX 1 (L' := [_, _, _, _]) dX1_countOf_24 rfl (by decide) rfl rfl ?_
          refine r_goto (pc := 27) hX (tgt := 4) dX1_countOf_27 (by decide) ?_
          exact ih1 _ _  (cnt_nx hm1) (by refine Eq.trans (congrArg (loopN w1 (i1 + 1) (fun i n => if codeKindOf_ I a i = p0 then n + 1 else n)) ?_) (loopN_s.symm.trans hR1); exact (by first | with_reducible rfl | (simp only [eq_false c9, eq_true c9d, eq_false c18, ↓reduceIte, if_true, if_false, decide_true, decide_false, eq_self, b2i_t, b2i_f, Bool.false_eq_true, and_true, true_and, and_false, false_and, or_true, true_or, or_false, false_or, not_true_eq_false, not_false_eq_true] <;> rfl) | simp [eq_false c9, eq_true c9d, eq_false c18]))
        · refine r_iinc (pc := 21) hX 1 (L' := [_, _, _, _]) dX1_countOf_21 rfl (by decide) rfl rfl ?_
          refine r_iinc (pc := 24) hX 1 (L' := [_, _, _, _]) dX1_countOf_24 rfl (by decide) rfl rfl ?_
          refine r_goto (pc := 27) hX (tgt := 4) dX1_countOf_27 (by decide) ?_
          exact ih1 _ _  (cnt_nx hm1) (by refine Eq.trans (congrArg (loopN w1 (i1 + 1) (fun i n => if codeKindOf_ I a i = p0 then n + 1 else n)) ?_) (loopN_s.symm.trans hR1); exact (by first | with_reducible rfl | (simp only [eq_false c9, eq_true c9d, eq_true c18, ↓reduceIte, if_true, if_false, decide_true, decide_false, eq_self, b2i_t, b2i_f, Bool.false_eq_true, and_true, true_and, and_false, false_and, or_true, true_or, or_false, false_or, not_true_eq_false, not_false_eq_true] <;> rfl) | simp [eq_false c9, eq_true c9d, eq_true c18]))
  exact hL4 (cnt (0) (I a 0)) (0) (0)  rfl rfl
set_option maxRecDepth 100000 in
set_option maxHeartbeats 1000000 in
theorem sp_X1_addMove {l : Launch} {k : im_K} {S : im_S} {I : im_I} {a m : Nat} {p0 : Int32} {p1 : Int32} (h : o_X1 S a m) : im_Runs l k 1 mX1_addMove [.ref a, .int p0, .int p1] (S, I) (none) (S, addMove_ I a p0 p1) := by
  refine im_run (by decide +kernel) ⟨Nat.le_refl _, Nat.le_refl _⟩ (Nat.le_of_ble_eq_true rfl) ?_
  intro X hl hX hxn hxz hxc hxs
  subst hl
  change im_E X k _ 0 [some (.ref a), some (.int p0), some (.int p1)] [] S I
  refine r_iload_n (pc := 0) hX dX1_addMove_0 rfl ?_
  refine r_iload_n (pc := 1) hX dX1_addMove_1 rfl ?_
  refine r_icmp_eq (pc := 2) hX 14 dX1_addMove_2 (by decide) (fun c2 => ?_) (fun c2 => ?_)
  · exact r_return (pc := 14) hX dX1_addMove_14 rfl rfl (by first | with_reducible rfl | (simp only [addMove_, eq_true c2, ↓reduceIte, if_true, if_false, decide_true, decide_false, eq_self, b2i_t, b2i_f, Bool.false_eq_true, and_true, true_and, and_false, false_and, or_true, true_or, or_false, false_or, not_true_eq_false, not_false_eq_true] <;> rfl) | simp [addMove_, eq_true c2])
  · refine r_aload_n (pc := 5) hX dX1_addMove_5 rfl ?_
    refine r_iconst (pc := 6) hX 1 dX1_addMove_6 (by decide) ?_
    refine r_iload_n (pc := 7) hX dX1_addMove_7 rfl ?_
    refine r_iload_n (pc := 8) hX dX1_addMove_8 rfl ?_
    refine r_iconst (pc := 9) hX 0 dX1_addMove_9 (by decide) ?_
    refine r_iconst (pc := 10) hX 0 dX1_addMove_10 (by decide) ?_
    refine r_callV (Z := mX1_add) (t := 1) (pc := 11) hX dX1_addMove_11 ml_X1_83 mX1_add_w ⟨by decide, rfl⟩ (o_X1_k h) (sp_X1_add h) rfl rfl (Nat.le_of_ble_eq_true rfl) (by decide) rfl (Or.inl rfl) ?_
    exact r_return (pc := 14) hX dX1_addMove_14 rfl rfl (by first | with_reducible rfl | (simp only [addMove_, eq_false c2, ↓reduceIte, if_true, if_false, decide_true, decide_false, eq_self, b2i_t, b2i_f, Bool.false_eq_true, and_true, true_and, and_false, false_and, or_true, true_or, or_false, false_or, not_true_eq_false, not_false_eq_true] <;> rfl) | simp [addMove_, eq_false c2])
set_option maxRecDepth 100000 in
set_option maxHeartbeats 1000000 in
theorem sp_X1_addOperation {l : Launch} {k : im_K} {S : im_S} {I : im_I} {a m : Nat} {p0 : Int32} {p1 : Int32} {p2 : Int32} {p3 : Int32} {p4 : Int32} {p5 : Int32} (h : o_X1 S a m) : im_Runs l k 1 mX1_addOperation [.ref a, .int p0, .int p1, .int p2, .int p3, .int p4, .int p5] (S, I) (none) (S, addOperation_ I a p0 p1 p2 p3 p4 p5) := by
  refine im_run (by decide +kernel) ⟨Nat.le_refl _, Nat.le_refl _⟩ (Nat.le_of_ble_eq_true rfl) ?_
  intro X hl hX hxn hxz hxc hxs
  subst hl
  change im_E X k _ 0 [some (.ref a), some (.int p0), some (.int p1), some (.int p2), some (.int p3), some (.int p4), some (.int p5)] [] S I
  refine r_iload_n (pc := 0) hX dX1_addOperation_0 rfl ?_
  refine r_iconst (pc := 1) hX 5 dX1_addOperation_1 (by decide) ?_
  refine r_icmp_ne (pc := 2) hX 18 dX1_addOperation_2 (by decide) (fun c2 => ?_) (fun c2 => ?_)
  · refine r_aload_n (pc := 18) hX dX1_addOperation_18 rfl ?_
    refine r_iload_n (pc := 19) hX dX1_addOperation_19 rfl ?_
    refine r_iload_n (pc := 20) hX dX1_addOperation_20 rfl ?_
    refine r_iload_n (pc := 21) hX dX1_addOperation_21 rfl ?_
    refine r_iload (pc := 22) hX dX1_addOperation_22 rfl ?_
    refine r_iload_n (pc := 24) hX dX1_addOperation_24 rfl ?_
    refine r_bipush (pc := 25) hX 6 dX1_addOperation_25 (by decide) ?_
    refine r_icmp_ne (pc := 27) hX 35 dX1_addOperation_27 (by decide) (fun c27 => ?_) (fun c27 => ?_)
    · refine r_iconst (pc := 35) hX 0 dX1_addOperation_35 (by decide) ?_
      refine r_callV (Z := mX1_add) (t := 1) (pc := 36) hX dX1_addOperation_36 ml_X1_83 mX1_add_w ⟨by decide, rfl⟩ (o_X1_k h) (sp_X1_add h) rfl rfl (Nat.le_of_ble_eq_true rfl) (by decide) rfl (Or.inl rfl) ?_
      exact r_return (pc := 39) hX dX1_addOperation_39 rfl rfl (by first | with_reducible rfl | (simp only [addOperation_, eq_false c2, eq_false c27, ↓reduceIte, if_true, if_false, decide_true, decide_false, eq_self, b2i_t, b2i_f, Bool.false_eq_true, and_true, true_and, and_false, false_and, or_true, true_or, or_false, false_or, not_true_eq_false, not_false_eq_true] <;> rfl) | simp [addOperation_, eq_false c2, eq_false c27])
    · refine r_iload (pc := 30) hX dX1_addOperation_30 rfl ?_
      refine r_goto (pc := 32) hX (tgt := 36) dX1_addOperation_32 (by decide) ?_
      refine r_callV (Z := mX1_add) (t := 1) (pc := 36) hX dX1_addOperation_36 ml_X1_83 mX1_add_w ⟨by decide, rfl⟩ (o_X1_k h) (sp_X1_add h) rfl rfl (Nat.le_of_ble_eq_true rfl) (by decide) rfl (Or.inl rfl) ?_
      exact r_return (pc := 39) hX dX1_addOperation_39 rfl rfl (by first | with_reducible rfl | (simp only [addOperation_, eq_false c2, eq_true c27, ↓reduceIte, if_true, if_false, decide_true, decide_false, eq_self, b2i_t, b2i_f, Bool.false_eq_true, and_true, true_and, and_false, false_and, or_true, true_or, or_false, false_or, not_true_eq_false, not_false_eq_true] <;> rfl) | simp [addOperation_, eq_false c2, eq_true c27])
  · refine r_aload_n (pc := 5) hX dX1_addOperation_5 rfl ?_
    refine r_iconst (pc := 6) hX 5 dX1_addOperation_6 (by decide) ?_
    refine r_iload_n (pc := 7) hX dX1_addOperation_7 rfl ?_
    refine r_iload_n (pc := 8) hX dX1_addOperation_8 rfl ?_
    refine r_iload (pc := 9) hX dX1_addOperation_9 rfl ?_
    refine r_iconst (pc := 11) hX 0 dX1_addOperation_11 (by decide) ?_
    refine r_callV (Z := mX1_add) (t := 1) (pc := 12) hX dX1_addOperation_12 ml_X1_83 mX1_add_w ⟨by decide, rfl⟩ (o_X1_k h) (sp_X1_add h) rfl rfl (Nat.le_of_ble_eq_true rfl) (by decide) rfl (Or.inl rfl) ?_
    refine r_goto (pc := 15) hX (tgt := 39) dX1_addOperation_15 (by decide) ?_
    exact r_return (pc := 39) hX dX1_addOperation_39 rfl rfl (by first | with_reducible rfl | (simp only [addOperation_, eq_true c2, ↓reduceIte, if_true, if_false, decide_true, decide_false, eq_self, b2i_t, b2i_f, Bool.false_eq_true, and_true, true_and, and_false, false_and, or_true, true_or, or_false, false_or, not_true_eq_false, not_false_eq_true] <;> rfl) | simp [addOperation_, eq_true c2])
set_option maxRecDepth 100000 in
set_option maxHeartbeats 1000000 in
theorem sp_X1_operate {l : Launch} {k : im_K} {S : im_S} {I : im_I} {a m : Nat} {p0 : Int32} {p1 : Int32} {p2 : Int32} {p3 : Int32} {p4 : Int32} {p5 : Int32} (h : o_X1 S a m) : im_Runs l k 2 mX1_operate [.ref a, .int p0, .int p1, .int p2, .int p3, .int p4, .int p5] (S, I) (none) (S, operate_ I a m p0 p1 p2 p3 p4 p5) := by
  refine im_run (by decide +kernel) ⟨Nat.le_refl _, Nat.le_refl _⟩ (Nat.le_of_ble_eq_true rfl) ?_
  intro X hl hX hxn hxz hxc hxs
  subst hl
  change im_E X k _ 0 [some (.ref a), some (.int p0), some (.int p1), some (.int p2), some (.int p3), some (.int p4), some (.int p5), none] [] S I
  refine r_aload_n (pc := 0) hX dX1_operate_0 rfl ?_
  refine r_getr (pc := 1) hX dX1_operate_1 fl_X1_9 rfl (o_X1_k h) (o_X1_r1 h) ?_
  refine r_callV (Z := mX5_scratch) (t := 5) (pc := 4) hX dX1_operate_4 ml_X1_71 mX5_scratch_w ⟨by decide, rfl⟩ (o_X5_k (o_X1_o1 h)) (sp_X5_scratch (o_X1_o1 h)) rfl rfl (Nat.le_of_ble_eq_true rfl) (by decide) rfl (Or.inl rfl) ?_
  refine r_istore (pc := 7) hX (L' := [_, _, _, _, _, _, _, _]) dX1_operate_7 rfl rfl (Nat.le_of_ble_eq_true rfl) ?_
  refine r_aload_n (pc := 9) hX dX1_operate_9 rfl ?_
  refine r_getr (pc := 10) hX dX1_operate_10 fl_X1_9 rfl (o_X1_k h) (o_X1_r1 h) ?_
  refine r_geti (pc := 13) hX dX1_operate_13 fl_X1_119 rfl (o_X5_k (o_X1_o1 h)) ?_
  refine r_if_eq (pc := 16) hX 24 dX1_operate_16 (by decide) (fun c16 => ?_) (fun c16 => ?_)
  · refine r_aload_n (pc := 24) hX dX1_operate_24 rfl ?_
    refine r_iload_n (pc := 25) hX dX1_operate_25 rfl ?_
    refine r_iload_n (pc := 26) hX dX1_operate_26 rfl ?_
    refine r_iload_n (pc := 27) hX dX1_operate_27 rfl ?_
    refine r_iload (pc := 28) hX dX1_operate_28 rfl ?_
    refine r_iload (pc := 30) hX dX1_operate_30 rfl ?_
    refine r_iload (pc := 32) hX dX1_operate_32 rfl ?_
    refine r_callV (Z := mX1_addOperation) (t := 1) (pc := 34) hX dX1_operate_34 ml_X1_123 mX1_addOperation_w ⟨by decide, rfl⟩ (o_X1_k h) (sp_X1_addOperation h) rfl rfl (Nat.le_of_ble_eq_true rfl) (by decide) rfl (Or.inl rfl) ?_
    refine r_goto (pc := 37) hX (tgt := 129) dX1_operate_37 (by decide) ?_
    exact r_return (pc := 129) hX dX1_operate_129 rfl rfl (by first | with_reducible rfl | (simp only [operate_, eq_true c16, ↓reduceIte, if_true, if_false, decide_true, decide_false, eq_self, b2i_t, b2i_f, Bool.false_eq_true, and_true, true_and, and_false, false_and, or_true, true_or, or_false, false_or, not_true_eq_false, not_false_eq_true] <;> rfl) | simp [operate_, eq_true c16])
  · refine r_iload_n (pc := 19) hX dX1_operate_19 rfl ?_
    refine r_iload_n (pc := 20) hX dX1_operate_20 rfl ?_
    refine r_icmp_ne (pc := 21) hX 40 dX1_operate_21 (by decide) (fun c21 => ?_) (fun c21 => ?_)
    · refine r_iload_n (pc := 40) hX dX1_operate_40 rfl ?_
      refine r_iload (pc := 41) hX dX1_operate_41 rfl ?_
      refine r_icmp_eq (pc := 43) hX 74 dX1_operate_43 (by decide) (fun c43 => ?_) (fun c43 => ?_)
      · refine r_iload_n (pc := 74) hX dX1_operate_74 rfl ?_
        refine r_iconst (pc := 75) hX 2 dX1_operate_75 (by decide) ?_
        refine r_icmp_eq (pc := 76) hX 84 dX1_operate_76 (by decide) (fun c76 => ?_) (fun c76 => ?_)
        · refine r_aload_n (pc := 84) hX dX1_operate_84 rfl ?_
          refine r_iload_n (pc := 85) hX dX1_operate_85 rfl ?_
          refine r_iload_n (pc := 86) hX dX1_operate_86 rfl ?_
          refine r_iload (pc := 87) hX dX1_operate_87 rfl ?_
          refine r_iload_n (pc := 89) hX dX1_operate_89 rfl ?_
          refine r_iload (pc := 90) hX dX1_operate_90 rfl ?_
          refine r_iload (pc := 92) hX dX1_operate_92 rfl ?_
          refine r_callV (Z := mX1_addOperation) (t := 1) (pc := 94) hX dX1_operate_94 ml_X1_123 mX1_addOperation_w ⟨by decide, rfl⟩ (o_X1_k h) (sp_X1_addOperation h) rfl rfl (Nat.le_of_ble_eq_true rfl) (by decide) rfl (Or.inl rfl) ?_
          refine r_goto (pc := 97) hX (tgt := 129) dX1_operate_97 (by decide) ?_
          exact r_return (pc := 129) hX dX1_operate_129 rfl rfl (by first | with_reducible rfl | (simp only [operate_, eq_false c16, eq_false c21, eq_true c43, eq_true c76, ↓reduceIte, if_true, if_false, decide_true, decide_false, eq_self, b2i_t, b2i_f, Bool.false_eq_true, and_true, true_and, and_false, false_and, or_true, true_or, or_false, false_or, not_true_eq_false, not_false_eq_true] <;> rfl) | simp [operate_, eq_false c16, eq_false c21, eq_true c43, eq_true c76])
        · refine r_iload_n (pc := 79) hX dX1_operate_79 rfl ?_
          refine r_iconst (pc := 80) hX 4 dX1_operate_80 (by decide) ?_
          refine r_icmp_ne (pc := 81) hX 100 dX1_operate_81 (by decide) (fun c81 => ?_) (fun c81 => ?_)
          · refine r_aload_n (pc := 100) hX dX1_operate_100 rfl ?_
            refine r_iload (pc := 101) hX dX1_operate_101 rfl ?_
            refine r_iload_n (pc := 103) hX dX1_operate_103 rfl ?_
            refine r_callV (Z := mX1_addMove) (t := 1) (pc := 104) hX dX1_operate_104 ml_X1_87 mX1_addMove_w ⟨by decide, rfl⟩ (o_X1_k h) (sp_X1_addMove h) rfl rfl (Nat.le_of_ble_eq_true rfl) (by decide) rfl (Or.inl rfl) ?_
            refine r_aload_n (pc := 107) hX dX1_operate_107 rfl ?_
            refine r_iload_n (pc := 108) hX dX1_operate_108 rfl ?_
            refine r_iload (pc := 109) hX dX1_operate_109 rfl ?_
            refine r_iload (pc := 111) hX dX1_operate_111 rfl ?_
            refine r_iload (pc := 113) hX dX1_operate_113 rfl ?_
            refine r_iload (pc := 115) hX dX1_operate_115 rfl ?_
            refine r_iload (pc := 117) hX dX1_operate_117 rfl ?_
            refine r_callV (Z := mX1_addOperation) (t := 1) (pc := 119) hX dX1_operate_119 ml_X1_123 mX1_addOperation_w ⟨by decide, rfl⟩ (o_X1_k h) (sp_X1_addOperation h) rfl rfl (Nat.le_of_ble_eq_true rfl) (by decide) rfl (Or.inl rfl) ?_
            refine r_aload_n (pc := 122) hX dX1_operate_122 rfl ?_
            refine r_iload_n (pc := 123) hX dX1_operate_123 rfl ?_
            refine r_iload (pc := 124) hX dX1_operate_124 rfl ?_
            refine r_callV (Z := mX1_addMove) (t := 1) (pc := 126) hX dX1_operate_126 ml_X1_87 mX1_addMove_w ⟨by decide, rfl⟩ (o_X1_k h) (sp_X1_addMove h) rfl rfl (Nat.le_of_ble_eq_true rfl) (by decide) rfl (Or.inl rfl) ?_
            exact r_return (pc := 129) hX dX1_operate_129 rfl rfl (by first | with_reducible rfl | (simp only [operate_, eq_false c16, eq_false c21, eq_true c43, eq_false c76, eq_false c81, ↓reduceIte, if_true, if_false, decide_true, decide_false, eq_self, b2i_t, b2i_f, Bool.false_eq_true, and_true, true_and, and_false, false_and, or_true, true_or, or_false, false_or, not_true_eq_false, not_false_eq_true] <;> rfl) | simp [operate_, eq_false c16, eq_false c21, eq_true c43, eq_false c76, eq_false c81])
          · refine r_aload_n (pc := 84) hX dX1_operate_84 rfl ?_
            refine r_iload_n (pc := 85) hX dX1_operate_85 rfl ?_
            refine r_iload_n (pc := 86) hX dX1_operate_86 rfl ?_
            refine r_iload (pc := 87) hX dX1_operate_87 rfl ?_
            refine r_iload_n (pc := 89) hX dX1_operate_89 rfl ?_
            refine r_iload (pc := 90) hX dX1_operate_90 rfl ?_
            refine r_iload (pc := 92) hX dX1_operate_92 rfl ?_
            refine r_callV (Z := mX1_addOperation) (t := 1) (pc := 94) hX dX1_operate_94 ml_X1_123 mX1_addOperation_w ⟨by decide, rfl⟩ (o_X1_k h) (sp_X1_addOperation h) rfl rfl (Nat.le_of_ble_eq_true rfl) (by decide) rfl (Or.inl rfl) ?_
            refine r_goto (pc := 97) hX (tgt := 129) dX1_operate_97 (by decide) ?_
            exact r_return (pc := 129) hX dX1_operate_129 rfl rfl (by first | with_reducible rfl | (simp only [operate_, eq_false c16, eq_false c21, eq_true c43, eq_false c76, eq_true c81, ↓reduceIte, if_true, if_false, decide_true, decide_false, eq_self, b2i_t, b2i_f, Bool.false_eq_true, and_true, true_and, and_false, false_and, or_true, true_or, or_false, false_or, not_true_eq_false, not_false_eq_true] <;> rfl) | simp [operate_, eq_false c16, eq_false c21, eq_true c43, eq_false c76, eq_true c81])
      · refine r_iload_n (pc := 46) hX dX1_operate_46 rfl ?_
        refine r_iload (pc := 47) hX dX1_operate_47 rfl ?_
        refine r_icmp_eq (pc := 49) hX 74 dX1_operate_49 (by decide) (fun c49 => ?_) (fun c49 => ?_)
        · refine r_iload_n (pc := 74) hX dX1_operate_74 rfl ?_
          refine r_iconst (pc := 75) hX 2 dX1_operate_75 (by decide) ?_
          refine r_icmp_eq (pc := 76) hX 84 dX1_operate_76 (by decide) (fun c76 => ?_) (fun c76 => ?_)
          · refine r_aload_n (pc := 84) hX dX1_operate_84 rfl ?_
            refine r_iload_n (pc := 85) hX dX1_operate_85 rfl ?_
            refine r_iload_n (pc := 86) hX dX1_operate_86 rfl ?_
            refine r_iload (pc := 87) hX dX1_operate_87 rfl ?_
            refine r_iload_n (pc := 89) hX dX1_operate_89 rfl ?_
            refine r_iload (pc := 90) hX dX1_operate_90 rfl ?_
            refine r_iload (pc := 92) hX dX1_operate_92 rfl ?_
            refine r_callV (Z := mX1_addOperation) (t := 1) (pc := 94) hX dX1_operate_94 ml_X1_123 mX1_addOperation_w ⟨by decide, rfl⟩ (o_X1_k h) (sp_X1_addOperation h) rfl rfl (Nat.le_of_ble_eq_true rfl) (by decide) rfl (Or.inl rfl) ?_
            refine r_goto (pc := 97) hX (tgt := 129) dX1_operate_97 (by decide) ?_
            exact r_return (pc := 129) hX dX1_operate_129 rfl rfl (by first | with_reducible rfl | (simp only [operate_, eq_false c16, eq_false c21, eq_false c43, eq_true c49, eq_true c76, ↓reduceIte, if_true, if_false, decide_true, decide_false, eq_self, b2i_t, b2i_f, Bool.false_eq_true, and_true, true_and, and_false, false_and, or_true, true_or, or_false, false_or, not_true_eq_false, not_false_eq_true] <;> rfl) | simp [operate_, eq_false c16, eq_false c21, eq_false c43, eq_true c49, eq_true c76])
          · refine r_iload_n (pc := 79) hX dX1_operate_79 rfl ?_
            refine r_iconst (pc := 80) hX 4 dX1_operate_80 (by decide) ?_
            refine r_icmp_ne (pc := 81) hX 100 dX1_operate_81 (by decide) (fun c81 => ?_) (fun c81 => ?_)
            · refine r_aload_n (pc := 100) hX dX1_operate_100 rfl ?_
              refine r_iload (pc := 101) hX dX1_operate_101 rfl ?_
              refine r_iload_n (pc := 103) hX dX1_operate_103 rfl ?_
              refine r_callV (Z := mX1_addMove) (t := 1) (pc := 104) hX dX1_operate_104 ml_X1_87 mX1_addMove_w ⟨by decide, rfl⟩ (o_X1_k h) (sp_X1_addMove h) rfl rfl (Nat.le_of_ble_eq_true rfl) (by decide) rfl (Or.inl rfl) ?_
              refine r_aload_n (pc := 107) hX dX1_operate_107 rfl ?_
              refine r_iload_n (pc := 108) hX dX1_operate_108 rfl ?_
              refine r_iload (pc := 109) hX dX1_operate_109 rfl ?_
              refine r_iload (pc := 111) hX dX1_operate_111 rfl ?_
              refine r_iload (pc := 113) hX dX1_operate_113 rfl ?_
              refine r_iload (pc := 115) hX dX1_operate_115 rfl ?_
              refine r_iload (pc := 117) hX dX1_operate_117 rfl ?_
              refine r_callV (Z := mX1_addOperation) (t := 1) (pc := 119) hX dX1_operate_119 ml_X1_123 mX1_addOperation_w ⟨by decide, rfl⟩ (o_X1_k h) (sp_X1_addOperation h) rfl rfl (Nat.le_of_ble_eq_true rfl) (by decide) rfl (Or.inl rfl) ?_
              refine r_aload_n (pc := 122) hX dX1_operate_122 rfl ?_
              refine r_iload_n (pc := 123) hX dX1_operate_123 rfl ?_
              refine r_iload (pc := 124) hX dX1_operate_124 rfl ?_
              refine r_callV (Z := mX1_addMove) (t := 1) (pc := 126) hX dX1_operate_126 ml_X1_87 mX1_addMove_w ⟨by decide, rfl⟩ (o_X1_k h) (sp_X1_addMove h) rfl rfl (Nat.le_of_ble_eq_true rfl) (by decide) rfl (Or.inl rfl) ?_
              exact r_return (pc := 129) hX dX1_operate_129 rfl rfl (by first | with_reducible rfl | (simp only [operate_, eq_false c16, eq_false c21, eq_false c43, eq_true c49, eq_false c76, eq_false c81, ↓reduceIte, if_true, if_false, decide_true, decide_false, eq_self, b2i_t, b2i_f, Bool.false_eq_true, and_true, true_and, and_false, false_and, or_true, true_or, or_false, false_or, not_true_eq_false, not_false_eq_true] <;> rfl) | simp [operate_, eq_false c16, eq_false c21, eq_false c43, eq_true c49, eq_false c76, eq_false c81])
            · refine r_aload_n (pc := 84) hX dX1_operate_84 rfl ?_
              refine r_iload_n (pc := 85) hX dX1_operate_85 rfl ?_
              refine r_iload_n (pc := 86) hX dX1_operate_86 rfl ?_
              refine r_iload (pc := 87) hX dX1_operate_87 rfl ?_
              refine r_iload_n (pc := 89) hX dX1_operate_89 rfl ?_
              refine r_iload (pc := 90) hX dX1_operate_90 rfl ?_
              refine r_iload (pc := 92) hX dX1_operate_92 rfl ?_
              refine r_callV (Z := mX1_addOperation) (t := 1) (pc := 94) hX dX1_operate_94 ml_X1_123 mX1_addOperation_w ⟨by decide, rfl⟩ (o_X1_k h) (sp_X1_addOperation h) rfl rfl (Nat.le_of_ble_eq_true rfl) (by decide) rfl (Or.inl rfl) ?_
              refine r_goto (pc := 97) hX (tgt := 129) dX1_operate_97 (by decide) ?_
              exact r_return (pc := 129) hX dX1_operate_129 rfl rfl (by first | with_reducible rfl | (simp only [operate_, eq_false c16, eq_false c21, eq_false c43, eq_true c49, eq_false c76, eq_true c81, ↓reduceIte, if_true, if_false, decide_true, decide_false, eq_self, b2i_t, b2i_f, Bool.false_eq_true, and_true, true_and, and_false, false_and, or_true, true_or, or_false, false_or, not_true_eq_false, not_false_eq_true] <;> rfl) | simp [operate_, eq_false c16, eq_false c21, eq_false c43, eq_true c49, eq_false c76, eq_true c81])
        · refine r_aload_n (pc := 52) hX dX1_operate_52 rfl ?_
          refine r_iload_n (pc := 53) hX dX1_operate_53 rfl ?_
          refine r_iload_n (pc := 54) hX dX1_operate_54 rfl ?_
          refine r_callV (Z := mX1_addMove) (t := 1) (pc := 55) hX dX1_operate_55 ml_X1_87 mX1_addMove_w ⟨by decide, rfl⟩ (o_X1_k h) (sp_X1_addMove h) rfl rfl (Nat.le_of_ble_eq_true rfl) (by decide) rfl (Or.inl rfl) ?_
          refine r_aload_n (pc := 58) hX dX1_operate_58 rfl ?_
          refine r_iload_n (pc := 59) hX dX1_operate_59 rfl ?_
          refine r_iload_n (pc := 60) hX dX1_operate_60 rfl ?_
          refine r_iload_n (pc := 61) hX dX1_operate_61 rfl ?_
          refine r_iload (pc := 62) hX dX1_operate_62 rfl ?_
          refine r_iload (pc := 64) hX dX1_operate_64 rfl ?_
          refine r_iload (pc := 66) hX dX1_operate_66 rfl ?_
          refine r_callV (Z := mX1_addOperation) (t := 1) (pc := 68) hX dX1_operate_68 ml_X1_123 mX1_addOperation_w ⟨by decide, rfl⟩ (o_X1_k h) (sp_X1_addOperation h) rfl rfl (Nat.le_of_ble_eq_true rfl) (by decide) rfl (Or.inl rfl) ?_
          refine r_goto (pc := 71) hX (tgt := 129) dX1_operate_71 (by decide) ?_
          exact r_return (pc := 129) hX dX1_operate_129 rfl rfl (by first | with_reducible rfl | (simp only [operate_, eq_false c16, eq_false c21, eq_false c43, eq_false c49, ↓reduceIte, if_true, if_false, decide_true, decide_false, eq_self, b2i_t, b2i_f, Bool.false_eq_true, and_true, true_and, and_false, false_and, or_true, true_or, or_false, false_or, not_true_eq_false, not_false_eq_true] <;> rfl) | simp [operate_, eq_false c16, eq_false c21, eq_false c43, eq_false c49])
    · refine r_aload_n (pc := 24) hX dX1_operate_24 rfl ?_
      refine r_iload_n (pc := 25) hX dX1_operate_25 rfl ?_
      refine r_iload_n (pc := 26) hX dX1_operate_26 rfl ?_
      refine r_iload_n (pc := 27) hX dX1_operate_27 rfl ?_
      refine r_iload (pc := 28) hX dX1_operate_28 rfl ?_
      refine r_iload (pc := 30) hX dX1_operate_30 rfl ?_
      refine r_iload (pc := 32) hX dX1_operate_32 rfl ?_
      refine r_callV (Z := mX1_addOperation) (t := 1) (pc := 34) hX dX1_operate_34 ml_X1_123 mX1_addOperation_w ⟨by decide, rfl⟩ (o_X1_k h) (sp_X1_addOperation h) rfl rfl (Nat.le_of_ble_eq_true rfl) (by decide) rfl (Or.inl rfl) ?_
      refine r_goto (pc := 37) hX (tgt := 129) dX1_operate_37 (by decide) ?_
      exact r_return (pc := 129) hX dX1_operate_129 rfl rfl (by first | with_reducible rfl | (simp only [operate_, eq_false c16, eq_true c21, ↓reduceIte, if_true, if_false, decide_true, decide_false, eq_self, b2i_t, b2i_f, Bool.false_eq_true, and_true, true_and, and_false, false_and, or_true, true_or, or_false, false_or, not_true_eq_false, not_false_eq_true] <;> rfl) | simp [operate_, eq_false c16, eq_true c21])
set_option maxRecDepth 100000 in
set_option maxHeartbeats 1000000 in
theorem sp_X1_addLoad {l : Launch} {k : im_K} {S : im_S} {I : im_I} {a m : Nat} {b0 mb0 : Nat} {p1 : Int32} {p2 : Int32} (h : o_X1 S a m) (hb0 : o_X2 S b0 mb0) : im_Runs l k 1 mX1_addLoad [.ref a, .ref b0, .int p1, .int p2] (S, I) (none) (S, addLoad_ I a b0 p1 p2) := by
  refine im_run (by decide +kernel) ⟨Nat.le_refl _, Nat.le_refl _⟩ (Nat.le_of_ble_eq_true rfl) ?_
  intro X hl hX hxn hxz hxc hxs
  subst hl
  change im_E X k _ 0 [some (.ref a), some (.ref b0), some (.int p1), some (.int p2)] [] S I
  refine r_aload_n (pc := 0) hX dX1_addLoad_0 rfl ?_
  refine r_getr (pc := 1) hX dX1_addLoad_1 fl_X1_106 rfl (o_X2_k hb0) (o_X2_r7 hb0) ?_
  refine r_iload_n (pc := 4) hX dX1_addLoad_4 rfl ?_
  refine r_callSN (Z := mX11_at) (pc := 5) hX dX1_addLoad_5 mn_X1_109 mX11_at_w (sp_X11_at (o_X2_a7 hb0)) rfl rfl (Nat.le_of_ble_eq_true rfl) (by decide) rfl (Or.inl rfl) ?_
  refine r_iconst (pc := 8) hX 1 dX1_addLoad_8 (by decide) ?_
  refine r_icmp_ne (pc := 9) hX 31 dX1_addLoad_9 (by decide) (fun c9 => ?_) (fun c9 => ?_)
  · refine r_aload_n (pc := 31) hX dX1_addLoad_31 rfl ?_
    refine r_bipush (pc := 32) hX 7 dX1_addLoad_32 (by decide) ?_
    refine r_iload_n (pc := 34) hX dX1_addLoad_34 rfl ?_
    refine r_aload_n (pc := 35) hX dX1_addLoad_35 rfl ?_
    refine r_getr (pc := 36) hX dX1_addLoad_36 fl_X1_116 rfl (o_X2_k hb0) (o_X2_r6 hb0) ?_
    refine r_iload_n (pc := 39) hX dX1_addLoad_39 rfl ?_
    refine r_callSN (Z := mX11_at) (pc := 40) hX dX1_addLoad_40 mn_X1_109 mX11_at_w (sp_X11_at (o_X2_a6 hb0)) rfl rfl (Nat.le_of_ble_eq_true rfl) (by decide) rfl (Or.inl rfl) ?_
    refine r_iconst (pc := 43) hX 0 dX1_addLoad_43 (by decide) ?_
    refine r_iconst (pc := 44) hX 0 dX1_addLoad_44 (by decide) ?_
    refine r_callV (Z := mX1_add) (t := 1) (pc := 45) hX dX1_addLoad_45 ml_X1_83 mX1_add_w ⟨by decide, rfl⟩ (o_X1_k h) (sp_X1_add h) rfl rfl (Nat.le_of_ble_eq_true rfl) (by decide) rfl (Or.inl rfl) ?_
    exact r_return (pc := 48) hX dX1_addLoad_48 rfl rfl (by first | with_reducible rfl | (simp only [addLoad_, eq_false c9, ↓reduceIte, if_true, if_false, decide_true, decide_false, eq_self, b2i_t, b2i_f, Bool.false_eq_true, and_true, true_and, and_false, false_and, or_true, true_or, or_false, false_or, not_true_eq_false, not_false_eq_true] <;> rfl) | simp [addLoad_, eq_false c9])
  · refine r_aload_n (pc := 12) hX dX1_addLoad_12 rfl ?_
    refine r_iconst (pc := 13) hX 0 dX1_addLoad_13 (by decide) ?_
    refine r_iload_n (pc := 14) hX dX1_addLoad_14 rfl ?_
    refine r_aload_n (pc := 15) hX dX1_addLoad_15 rfl ?_
    refine r_getr (pc := 16) hX dX1_addLoad_16 fl_X1_113 rfl (o_X2_k hb0) (o_X2_r8 hb0) ?_
    refine r_iload_n (pc := 19) hX dX1_addLoad_19 rfl ?_
    refine r_callSN (Z := mX11_at) (pc := 20) hX dX1_addLoad_20 mn_X1_109 mX11_at_w (sp_X11_at (o_X2_a8 hb0)) rfl rfl (Nat.le_of_ble_eq_true rfl) (by decide) rfl (Or.inl rfl) ?_
    refine r_iconst (pc := 23) hX 0 dX1_addLoad_23 (by decide) ?_
    refine r_iconst (pc := 24) hX 0 dX1_addLoad_24 (by decide) ?_
    refine r_callV (Z := mX1_add) (t := 1) (pc := 25) hX dX1_addLoad_25 ml_X1_83 mX1_add_w ⟨by decide, rfl⟩ (o_X1_k h) (sp_X1_add h) rfl rfl (Nat.le_of_ble_eq_true rfl) (by decide) rfl (Or.inl rfl) ?_
    refine r_goto (pc := 28) hX (tgt := 48) dX1_addLoad_28 (by decide) ?_
    exact r_return (pc := 48) hX dX1_addLoad_48 rfl rfl (by first | with_reducible rfl | (simp only [addLoad_, eq_true c9, ↓reduceIte, if_true, if_false, decide_true, decide_false, eq_self, b2i_t, b2i_f, Bool.false_eq_true, and_true, true_and, and_false, false_and, or_true, true_or, or_false, false_or, not_true_eq_false, not_false_eq_true] <;> rfl) | simp [addLoad_, eq_true c9])
set_option maxRecDepth 100000 in
set_option maxHeartbeats 1000000 in
theorem sp_X1_bring {l : Launch} {k : im_K} {S : im_S} {I : im_I} {a m : Nat} {b0 mb0 : Nat} {p1 : Int32} {p2 : Int32} (h : o_X1 S a m) (hb0 : o_X2 S b0 mb0) : im_Runs l k 2 mX1_bring [.ref a, .ref b0, .int p1, .int p2] (S, I) (none) (S, bring_ I a b0 p1 p2) := by
  refine im_run (by decide +kernel) ⟨Nat.le_refl _, Nat.le_refl _⟩ (Nat.le_of_ble_eq_true rfl) ?_
  intro X hl hX hxn hxz hxc hxs
  subst hl
  change im_E X k _ 0 [some (.ref a), some (.ref b0), some (.int p1), some (.int p2)] [] S I
  refine r_aload_n (pc := 0) hX dX1_bring_0 rfl ?_
  refine r_iload_n (pc := 1) hX dX1_bring_1 rfl ?_
  refine r_callV (Z := mX2_isSpilled) (t := 2) (pc := 2) hX dX1_bring_2 ml_X1_68 mX2_isSpilled_w ⟨by decide, rfl⟩ (o_X2_k hb0) (sp_X2_isSpilled hb0) rfl rfl (Nat.le_of_ble_eq_true rfl) (by decide) rfl (Or.inl rfl) ?_
  refine r_if_eq (pc := 5) hX 18 dX1_bring_5 (by decide) (fun c5 => ?_) (fun c5 => ?_)
  · replace c5 := b2i_0 c5
    refine r_aload_n (pc := 18) hX dX1_bring_18 rfl ?_
    refine r_iload_n (pc := 19) hX dX1_bring_19 rfl ?_
    refine r_aload_n (pc := 20) hX dX1_bring_20 rfl ?_
    refine r_iload_n (pc := 21) hX dX1_bring_21 rfl ?_
    refine r_callV (Z := mX2_registerOf) (t := 2) (pc := 22) hX dX1_bring_22 ml_X1_77 mX2_registerOf_w ⟨by decide, rfl⟩ (o_X2_k hb0) (sp_X2_registerOf hb0) rfl rfl (Nat.le_of_ble_eq_true rfl) (by decide) rfl (Or.inl rfl) ?_
    refine r_callV (Z := mX1_addMove) (t := 1) (pc := 25) hX dX1_bring_25 ml_X1_87 mX1_addMove_w ⟨by decide, rfl⟩ (o_X1_k h) (sp_X1_addMove h) rfl rfl (Nat.le_of_ble_eq_true rfl) (by decide) rfl (Or.inl rfl) ?_
    exact r_return (pc := 28) hX dX1_bring_28 rfl rfl (by first | with_reducible rfl | (simp only [bring_, c5, ↓reduceIte, if_true, if_false, decide_true, decide_false, eq_self, b2i_t, b2i_f, Bool.false_eq_true, and_true, true_and, and_false, false_and, or_true, true_or, or_false, false_or, not_true_eq_false, not_false_eq_true] <;> rfl) | simp [bring_, c5])
  · replace c5 := b2i_1 c5
    refine r_aload_n (pc := 8) hX dX1_bring_8 rfl ?_
    refine r_aload_n (pc := 9) hX dX1_bring_9 rfl ?_
    refine r_iload_n (pc := 10) hX dX1_bring_10 rfl ?_
    refine r_iload_n (pc := 11) hX dX1_bring_11 rfl ?_
    refine r_callV (Z := mX1_addLoad) (t := 1) (pc := 12) hX dX1_bring_12 ml_X1_102 mX1_addLoad_w ⟨by decide, rfl⟩ (o_X1_k h) (sp_X1_addLoad h hb0) rfl rfl (Nat.le_of_ble_eq_true rfl) (by decide) rfl (Or.inl rfl) ?_
    refine r_goto (pc := 15) hX (tgt := 28) dX1_bring_15 (by decide) ?_
    exact r_return (pc := 28) hX dX1_bring_28 rfl rfl (by first | with_reducible rfl | (simp only [bring_, c5, ↓reduceIte, if_true, if_false, decide_true, decide_false, eq_self, b2i_t, b2i_f, Bool.false_eq_true, and_true, true_and, and_false, false_and, or_true, true_or, or_false, false_or, not_true_eq_false, not_false_eq_true] <;> rfl) | simp [bring_, c5])
set_option maxRecDepth 100000 in
set_option maxHeartbeats 1000000 in
theorem sp_X1_fetch {l : Launch} {k : im_K} {S : im_S} {I : im_I} {a m : Nat} {b0 : Nat} {b1 mb1 : Nat} {p2 : Int32} (h : o_X1 S a m) (hb0 : o_X3 S b0) (hb1 : o_X2 S b1 mb1) : im_Runs l k 2 mX1_fetch [.ref a, .ref b0, .ref b1, .int p2] (S, I) (some (.int (fetchV_ I a m b0 b1 p2))) (S, fetch_ I a m b0 b1 p2) := by
  refine im_run (by decide +kernel) ⟨Nat.le_refl _, Nat.le_refl _⟩ (Nat.le_of_ble_eq_true rfl) ?_
  intro X hl hX hxn hxz hxc hxs
  subst hl
  change im_E X k _ 0 [some (.ref a), some (.ref b0), some (.ref b1), some (.int p2), none] [] S I
  refine r_aload_n (pc := 0) hX dX1_fetch_0 rfl ?_
  refine r_aload_n (pc := 1) hX dX1_fetch_1 rfl ?_
  refine r_geti (pc := 2) hX dX1_fetch_2 fl_X1_37 rfl (o_X1_k h) ?_
  refine r_iload_n (pc := 5) hX dX1_fetch_5 rfl ?_
  refine r_callV (Z := mX3_readBy) (t := 3) (pc := 6) hX dX1_fetch_6 ml_X1_98 mX3_readBy_w ⟨by decide, rfl⟩ (o_X3_k hb0) (sp_X3_readBy hb0) rfl rfl (Nat.le_of_ble_eq_true rfl) (by decide) rfl (Or.inl rfl) ?_
  refine r_istore (pc := 9) hX (L' := [_, _, _, _, _]) dX1_fetch_9 rfl rfl (Nat.le_of_ble_eq_true rfl) ?_
  refine r_iload (pc := 11) hX dX1_fetch_11 rfl ?_
  refine r_iconst (pc := 13) hX (-1) dX1_fetch_13 (by decide) ?_
  refine r_icmp_eq (pc := 14) hX 26 dX1_fetch_14 (by decide) (fun c14 => ?_) (fun c14 => ?_)
  · refine r_aload_n (pc := 26) hX dX1_fetch_26 rfl ?_
    refine r_iload (pc := 27) hX dX1_fetch_27 rfl ?_
    refine r_callV (Z := mX2_registerOf) (t := 2) (pc := 29) hX dX1_fetch_29 ml_X1_77 mX2_registerOf_w ⟨by decide, rfl⟩ (o_X2_k hb1) (sp_X2_registerOf hb1) rfl rfl (Nat.le_of_ble_eq_true rfl) (by decide) rfl (Or.inl rfl) ?_
    exact r_ireturn (pc := 32) hX dX1_fetch_32 rfl rfl (by first | with_reducible rfl | (simp only [fetchV_, fetch_, eq_true c14, ↓reduceIte, if_true, if_false, decide_true, decide_false, eq_self, b2i_t, b2i_f, Bool.false_eq_true, and_true, true_and, and_false, false_and, or_true, true_or, or_false, false_or, not_true_eq_false, not_false_eq_true] <;> rfl) | simp [fetchV_, fetch_, eq_true c14]) (by first | with_reducible rfl | (simp only [fetchV_, fetch_, eq_true c14, ↓reduceIte, if_true, if_false, decide_true, decide_false, eq_self, b2i_t, b2i_f, Bool.false_eq_true, and_true, true_and, and_false, false_and, or_true, true_or, or_false, false_or, not_true_eq_false, not_false_eq_true] <;> rfl) | simp [fetchV_, fetch_, eq_true c14])
  · refine r_aload_n (pc := 17) hX dX1_fetch_17 rfl ?_
    refine r_iload (pc := 18) hX dX1_fetch_18 rfl ?_
    refine r_callV (Z := mX2_isSpilled) (t := 2) (pc := 20) hX dX1_fetch_20 ml_X1_68 mX2_isSpilled_w ⟨by decide, rfl⟩ (o_X2_k hb1) (sp_X2_isSpilled hb1) rfl rfl (Nat.le_of_ble_eq_true rfl) (by decide) rfl (Or.inl rfl) ?_
    refine r_if_ne (pc := 23) hX 33 dX1_fetch_23 (by decide) (fun c23 => ?_) (fun c23 => ?_)
    · replace c23 := b2i_1 c23
      refine r_aload_n (pc := 33) hX dX1_fetch_33 rfl ?_
      refine r_aload_n (pc := 34) hX dX1_fetch_34 rfl ?_
      refine r_iload (pc := 35) hX dX1_fetch_35 rfl ?_
      refine r_aload_n (pc := 37) hX dX1_fetch_37 rfl ?_
      refine r_getr (pc := 38) hX dX1_fetch_38 fl_X1_9 rfl (o_X1_k h) (o_X1_r1 h) ?_
      refine r_callV (Z := mX5_scratch) (t := 5) (pc := 41) hX dX1_fetch_41 ml_X1_71 mX5_scratch_w ⟨by decide, rfl⟩ (o_X5_k (o_X1_o1 h)) (sp_X5_scratch (o_X1_o1 h)) rfl rfl (Nat.le_of_ble_eq_true rfl) (by decide) rfl (Or.inl rfl) ?_
      refine r_iload_n (pc := 44) hX dX1_fetch_44 rfl ?_
      refine r_iadd (pc := 45) hX dX1_fetch_45 ?_
      refine r_callV (Z := mX1_addLoad) (t := 1) (pc := 46) hX dX1_fetch_46 ml_X1_102 mX1_addLoad_w ⟨by decide, rfl⟩ (o_X1_k h) (sp_X1_addLoad h hb1) rfl rfl (Nat.le_of_ble_eq_true rfl) (by decide) rfl (Or.inl rfl) ?_
      refine r_aload_n (pc := 49) hX dX1_fetch_49 rfl ?_
      refine r_getr (pc := 50) hX dX1_fetch_50 fl_X1_9 rfl (o_X1_k h) (o_X1_r1 h) ?_
      refine r_callV (Z := mX5_scratch) (t := 5) (pc := 53) hX dX1_fetch_53 ml_X1_71 mX5_scratch_w ⟨by decide, rfl⟩ (o_X5_k (o_X1_o1 h)) (sp_X5_scratch (o_X1_o1 h)) rfl rfl (Nat.le_of_ble_eq_true rfl) (by decide) rfl (Or.inl rfl) ?_
      refine r_iload_n (pc := 56) hX dX1_fetch_56 rfl ?_
      refine r_iadd (pc := 57) hX dX1_fetch_57 ?_
      exact r_ireturn (pc := 58) hX dX1_fetch_58 rfl rfl (by first | with_reducible rfl | (simp only [fetchV_, fetch_, eq_false c14, c23, ↓reduceIte, if_true, if_false, decide_true, decide_false, eq_self, b2i_t, b2i_f, Bool.false_eq_true, and_true, true_and, and_false, false_and, or_true, true_or, or_false, false_or, not_true_eq_false, not_false_eq_true] <;> rfl) | simp [fetchV_, fetch_, eq_false c14, c23]) (by first | with_reducible rfl | (simp only [fetchV_, fetch_, eq_false c14, c23, ↓reduceIte, if_true, if_false, decide_true, decide_false, eq_self, b2i_t, b2i_f, Bool.false_eq_true, and_true, true_and, and_false, false_and, or_true, true_or, or_false, false_or, not_true_eq_false, not_false_eq_true] <;> rfl) | simp [fetchV_, fetch_, eq_false c14, c23])
    · replace c23 := b2i_0 c23
      refine r_aload_n (pc := 26) hX dX1_fetch_26 rfl ?_
      refine r_iload (pc := 27) hX dX1_fetch_27 rfl ?_
      refine r_callV (Z := mX2_registerOf) (t := 2) (pc := 29) hX dX1_fetch_29 ml_X1_77 mX2_registerOf_w ⟨by decide, rfl⟩ (o_X2_k hb1) (sp_X2_registerOf hb1) rfl rfl (Nat.le_of_ble_eq_true rfl) (by decide) rfl (Or.inl rfl) ?_
      exact r_ireturn (pc := 32) hX dX1_fetch_32 rfl rfl (by first | with_reducible rfl | (simp only [fetchV_, fetch_, eq_false c14, c23, ↓reduceIte, if_true, if_false, decide_true, decide_false, eq_self, b2i_t, b2i_f, Bool.false_eq_true, and_true, true_and, and_false, false_and, or_true, true_or, or_false, false_or, not_true_eq_false, not_false_eq_true] <;> rfl) | simp [fetchV_, fetch_, eq_false c14, c23]) (by first | with_reducible rfl | (simp only [fetchV_, fetch_, eq_false c14, c23, ↓reduceIte, if_true, if_false, decide_true, decide_false, eq_self, b2i_t, b2i_f, Bool.false_eq_true, and_true, true_and, and_false, false_and, or_true, true_or, or_false, false_or, not_true_eq_false, not_false_eq_true] <;> rfl) | simp [fetchV_, fetch_, eq_false c14, c23])
set_option maxRecDepth 100000 in
set_option maxHeartbeats 1000000 in
theorem sp_X1_makeOne {l : Launch} {k : im_K} {S : im_S} {I : im_I} {a m : Nat} {b0 : Nat} {b1 mb1 : Nat} (h : o_X1 S a m) (hb0 : o_X3 S b0) (hb1 : o_X2 S b1 mb1) : im_Runs l k 3 mX1_makeOne [.ref a, .ref b0, .ref b1] (S, I) (none) (S, makeOne_ I a m b0 b1) := by
  refine im_run (by decide +kernel) ⟨Nat.le_refl _, Nat.le_refl _⟩ (Nat.le_of_ble_eq_true rfl) ?_
  intro X hl hX hxn hxz hxc hxs
  subst hl
  change im_E X k _ 0 [some (.ref a), some (.ref b0), some (.ref b1), none, none, none, none, none] [] S I
  refine r_aload_n (pc := 0) hX dX1_makeOne_0 rfl ?_
  refine r_aload_n (pc := 1) hX dX1_makeOne_1 rfl ?_
  refine r_geti (pc := 2) hX dX1_makeOne_2 fl_X1_37 rfl (o_X1_k h) ?_
  refine r_callV (Z := mX3_writtenBy) (t := 3) (pc := 5) hX dX1_makeOne_5 ml_X1_52 mX3_writtenBy_w ⟨by decide, rfl⟩ (o_X3_k hb0) (sp_X3_writtenBy hb0) rfl rfl (Nat.le_of_ble_eq_true rfl) (by decide) rfl (Or.inl rfl) ?_
  refine r_istore_n (pc := 8) hX (L' := [_, _, _, _, _, _, _, _]) dX1_makeOne_8 rfl rfl (Nat.le_of_ble_eq_true rfl) ?_
  refine r_aload_n (pc := 9) hX dX1_makeOne_9 rfl ?_
  refine r_aload_n (pc := 10) hX dX1_makeOne_10 rfl ?_
  refine r_aload_n (pc := 11) hX dX1_makeOne_11 rfl ?_
  refine r_iconst (pc := 12) hX 0 dX1_makeOne_12 (by decide) ?_
  refine r_callV (Z := mX1_fetch) (t := 1) (pc := 13) hX dX1_makeOne_13 ml_X1_64 mX1_fetch_w ⟨by decide, rfl⟩ (o_X1_k h) (sp_X1_fetch h hb0 hb1) rfl rfl (Nat.le_of_ble_eq_true rfl) (by decide) rfl (Or.inl rfl) ?_
  refine r_istore (pc := 16) hX (L' := [_, _, _, _, _, _, _, _]) dX1_makeOne_16 rfl rfl (Nat.le_of_ble_eq_true rfl) ?_
  refine r_aload_n (pc := 18) hX dX1_makeOne_18 rfl ?_
  refine r_aload_n (pc := 19) hX dX1_makeOne_19 rfl ?_
  refine r_aload_n (pc := 20) hX dX1_makeOne_20 rfl ?_
  refine r_iconst (pc := 21) hX 1 dX1_makeOne_21 (by decide) ?_
  refine r_callV (Z := mX1_fetch) (t := 1) (pc := 22) hX dX1_makeOne_22 ml_X1_64 mX1_fetch_w ⟨by decide, rfl⟩ (o_X1_k h) (sp_X1_fetch h hb0 hb1) rfl rfl (Nat.le_of_ble_eq_true rfl) (by decide) rfl (Or.inl rfl) ?_
  refine r_istore (pc := 25) hX (L' := [_, _, _, _, _, _, _, _]) dX1_makeOne_25 rfl rfl (Nat.le_of_ble_eq_true rfl) ?_
  refine r_aload_n (pc := 27) hX dX1_makeOne_27 rfl ?_
  refine r_aload_n (pc := 28) hX dX1_makeOne_28 rfl ?_
  refine r_aload_n (pc := 29) hX dX1_makeOne_29 rfl ?_
  refine r_iconst (pc := 30) hX 2 dX1_makeOne_30 (by decide) ?_
  refine r_callV (Z := mX1_fetch) (t := 1) (pc := 31) hX dX1_makeOne_31 ml_X1_64 mX1_fetch_w ⟨by decide, rfl⟩ (o_X1_k h) (sp_X1_fetch h hb0 hb1) rfl rfl (Nat.le_of_ble_eq_true rfl) (by decide) rfl (Or.inl rfl) ?_
  refine r_istore (pc := 34) hX (L' := [_, _, _, _, _, _, _, _]) dX1_makeOne_34 rfl rfl (Nat.le_of_ble_eq_true rfl) ?_
  refine r_aload_n (pc := 36) hX dX1_makeOne_36 rfl ?_
  refine r_iload_n (pc := 37) hX dX1_makeOne_37 rfl ?_
  refine r_callV (Z := mX2_isSpilled) (t := 2) (pc := 38) hX dX1_makeOne_38 ml_X1_68 mX2_isSpilled_w ⟨by decide, rfl⟩ (o_X2_k hb1) (sp_X2_isSpilled hb1) rfl rfl (Nat.le_of_ble_eq_true rfl) (by decide) rfl (Or.inl rfl) ?_
  refine r_if_eq (pc := 41) hX 54 dX1_makeOne_41 (by decide) (fun c41 => ?_) (fun c41 => ?_)
  · replace c41 := b2i_0 c41
    refine r_aload_n (pc := 54) hX dX1_makeOne_54 rfl ?_
    refine r_iload_n (pc := 55) hX dX1_makeOne_55 rfl ?_
    refine r_callV (Z := mX2_registerOf) (t := 2) (pc := 56) hX dX1_makeOne_56 ml_X1_77 mX2_registerOf_w ⟨by decide, rfl⟩ (o_X2_k hb1) (sp_X2_registerOf hb1) rfl rfl (Nat.le_of_ble_eq_true rfl) (by decide) rfl (Or.inl rfl) ?_
    refine r_istore (pc := 59) hX (L' := [_, _, _, _, _, _, _, _]) dX1_makeOne_59 rfl rfl (Nat.le_of_ble_eq_true rfl) ?_
    refine r_aload_n (pc := 61) hX dX1_makeOne_61 rfl ?_
    refine r_aload_n (pc := 62) hX dX1_makeOne_62 rfl ?_
    refine r_geti (pc := 63) hX dX1_makeOne_63 fl_X1_37 rfl (o_X1_k h) ?_
    refine r_callV (Z := mX3_kindOf) (t := 3) (pc := 66) hX dX1_makeOne_66 ml_X1_44 mX3_kindOf_w ⟨by decide, rfl⟩ (o_X3_k hb0) (sp_X3_kindOf hb0) rfl rfl (Nat.le_of_ble_eq_true rfl) (by decide) rfl (Or.inl rfl) ?_
    by_cases c69_0 : kindOf_ (fetch_ (fetch_ (fetch_ I a m b0 b1 0) a m b0 b1 1) a m b0 b1 2) b0 ((fetch_ (fetch_ (fetch_ I a m b0 b1 0) a m b0 b1 1) a m b0 b1 2) a 6) = 0
    · refine r_lookup (pc := 69) hX (off := 35) 104 dX1_makeOne_69 (by decide) (by rw [c69_0] <;> rfl) (by decide) ?_
      refine r_aload_n (pc := 104) hX dX1_makeOne_104 rfl ?_
      refine r_iconst (pc := 105) hX 0 dX1_makeOne_105 (by decide) ?_
      refine r_iload (pc := 106) hX dX1_makeOne_106 rfl ?_
      refine r_aload_n (pc := 108) hX dX1_makeOne_108 rfl ?_
      refine r_aload_n (pc := 109) hX dX1_makeOne_109 rfl ?_
      refine r_geti (pc := 110) hX dX1_makeOne_110 fl_X1_37 rfl (o_X1_k h) ?_
      refine r_callV (Z := mX3_numberOf) (t := 3) (pc := 113) hX dX1_makeOne_113 ml_X1_80 mX3_numberOf_w ⟨by decide, rfl⟩ (o_X3_k hb0) (sp_X3_numberOf hb0) rfl rfl (Nat.le_of_ble_eq_true rfl) (by decide) rfl (Or.inl rfl) ?_
      refine r_iconst (pc := 116) hX 0 dX1_makeOne_116 (by decide) ?_
      refine r_iconst (pc := 117) hX 0 dX1_makeOne_117 (by decide) ?_
      refine r_callV (Z := mX1_add) (t := 1) (pc := 118) hX dX1_makeOne_118 ml_X1_83 mX1_add_w ⟨by decide, rfl⟩ (o_X1_k h) (sp_X1_add h) rfl rfl (Nat.le_of_ble_eq_true rfl) (by decide) rfl (Or.inl rfl) ?_
      refine r_goto (pc := 121) hX (tgt := 178) dX1_makeOne_121 (by decide) ?_
      refine r_aload_n (pc := 178) hX dX1_makeOne_178 rfl ?_
      refine r_iload_n (pc := 179) hX dX1_makeOne_179 rfl ?_
      refine r_callV (Z := mX2_isSpilled) (t := 2) (pc := 180) hX dX1_makeOne_180 ml_X1_68 mX2_isSpilled_w ⟨by decide, rfl⟩ (o_X2_k hb1) (sp_X2_isSpilled hb1) rfl rfl (Nat.le_of_ble_eq_true rfl) (by decide) rfl (Or.inl rfl) ?_
      refine r_if_eq (pc := 183) hX 201 dX1_makeOne_183 (by decide) (fun c183 => ?_) (fun c183 => ?_)
      · replace c183 := b2i_0 c183
        exact r_return (pc := 201) hX dX1_makeOne_201 rfl rfl (by first | with_reducible rfl | (simp only [makeOne_, makeBody_, makeTail_, c41, eq_true c69_0, c183, ↓reduceIte, if_true, if_false, decide_true, decide_false, eq_self, b2i_t, b2i_f, Bool.false_eq_true, and_true, true_and, and_false, false_and, or_true, true_or, or_false, false_or, not_true_eq_false, not_false_eq_true] <;> rfl) | simp [makeOne_, makeBody_, makeTail_, c41, eq_true c69_0, c183])
      · replace c183 := b2i_1 c183
        refine r_aload_n (pc := 186) hX dX1_makeOne_186 rfl ?_
        refine r_bipush (pc := 187) hX 8 dX1_makeOne_187 (by decide) ?_
        refine r_iload (pc := 189) hX dX1_makeOne_189 rfl ?_
        refine r_aload_n (pc := 191) hX dX1_makeOne_191 rfl ?_
        refine r_iload_n (pc := 192) hX dX1_makeOne_192 rfl ?_
        refine r_callV (Z := mX2_slotOf) (t := 2) (pc := 193) hX dX1_makeOne_193 ml_X1_95 mX2_slotOf_w ⟨by decide, rfl⟩ (o_X2_k hb1) (sp_X2_slotOf hb1) rfl rfl (Nat.le_of_ble_eq_true rfl) (by decide) rfl (Or.inl rfl) ?_
        refine r_iconst (pc := 196) hX 0 dX1_makeOne_196 (by decide) ?_
        refine r_iconst (pc := 197) hX 0 dX1_makeOne_197 (by decide) ?_
        refine r_callV (Z := mX1_add) (t := 1) (pc := 198) hX dX1_makeOne_198 ml_X1_83 mX1_add_w ⟨by decide, rfl⟩ (o_X1_k h) (sp_X1_add h) rfl rfl (Nat.le_of_ble_eq_true rfl) (by decide) rfl (Or.inl rfl) ?_
        exact r_return (pc := 201) hX dX1_makeOne_201 rfl rfl (by first | with_reducible rfl | (simp only [makeOne_, makeBody_, makeTail_, c41, eq_true c69_0, c183, ↓reduceIte, if_true, if_false, decide_true, decide_false, eq_self, b2i_t, b2i_f, Bool.false_eq_true, and_true, true_and, and_false, false_and, or_true, true_or, or_false, false_or, not_true_eq_false, not_false_eq_true] <;> rfl) | simp [makeOne_, makeBody_, makeTail_, c41, eq_true c69_0, c183])
    by_cases c69_1 : kindOf_ (fetch_ (fetch_ (fetch_ I a m b0 b1 0) a m b0 b1 1) a m b0 b1 2) b0 ((fetch_ (fetch_ (fetch_ I a m b0 b1 0) a m b0 b1 1) a m b0 b1 2) a 6) = 1
    · refine r_lookup (pc := 69) hX (off := 55) 124 dX1_makeOne_69 (by decide) (by rw [c69_1] <;> rfl) (by decide) ?_
      refine r_aload_n (pc := 124) hX dX1_makeOne_124 rfl ?_
      refine r_iload (pc := 125) hX dX1_makeOne_125 rfl ?_
      refine r_iload (pc := 127) hX dX1_makeOne_127 rfl ?_
      refine r_callV (Z := mX1_addMove) (t := 1) (pc := 129) hX dX1_makeOne_129 ml_X1_87 mX1_addMove_w ⟨by decide, rfl⟩ (o_X1_k h) (sp_X1_addMove h) rfl rfl (Nat.le_of_ble_eq_true rfl) (by decide) rfl (Or.inl rfl) ?_
      refine r_goto (pc := 132) hX (tgt := 178) dX1_makeOne_132 (by decide) ?_
      refine r_aload_n (pc := 178) hX dX1_makeOne_178 rfl ?_
      refine r_iload_n (pc := 179) hX dX1_makeOne_179 rfl ?_
      refine r_callV (Z := mX2_isSpilled) (t := 2) (pc := 180) hX dX1_makeOne_180 ml_X1_68 mX2_isSpilled_w ⟨by decide, rfl⟩ (o_X2_k hb1) (sp_X2_isSpilled hb1) rfl rfl (Nat.le_of_ble_eq_true rfl) (by decide) rfl (Or.inl rfl) ?_
      refine r_if_eq (pc := 183) hX 201 dX1_makeOne_183 (by decide) (fun c183 => ?_) (fun c183 => ?_)
      · replace c183 := b2i_0 c183
        exact r_return (pc := 201) hX dX1_makeOne_201 rfl rfl (by first | with_reducible rfl | (simp only [makeOne_, makeBody_, makeTail_, c41, eq_false c69_0, eq_true c69_1, c183, ↓reduceIte, if_true, if_false, decide_true, decide_false, eq_self, b2i_t, b2i_f, Bool.false_eq_true, and_true, true_and, and_false, false_and, or_true, true_or, or_false, false_or, not_true_eq_false, not_false_eq_true] <;> rfl) | simp [makeOne_, makeBody_, makeTail_, c41, eq_false c69_0, eq_true c69_1, c183])
      · replace c183 := b2i_1 c183
        refine r_aload_n (pc := 186) hX dX1_makeOne_186 rfl ?_
        refine r_bipush (pc := 187) hX 8 dX1_makeOne_187 (by decide) ?_
        refine r_iload (pc := 189) hX dX1_makeOne_189 rfl ?_
        refine r_aload_n (pc := 191) hX dX1_makeOne_191 rfl ?_
        refine r_iload_n (pc := 192) hX dX1_makeOne_192 rfl ?_
        refine r_callV (Z := mX2_slotOf) (t := 2) (pc := 193) hX dX1_makeOne_193 ml_X1_95 mX2_slotOf_w ⟨by decide, rfl⟩ (o_X2_k hb1) (sp_X2_slotOf hb1) rfl rfl (Nat.le_of_ble_eq_true rfl) (by decide) rfl (Or.inl rfl) ?_
        refine r_iconst (pc := 196) hX 0 dX1_makeOne_196 (by decide) ?_
        refine r_iconst (pc := 197) hX 0 dX1_makeOne_197 (by decide) ?_
        refine r_callV (Z := mX1_add) (t := 1) (pc := 198) hX dX1_makeOne_198 ml_X1_83 mX1_add_w ⟨by decide, rfl⟩ (o_X1_k h) (sp_X1_add h) rfl rfl (Nat.le_of_ble_eq_true rfl) (by decide) rfl (Or.inl rfl) ?_
        exact r_return (pc := 201) hX dX1_makeOne_201 rfl rfl (by first | with_reducible rfl | (simp only [makeOne_, makeBody_, makeTail_, c41, eq_false c69_0, eq_true c69_1, c183, ↓reduceIte, if_true, if_false, decide_true, decide_false, eq_self, b2i_t, b2i_f, Bool.false_eq_true, and_true, true_and, and_false, false_and, or_true, true_or, or_false, false_or, not_true_eq_false, not_false_eq_true] <;> rfl) | simp [makeOne_, makeBody_, makeTail_, c41, eq_false c69_0, eq_true c69_1, c183])
    by_cases c69_2 : kindOf_ (fetch_ (fetch_ (fetch_ I a m b0 b1 0) a m b0 b1 1) a m b0 b1 2) b0 ((fetch_ (fetch_ (fetch_ I a m b0 b1 0) a m b0 b1 1) a m b0 b1 2) a 6) = 5
    · refine r_lookup (pc := 69) hX (off := 66) 135 dX1_makeOne_69 (by decide) (by rw [c69_2] <;> rfl) (by decide) ?_
      refine r_aload_n (pc := 135) hX dX1_makeOne_135 rfl ?_
      refine r_iconst (pc := 136) hX 5 dX1_makeOne_136 (by decide) ?_
      refine r_iload (pc := 137) hX dX1_makeOne_137 rfl ?_
      refine r_iload (pc := 139) hX dX1_makeOne_139 rfl ?_
      refine r_iconst (pc := 141) hX (-1) dX1_makeOne_141 (by decide) ?_
      refine r_iconst (pc := 142) hX (-1) dX1_makeOne_142 (by decide) ?_
      refine r_aload_n (pc := 143) hX dX1_makeOne_143 rfl ?_
      refine r_aload_n (pc := 144) hX dX1_makeOne_144 rfl ?_
      refine r_geti (pc := 145) hX dX1_makeOne_145 fl_X1_37 rfl (o_X1_k h) ?_
      refine r_callVq (Z := mX3_numberOf) (t := 3) (pc := 148) hX dX1_makeOne_148 ml_X1_80 mX3_numberOf_w ⟨by decide, rfl⟩ (o_X3_k hb0) (sp_X3_numberOf hb0) rfl rfl (Nat.le_of_ble_eq_true rfl) (by decide) rfl (Or.inl rfl) ?_
      refine r_callV (Z := mX1_operate) (t := 1) (pc := 151) hX dX1_makeOne_151 ml_X1_91 mX1_operate_w ⟨by decide, rfl⟩ (o_X1_k h) (sp_X1_operate h) rfl rfl (Nat.le_of_ble_eq_true rfl) (by decide) rfl (Or.inl rfl) ?_
      refine r_goto (pc := 154) hX (tgt := 178) dX1_makeOne_154 (by decide) ?_
      refine r_aload_n (pc := 178) hX dX1_makeOne_178 rfl ?_
      refine r_iload_n (pc := 179) hX dX1_makeOne_179 rfl ?_
      refine r_callV (Z := mX2_isSpilled) (t := 2) (pc := 180) hX dX1_makeOne_180 ml_X1_68 mX2_isSpilled_w ⟨by decide, rfl⟩ (o_X2_k hb1) (sp_X2_isSpilled hb1) rfl rfl (Nat.le_of_ble_eq_true rfl) (by decide) rfl (Or.inl rfl) ?_
      refine r_if_eq (pc := 183) hX 201 dX1_makeOne_183 (by decide) (fun c183 => ?_) (fun c183 => ?_)
      · replace c183 := b2i_0 c183
        exact r_return (pc := 201) hX dX1_makeOne_201 rfl rfl (by first | with_reducible rfl | (simp only [makeOne_, makeBody_, makeTail_, c41, eq_false c69_0, eq_false c69_1, eq_true c69_2, c183, ↓reduceIte, if_true, if_false, decide_true, decide_false, eq_self, b2i_t, b2i_f, Bool.false_eq_true, and_true, true_and, and_false, false_and, or_true, true_or, or_false, false_or, not_true_eq_false, not_false_eq_true] <;> rfl) | simp [makeOne_, makeBody_, makeTail_, c41, eq_false c69_0, eq_false c69_1, eq_true c69_2, c183])
      · replace c183 := b2i_1 c183
        refine r_aload_n (pc := 186) hX dX1_makeOne_186 rfl ?_
        refine r_bipush (pc := 187) hX 8 dX1_makeOne_187 (by decide) ?_
        refine r_iload (pc := 189) hX dX1_makeOne_189 rfl ?_
        refine r_aload_n (pc := 191) hX dX1_makeOne_191 rfl ?_
        refine r_iload_n (pc := 192) hX dX1_makeOne_192 rfl ?_
        refine r_callV (Z := mX2_slotOf) (t := 2) (pc := 193) hX dX1_makeOne_193 ml_X1_95 mX2_slotOf_w ⟨by decide, rfl⟩ (o_X2_k hb1) (sp_X2_slotOf hb1) rfl rfl (Nat.le_of_ble_eq_true rfl) (by decide) rfl (Or.inl rfl) ?_
        refine r_iconst (pc := 196) hX 0 dX1_makeOne_196 (by decide) ?_
        refine r_iconst (pc := 197) hX 0 dX1_makeOne_197 (by decide) ?_
        refine r_callV (Z := mX1_add) (t := 1) (pc := 198) hX dX1_makeOne_198 ml_X1_83 mX1_add_w ⟨by decide, rfl⟩ (o_X1_k h) (sp_X1_add h) rfl rfl (Nat.le_of_ble_eq_true rfl) (by decide) rfl (Or.inl rfl) ?_
        exact r_return (pc := 201) hX dX1_makeOne_201 rfl rfl (by first | with_reducible rfl | (simp only [makeOne_, makeBody_, makeTail_, c41, eq_false c69_0, eq_false c69_1, eq_true c69_2, c183, ↓reduceIte, if_true, if_false, decide_true, decide_false, eq_self, b2i_t, b2i_f, Bool.false_eq_true, and_true, true_and, and_false, false_and, or_true, true_or, or_false, false_or, not_true_eq_false, not_false_eq_true] <;> rfl) | simp [makeOne_, makeBody_, makeTail_, c41, eq_false c69_0, eq_false c69_1, eq_true c69_2, c183])
    refine r_lookup (pc := 69) hX (off := 88) 157 dX1_makeOne_69 (by decide) ((lv_osw c69_0 (by decide)).trans ((lv_osw c69_1 (by decide)).trans ((lv_osw c69_2 (by decide)).trans rfl))) (by decide) ?_
    refine r_aload_n (pc := 157) hX dX1_makeOne_157 rfl ?_
    refine r_aload_n (pc := 158) hX dX1_makeOne_158 rfl ?_
    refine r_aload_n (pc := 159) hX dX1_makeOne_159 rfl ?_
    refine r_geti (pc := 160) hX dX1_makeOne_160 fl_X1_37 rfl (o_X1_k h) ?_
    refine r_callV (Z := mX3_kindOf) (t := 3) (pc := 163) hX dX1_makeOne_163 ml_X1_44 mX3_kindOf_w ⟨by decide, rfl⟩ (o_X3_k hb0) (sp_X3_kindOf hb0) rfl rfl (Nat.le_of_ble_eq_true rfl) (by decide) rfl (Or.inl rfl) ?_
    refine r_iload (pc := 166) hX dX1_makeOne_166 rfl ?_
    refine r_iload (pc := 168) hX dX1_makeOne_168 rfl ?_
    refine r_iload (pc := 170) hX dX1_makeOne_170 rfl ?_
    refine r_iload (pc := 172) hX dX1_makeOne_172 rfl ?_
    refine r_iconst (pc := 174) hX 0 dX1_makeOne_174 (by decide) ?_
    refine r_callV (Z := mX1_operate) (t := 1) (pc := 175) hX dX1_makeOne_175 ml_X1_91 mX1_operate_w ⟨by decide, rfl⟩ (o_X1_k h) (sp_X1_operate h) rfl rfl (Nat.le_of_ble_eq_true rfl) (by decide) rfl (Or.inl rfl) ?_
    refine r_aload_n (pc := 178) hX dX1_makeOne_178 rfl ?_
    refine r_iload_n (pc := 179) hX dX1_makeOne_179 rfl ?_
    refine r_callV (Z := mX2_isSpilled) (t := 2) (pc := 180) hX dX1_makeOne_180 ml_X1_68 mX2_isSpilled_w ⟨by decide, rfl⟩ (o_X2_k hb1) (sp_X2_isSpilled hb1) rfl rfl (Nat.le_of_ble_eq_true rfl) (by decide) rfl (Or.inl rfl) ?_
    refine r_if_eq (pc := 183) hX 201 dX1_makeOne_183 (by decide) (fun c183 => ?_) (fun c183 => ?_)
    · replace c183 := b2i_0 c183
      exact r_return (pc := 201) hX dX1_makeOne_201 rfl rfl (by first | with_reducible rfl | (simp only [makeOne_, makeBody_, makeTail_, c41, eq_false c69_0, eq_false c69_1, eq_false c69_2, c183, ↓reduceIte, if_true, if_false, decide_true, decide_false, eq_self, b2i_t, b2i_f, Bool.false_eq_true, and_true, true_and, and_false, false_and, or_true, true_or, or_false, false_or, not_true_eq_false, not_false_eq_true] <;> rfl) | simp [makeOne_, makeBody_, makeTail_, c41, eq_false c69_0, eq_false c69_1, eq_false c69_2, c183])
    · replace c183 := b2i_1 c183
      refine r_aload_n (pc := 186) hX dX1_makeOne_186 rfl ?_
      refine r_bipush (pc := 187) hX 8 dX1_makeOne_187 (by decide) ?_
      refine r_iload (pc := 189) hX dX1_makeOne_189 rfl ?_
      refine r_aload_n (pc := 191) hX dX1_makeOne_191 rfl ?_
      refine r_iload_n (pc := 192) hX dX1_makeOne_192 rfl ?_
      refine r_callV (Z := mX2_slotOf) (t := 2) (pc := 193) hX dX1_makeOne_193 ml_X1_95 mX2_slotOf_w ⟨by decide, rfl⟩ (o_X2_k hb1) (sp_X2_slotOf hb1) rfl rfl (Nat.le_of_ble_eq_true rfl) (by decide) rfl (Or.inl rfl) ?_
      refine r_iconst (pc := 196) hX 0 dX1_makeOne_196 (by decide) ?_
      refine r_iconst (pc := 197) hX 0 dX1_makeOne_197 (by decide) ?_
      refine r_callV (Z := mX1_add) (t := 1) (pc := 198) hX dX1_makeOne_198 ml_X1_83 mX1_add_w ⟨by decide, rfl⟩ (o_X1_k h) (sp_X1_add h) rfl rfl (Nat.le_of_ble_eq_true rfl) (by decide) rfl (Or.inl rfl) ?_
      exact r_return (pc := 201) hX dX1_makeOne_201 rfl rfl (by first | with_reducible rfl | (simp only [makeOne_, makeBody_, makeTail_, c41, eq_false c69_0, eq_false c69_1, eq_false c69_2, c183, ↓reduceIte, if_true, if_false, decide_true, decide_false, eq_self, b2i_t, b2i_f, Bool.false_eq_true, and_true, true_and, and_false, false_and, or_true, true_or, or_false, false_or, not_true_eq_false, not_false_eq_true] <;> rfl) | simp [makeOne_, makeBody_, makeTail_, c41, eq_false c69_0, eq_false c69_1, eq_false c69_2, c183])
  · replace c41 := b2i_1 c41
    refine r_aload_n (pc := 44) hX dX1_makeOne_44 rfl ?_
    refine r_getr (pc := 45) hX dX1_makeOne_45 fl_X1_9 rfl (o_X1_k h) (o_X1_r1 h) ?_
    refine r_callV (Z := mX5_scratch) (t := 5) (pc := 48) hX dX1_makeOne_48 ml_X1_71 mX5_scratch_w ⟨by decide, rfl⟩ (o_X5_k (o_X1_o1 h)) (sp_X5_scratch (o_X1_o1 h)) rfl rfl (Nat.le_of_ble_eq_true rfl) (by decide) rfl (Or.inl rfl) ?_
    refine r_goto (pc := 51) hX (tgt := 59) dX1_makeOne_51 (by decide) ?_
    refine r_istore (pc := 59) hX (L' := [_, _, _, _, _, _, _, _]) dX1_makeOne_59 rfl rfl (Nat.le_of_ble_eq_true rfl) ?_
    refine r_aload_n (pc := 61) hX dX1_makeOne_61 rfl ?_
    refine r_aload_n (pc := 62) hX dX1_makeOne_62 rfl ?_
    refine r_geti (pc := 63) hX dX1_makeOne_63 fl_X1_37 rfl (o_X1_k h) ?_
    refine r_callV (Z := mX3_kindOf) (t := 3) (pc := 66) hX dX1_makeOne_66 ml_X1_44 mX3_kindOf_w ⟨by decide, rfl⟩ (o_X3_k hb0) (sp_X3_kindOf hb0) rfl rfl (Nat.le_of_ble_eq_true rfl) (by decide) rfl (Or.inl rfl) ?_
    by_cases c69_0 : kindOf_ (fetch_ (fetch_ (fetch_ I a m b0 b1 0) a m b0 b1 1) a m b0 b1 2) b0 ((fetch_ (fetch_ (fetch_ I a m b0 b1 0) a m b0 b1 1) a m b0 b1 2) a 6) = 0
    · refine r_lookup (pc := 69) hX (off := 35) 104 dX1_makeOne_69 (by decide) (by rw [c69_0] <;> rfl) (by decide) ?_
      refine r_aload_n (pc := 104) hX dX1_makeOne_104 rfl ?_
      refine r_iconst (pc := 105) hX 0 dX1_makeOne_105 (by decide) ?_
      refine r_iload (pc := 106) hX dX1_makeOne_106 rfl ?_
      refine r_aload_n (pc := 108) hX dX1_makeOne_108 rfl ?_
      refine r_aload_n (pc := 109) hX dX1_makeOne_109 rfl ?_
      refine r_geti (pc := 110) hX dX1_makeOne_110 fl_X1_37 rfl (o_X1_k h) ?_
      refine r_callV (Z := mX3_numberOf) (t := 3) (pc := 113) hX dX1_makeOne_113 ml_X1_80 mX3_numberOf_w ⟨by decide, rfl⟩ (o_X3_k hb0) (sp_X3_numberOf hb0) rfl rfl (Nat.le_of_ble_eq_true rfl) (by decide) rfl (Or.inl rfl) ?_
      refine r_iconst (pc := 116) hX 0 dX1_makeOne_116 (by decide) ?_
      refine r_iconst (pc := 117) hX 0 dX1_makeOne_117 (by decide) ?_
      refine r_callV (Z := mX1_add) (t := 1) (pc := 118) hX dX1_makeOne_118 ml_X1_83 mX1_add_w ⟨by decide, rfl⟩ (o_X1_k h) (sp_X1_add h) rfl rfl (Nat.le_of_ble_eq_true rfl) (by decide) rfl (Or.inl rfl) ?_
      refine r_goto (pc := 121) hX (tgt := 178) dX1_makeOne_121 (by decide) ?_
      refine r_aload_n (pc := 178) hX dX1_makeOne_178 rfl ?_
      refine r_iload_n (pc := 179) hX dX1_makeOne_179 rfl ?_
      refine r_callV (Z := mX2_isSpilled) (t := 2) (pc := 180) hX dX1_makeOne_180 ml_X1_68 mX2_isSpilled_w ⟨by decide, rfl⟩ (o_X2_k hb1) (sp_X2_isSpilled hb1) rfl rfl (Nat.le_of_ble_eq_true rfl) (by decide) rfl (Or.inl rfl) ?_
      refine r_if_eq (pc := 183) hX 201 dX1_makeOne_183 (by decide) (fun c183 => ?_) (fun c183 => ?_)
      · replace c183 := b2i_0 c183
        exact r_return (pc := 201) hX dX1_makeOne_201 rfl rfl (by first | with_reducible rfl | (simp only [makeOne_, makeBody_, makeTail_, c41, eq_true c69_0, c183, ↓reduceIte, if_true, if_false, decide_true, decide_false, eq_self, b2i_t, b2i_f, Bool.false_eq_true, and_true, true_and, and_false, false_and, or_true, true_or, or_false, false_or, not_true_eq_false, not_false_eq_true] <;> rfl) | simp [makeOne_, makeBody_, makeTail_, c41, eq_true c69_0, c183])
      · replace c183 := b2i_1 c183
        refine r_aload_n (pc := 186) hX dX1_makeOne_186 rfl ?_
        refine r_bipush (pc := 187) hX 8 dX1_makeOne_187 (by decide) ?_
        refine r_iload (pc := 189) hX dX1_makeOne_189 rfl ?_
        refine r_aload_n (pc := 191) hX dX1_makeOne_191 rfl ?_
        refine r_iload_n (pc := 192) hX dX1_makeOne_192 rfl ?_
        refine r_callV (Z := mX2_slotOf) (t := 2) (pc := 193) hX dX1_makeOne_193 ml_X1_95 mX2_slotOf_w ⟨by decide, rfl⟩ (o_X2_k hb1) (sp_X2_slotOf hb1) rfl rfl (Nat.le_of_ble_eq_true rfl) (by decide) rfl (Or.inl rfl) ?_
        refine r_iconst (pc := 196) hX 0 dX1_makeOne_196 (by decide) ?_
        refine r_iconst (pc := 197) hX 0 dX1_makeOne_197 (by decide) ?_
        refine r_callV (Z := mX1_add) (t := 1) (pc := 198) hX dX1_makeOne_198 ml_X1_83 mX1_add_w ⟨by decide, rfl⟩ (o_X1_k h) (sp_X1_add h) rfl rfl (Nat.le_of_ble_eq_true rfl) (by decide) rfl (Or.inl rfl) ?_
        exact r_return (pc := 201) hX dX1_makeOne_201 rfl rfl (by first | with_reducible rfl | (simp only [makeOne_, makeBody_, makeTail_, c41, eq_true c69_0, c183, ↓reduceIte, if_true, if_false, decide_true, decide_false, eq_self, b2i_t, b2i_f, Bool.false_eq_true, and_true, true_and, and_false, false_and, or_true, true_or, or_false, false_or, not_true_eq_false, not_false_eq_true] <;> rfl) | simp [makeOne_, makeBody_, makeTail_, c41, eq_true c69_0, c183])
    by_cases c69_1 : kindOf_ (fetch_ (fetch_ (fetch_ I a m b0 b1 0) a m b0 b1 1) a m b0 b1 2) b0 ((fetch_ (fetch_ (fetch_ I a m b0 b1 0) a m b0 b1 1) a m b0 b1 2) a 6) = 1
    · refine r_lookup (pc := 69) hX (off := 55) 124 dX1_makeOne_69 (by decide) (by rw [c69_1] <;> rfl) (by decide) ?_
      refine r_aload_n (pc := 124) hX dX1_makeOne_124 rfl ?_
      refine r_iload (pc := 125) hX dX1_makeOne_125 rfl ?_
      refine r_iload (pc := 127) hX dX1_makeOne_127 rfl ?_
      refine r_callV (Z := mX1_addMove) (t := 1) (pc := 129) hX dX1_makeOne_129 ml_X1_87 mX1_addMove_w ⟨by decide, rfl⟩ (o_X1_k h) (sp_X1_addMove h) rfl rfl (Nat.le_of_ble_eq_true rfl) (by decide) rfl (Or.inl rfl) ?_
      refine r_goto (pc := 132) hX (tgt := 178) dX1_makeOne_132 (by decide) ?_
      refine r_aload_n (pc := 178) hX dX1_makeOne_178 rfl ?_
      refine r_iload_n (pc := 179) hX dX1_makeOne_179 rfl ?_
      refine r_callV (Z := mX2_isSpilled) (t := 2) (pc := 180) hX dX1_makeOne_180 ml_X1_68 mX2_isSpilled_w ⟨by decide, rfl⟩ (o_X2_k hb1) (sp_X2_isSpilled hb1) rfl rfl (Nat.le_of_ble_eq_true rfl) (by decide) rfl (Or.inl rfl) ?_
      refine r_if_eq (pc := 183) hX 201 dX1_makeOne_183 (by decide) (fun c183 => ?_) (fun c183 => ?_)
      · replace c183 := b2i_0 c183
        exact r_return (pc := 201) hX dX1_makeOne_201 rfl rfl (by first | with_reducible rfl | (simp only [makeOne_, makeBody_, makeTail_, c41, eq_false c69_0, eq_true c69_1, c183, ↓reduceIte, if_true, if_false, decide_true, decide_false, eq_self, b2i_t, b2i_f, Bool.false_eq_true, and_true, true_and, and_false, false_and, or_true, true_or, or_false, false_or, not_true_eq_false, not_false_eq_true] <;> rfl) | simp [makeOne_, makeBody_, makeTail_, c41, eq_false c69_0, eq_true c69_1, c183])
      · replace c183 := b2i_1 c183
        refine r_aload_n (pc := 186) hX dX1_makeOne_186 rfl ?_
        refine r_bipush (pc := 187) hX 8 dX1_makeOne_187 (by decide) ?_
        refine r_iload (pc := 189) hX dX1_makeOne_189 rfl ?_
        refine r_aload_n (pc := 191) hX dX1_makeOne_191 rfl ?_
        refine r_iload_n (pc := 192) hX dX1_makeOne_192 rfl ?_
        refine r_callV (Z := mX2_slotOf) (t := 2) (pc := 193) hX dX1_makeOne_193 ml_X1_95 mX2_slotOf_w ⟨by decide, rfl⟩ (o_X2_k hb1) (sp_X2_slotOf hb1) rfl rfl (Nat.le_of_ble_eq_true rfl) (by decide) rfl (Or.inl rfl) ?_
        refine r_iconst (pc := 196) hX 0 dX1_makeOne_196 (by decide) ?_
        refine r_iconst (pc := 197) hX 0 dX1_makeOne_197 (by decide) ?_
        refine r_callV (Z := mX1_add) (t := 1) (pc := 198) hX dX1_makeOne_198 ml_X1_83 mX1_add_w ⟨by decide, rfl⟩ (o_X1_k h) (sp_X1_add h) rfl rfl (Nat.le_of_ble_eq_true rfl) (by decide) rfl (Or.inl rfl) ?_
        exact r_return (pc := 201) hX dX1_makeOne_201 rfl rfl (by first | with_reducible rfl | (simp only [makeOne_, makeBody_, makeTail_, c41, eq_false c69_0, eq_true c69_1, c183, ↓reduceIte, if_true, if_false, decide_true, decide_false, eq_self, b2i_t, b2i_f, Bool.false_eq_true, and_true, true_and, and_false, false_and, or_true, true_or, or_false, false_or, not_true_eq_false, not_false_eq_true] <;> rfl) | simp [makeOne_, makeBody_, makeTail_, c41, eq_false c69_0, eq_true c69_1, c183])
    by_cases c69_2 : kindOf_ (fetch_ (fetch_ (fetch_ I a m b0 b1 0) a m b0 b1 1) a m b0 b1 2) b0 ((fetch_ (fetch_ (fetch_ I a m b0 b1 0) a m b0 b1 1) a m b0 b1 2) a 6) = 5
    · refine r_lookup (pc := 69) hX (off := 66) 135 dX1_makeOne_69 (by decide) (by rw [c69_2] <;> rfl) (by decide) ?_
      refine r_aload_n (pc := 135) hX dX1_makeOne_135 rfl ?_
      refine r_iconst (pc := 136) hX 5 dX1_makeOne_136 (by decide) ?_
      refine r_iload (pc := 137) hX dX1_makeOne_137 rfl ?_
      refine r_iload (pc := 139) hX dX1_makeOne_139 rfl ?_
      refine r_iconst (pc := 141) hX (-1) dX1_makeOne_141 (by decide) ?_
      refine r_iconst (pc := 142) hX (-1) dX1_makeOne_142 (by decide) ?_
      refine r_aload_n (pc := 143) hX dX1_makeOne_143 rfl ?_
      refine r_aload_n (pc := 144) hX dX1_makeOne_144 rfl ?_
      refine r_geti (pc := 145) hX dX1_makeOne_145 fl_X1_37 rfl (o_X1_k h) ?_
      refine r_callVq (Z := mX3_numberOf) (t := 3) (pc := 148) hX dX1_makeOne_148 ml_X1_80 mX3_numberOf_w ⟨by decide, rfl⟩ (o_X3_k hb0) (sp_X3_numberOf hb0) rfl rfl (Nat.le_of_ble_eq_true rfl) (by decide) rfl (Or.inl rfl) ?_
      refine r_callV (Z := mX1_operate) (t := 1) (pc := 151) hX dX1_makeOne_151 ml_X1_91 mX1_operate_w ⟨by decide, rfl⟩ (o_X1_k h) (sp_X1_operate h) rfl rfl (Nat.le_of_ble_eq_true rfl) (by decide) rfl (Or.inl rfl) ?_
      refine r_goto (pc := 154) hX (tgt := 178) dX1_makeOne_154 (by decide) ?_
      refine r_aload_n (pc := 178) hX dX1_makeOne_178 rfl ?_
      refine r_iload_n (pc := 179) hX dX1_makeOne_179 rfl ?_
      refine r_callV (Z := mX2_isSpilled) (t := 2) (pc := 180) hX dX1_makeOne_180 ml_X1_68 mX2_isSpilled_w ⟨by decide, rfl⟩ (o_X2_k hb1) (sp_X2_isSpilled hb1) rfl rfl (Nat.le_of_ble_eq_true rfl) (by decide) rfl (Or.inl rfl) ?_
      refine r_if_eq (pc := 183) hX 201 dX1_makeOne_183 (by decide) (fun c183 => ?_) (fun c183 => ?_)
      · replace c183 := b2i_0 c183
        exact r_return (pc := 201) hX dX1_makeOne_201 rfl rfl (by first | with_reducible rfl | (simp only [makeOne_, makeBody_, makeTail_, c41, eq_false c69_0, eq_false c69_1, eq_true c69_2, c183, ↓reduceIte, if_true, if_false, decide_true, decide_false, eq_self, b2i_t, b2i_f, Bool.false_eq_true, and_true, true_and, and_false, false_and, or_true, true_or, or_false, false_or, not_true_eq_false, not_false_eq_true] <;> rfl) | simp [makeOne_, makeBody_, makeTail_, c41, eq_false c69_0, eq_false c69_1, eq_true c69_2, c183])
      · replace c183 := b2i_1 c183
        refine r_aload_n (pc := 186) hX dX1_makeOne_186 rfl ?_
        refine r_bipush (pc := 187) hX 8 dX1_makeOne_187 (by decide) ?_
        refine r_iload (pc := 189) hX dX1_makeOne_189 rfl ?_
        refine r_aload_n (pc := 191) hX dX1_makeOne_191 rfl ?_
        refine r_iload_n (pc := 192) hX dX1_makeOne_192 rfl ?_
        refine r_callV (Z := mX2_slotOf) (t := 2) (pc := 193) hX dX1_makeOne_193 ml_X1_95 mX2_slotOf_w ⟨by decide, rfl⟩ (o_X2_k hb1) (sp_X2_slotOf hb1) rfl rfl (Nat.le_of_ble_eq_true rfl) (by decide) rfl (Or.inl rfl) ?_
        refine r_iconst (pc := 196) hX 0 dX1_makeOne_196 (by decide) ?_
        refine r_iconst (pc := 197) hX 0 dX1_makeOne_197 (by decide) ?_
        refine r_callV (Z := mX1_add) (t := 1) (pc := 198) hX dX1_makeOne_198 ml_X1_83 mX1_add_w ⟨by decide, rfl⟩ (o_X1_k h) (sp_X1_add h) rfl rfl (Nat.le_of_ble_eq_true rfl) (by decide) rfl (Or.inl rfl) ?_
        exact r_return (pc := 201) hX dX1_makeOne_201 rfl rfl (by first | with_reducible rfl | (simp only [makeOne_, makeBody_, makeTail_, c41, eq_false c69_0, eq_false c69_1, eq_true c69_2, c183, ↓reduceIte, if_true, if_false, decide_true, decide_false, eq_self, b2i_t, b2i_f, Bool.false_eq_true, and_true, true_and, and_false, false_and, or_true, true_or, or_false, false_or, not_true_eq_false, not_false_eq_true] <;> rfl) | simp [makeOne_, makeBody_, makeTail_, c41, eq_false c69_0, eq_false c69_1, eq_true c69_2, c183])
    refine r_lookup (pc := 69) hX (off := 88) 157 dX1_makeOne_69 (by decide) ((lv_osw c69_0 (by decide)).trans ((lv_osw c69_1 (by decide)).trans ((lv_osw c69_2 (by decide)).trans rfl))) (by decide) ?_
    refine r_aload_n (pc := 157) hX dX1_makeOne_157 rfl ?_
    refine r_aload_n (pc := 158) hX dX1_makeOne_158 rfl ?_
    refine r_aload_n (pc := 159) hX dX1_makeOne_159 rfl ?_
    refine r_geti (pc := 160) hX dX1_makeOne_160 fl_X1_37 rfl (o_X1_k h) ?_
    refine r_callV (Z := mX3_kindOf) (t := 3) (pc := 163) hX dX1_makeOne_163 ml_X1_44 mX3_kindOf_w ⟨by decide, rfl⟩ (o_X3_k hb0) (sp_X3_kindOf hb0) rfl rfl (Nat.le_of_ble_eq_true rfl) (by decide) rfl (Or.inl rfl) ?_
    refine r_iload (pc := 166) hX dX1_makeOne_166 rfl ?_
    refine r_iload (pc := 168) hX dX1_makeOne_168 rfl ?_
    refine r_iload (pc := 170) hX dX1_makeOne_170 rfl ?_
    refine r_iload (pc := 172) hX dX1_makeOne_172 rfl ?_
    refine r_iconst (pc := 174) hX 0 dX1_makeOne_174 (by decide) ?_
    refine r_callV (Z := mX1_operate) (t := 1) (pc := 175) hX dX1_makeOne_175 ml_X1_91 mX1_operate_w ⟨by decide, rfl⟩ (o_X1_k h) (sp_X1_operate h) rfl rfl (Nat.le_of_ble_eq_true rfl) (by decide) rfl (Or.inl rfl) ?_
    refine r_aload_n (pc := 178) hX dX1_makeOne_178 rfl ?_
    refine r_iload_n (pc := 179) hX dX1_makeOne_179 rfl ?_
    refine r_callV (Z := mX2_isSpilled) (t := 2) (pc := 180) hX dX1_makeOne_180 ml_X1_68 mX2_isSpilled_w ⟨by decide, rfl⟩ (o_X2_k hb1) (sp_X2_isSpilled hb1) rfl rfl (Nat.le_of_ble_eq_true rfl) (by decide) rfl (Or.inl rfl) ?_
    refine r_if_eq (pc := 183) hX 201 dX1_makeOne_183 (by decide) (fun c183 => ?_) (fun c183 => ?_)
    · replace c183 := b2i_0 c183
      exact r_return (pc := 201) hX dX1_makeOne_201 rfl rfl (by first | with_reducible rfl | (simp only [makeOne_, makeBody_, makeTail_, c41, eq_false c69_0, eq_false c69_1, eq_false c69_2, c183, ↓reduceIte, if_true, if_false, decide_true, decide_false, eq_self, b2i_t, b2i_f, Bool.false_eq_true, and_true, true_and, and_false, false_and, or_true, true_or, or_false, false_or, not_true_eq_false, not_false_eq_true] <;> rfl) | simp [makeOne_, makeBody_, makeTail_, c41, eq_false c69_0, eq_false c69_1, eq_false c69_2, c183])
    · replace c183 := b2i_1 c183
      refine r_aload_n (pc := 186) hX dX1_makeOne_186 rfl ?_
      refine r_bipush (pc := 187) hX 8 dX1_makeOne_187 (by decide) ?_
      refine r_iload (pc := 189) hX dX1_makeOne_189 rfl ?_
      refine r_aload_n (pc := 191) hX dX1_makeOne_191 rfl ?_
      refine r_iload_n (pc := 192) hX dX1_makeOne_192 rfl ?_
      refine r_callV (Z := mX2_slotOf) (t := 2) (pc := 193) hX dX1_makeOne_193 ml_X1_95 mX2_slotOf_w ⟨by decide, rfl⟩ (o_X2_k hb1) (sp_X2_slotOf hb1) rfl rfl (Nat.le_of_ble_eq_true rfl) (by decide) rfl (Or.inl rfl) ?_
      refine r_iconst (pc := 196) hX 0 dX1_makeOne_196 (by decide) ?_
      refine r_iconst (pc := 197) hX 0 dX1_makeOne_197 (by decide) ?_
      refine r_callV (Z := mX1_add) (t := 1) (pc := 198) hX dX1_makeOne_198 ml_X1_83 mX1_add_w ⟨by decide, rfl⟩ (o_X1_k h) (sp_X1_add h) rfl rfl (Nat.le_of_ble_eq_true rfl) (by decide) rfl (Or.inl rfl) ?_
      exact r_return (pc := 201) hX dX1_makeOne_201 rfl rfl (by first | with_reducible rfl | (simp only [makeOne_, makeBody_, makeTail_, c41, eq_false c69_0, eq_false c69_1, eq_false c69_2, c183, ↓reduceIte, if_true, if_false, decide_true, decide_false, eq_self, b2i_t, b2i_f, Bool.false_eq_true, and_true, true_and, and_false, false_and, or_true, true_or, or_false, false_or, not_true_eq_false, not_false_eq_true] <;> rfl) | simp [makeOne_, makeBody_, makeTail_, c41, eq_false c69_0, eq_false c69_1, eq_false c69_2, c183])
set_option maxRecDepth 100000 in
set_option maxHeartbeats 1000000 in
theorem sp_X1_makeCall {l : Launch} {k : im_K} {S : im_S} {I : im_I} {a m : Nat} {b0 : Nat} {b1 mb1 : Nat} (h : o_X1 S a m) (hb0 : o_X3 S b0) (hb1 : o_X2 S b1 mb1) : im_Runs l k 3 mX1_makeCall [.ref a, .ref b0, .ref b1] (S, I) (none) (S, makeCall_ I a m b0 b1) := by
  refine im_run (by decide +kernel) ⟨Nat.le_refl _, Nat.le_refl _⟩ (Nat.le_of_ble_eq_true rfl) ?_
  intro X hl hX hxn hxz hxc hxs
  subst hl
  change im_E X k _ 0 [some (.ref a), some (.ref b0), some (.ref b1), none, none, none, none] [] S I
  refine r_aload_n (pc := 0) hX dX1_makeCall_0 rfl ?_
  refine r_aload_n (pc := 1) hX dX1_makeCall_1 rfl ?_
  refine r_geti (pc := 2) hX dX1_makeCall_2 fl_X1_37 rfl (o_X1_k h) ?_
  refine r_callV (Z := mX3_writtenBy) (t := 3) (pc := 5) hX dX1_makeCall_5 ml_X1_52 mX3_writtenBy_w ⟨by decide, rfl⟩ (o_X3_k hb0) (sp_X3_writtenBy hb0) rfl rfl (Nat.le_of_ble_eq_true rfl) (by decide) rfl (Or.inl rfl) ?_
  refine r_istore_n (pc := 8) hX (L' := [_, _, _, _, _, _, _]) dX1_makeCall_8 rfl rfl (Nat.le_of_ble_eq_true rfl) ?_
  refine r_aload_n (pc := 9) hX dX1_makeCall_9 rfl ?_
  refine r_aload_n (pc := 10) hX dX1_makeCall_10 rfl ?_
  refine r_geti (pc := 11) hX dX1_makeCall_11 fl_X1_37 rfl (o_X1_k h) ?_
  refine r_iconst (pc := 14) hX 0 dX1_makeCall_14 (by decide) ?_
  refine r_callV (Z := mX3_readBy) (t := 3) (pc := 15) hX dX1_makeCall_15 ml_X1_98 mX3_readBy_w ⟨by decide, rfl⟩ (o_X3_k hb0) (sp_X3_readBy hb0) rfl rfl (Nat.le_of_ble_eq_true rfl) (by decide) rfl (Or.inl rfl) ?_
  refine r_istore (pc := 18) hX (L' := [_, _, _, _, _, _, _]) dX1_makeCall_18 rfl rfl (Nat.le_of_ble_eq_true rfl) ?_
  refine r_aload_n (pc := 20) hX dX1_makeCall_20 rfl ?_
  refine r_aload_n (pc := 21) hX dX1_makeCall_21 rfl ?_
  refine r_geti (pc := 22) hX dX1_makeCall_22 fl_X1_37 rfl (o_X1_k h) ?_
  refine r_iconst (pc := 25) hX 1 dX1_makeCall_25 (by decide) ?_
  refine r_callV (Z := mX3_readBy) (t := 3) (pc := 26) hX dX1_makeCall_26 ml_X1_98 mX3_readBy_w ⟨by decide, rfl⟩ (o_X3_k hb0) (sp_X3_readBy hb0) rfl rfl (Nat.le_of_ble_eq_true rfl) (by decide) rfl (Or.inl rfl) ?_
  refine r_istore (pc := 29) hX (L' := [_, _, _, _, _, _, _]) dX1_makeCall_29 rfl rfl (Nat.le_of_ble_eq_true rfl) ?_
  refine r_aload_n (pc := 31) hX dX1_makeCall_31 rfl ?_
  refine r_iload (pc := 32) hX dX1_makeCall_32 rfl ?_
  refine r_callV (Z := mX2_registerOf) (t := 2) (pc := 34) hX dX1_makeCall_34 ml_X1_77 mX2_registerOf_w ⟨by decide, rfl⟩ (o_X2_k hb1) (sp_X2_registerOf hb1) rfl rfl (Nat.le_of_ble_eq_true rfl) (by decide) rfl (Or.inl rfl) ?_
  refine r_if_ne (pc := 37) hX 44 dX1_makeCall_37 (by decide) (fun c37 => ?_) (fun c37 => ?_)
  · refine r_iconst (pc := 44) hX 0 dX1_makeCall_44 (by decide) ?_
    refine r_istore (pc := 45) hX (L' := [_, _, _, _, _, _, _]) dX1_makeCall_45 rfl rfl (Nat.le_of_ble_eq_true rfl) ?_
    refine r_iload (pc := 47) hX dX1_makeCall_47 rfl ?_
    refine r_if_eq (pc := 49) hX 95 dX1_makeCall_49 (by decide) (fun c49 => ?_) (fun c49 => ?_)
    · refine r_iload (pc := 95) hX dX1_makeCall_95 rfl ?_
      refine r_if_eq (pc := 97) hX 117 dX1_makeCall_97 (by decide) (fun c97 => ?_) (fun c97 => ?_)
      · refine r_aload_n (pc := 117) hX dX1_makeCall_117 rfl ?_
        refine r_aload_n (pc := 118) hX dX1_makeCall_118 rfl ?_
        refine r_iload (pc := 119) hX dX1_makeCall_119 rfl ?_
        refine r_iconst (pc := 121) hX 0 dX1_makeCall_121 (by decide) ?_
        refine r_callV (Z := mX1_bring) (t := 1) (pc := 122) hX dX1_makeCall_122 ml_X1_126 mX1_bring_w ⟨by decide, rfl⟩ (o_X1_k h) (sp_X1_bring h hb1) rfl rfl (Nat.le_of_ble_eq_true rfl) (by decide) rfl (Or.inl rfl) ?_
        refine r_aload_n (pc := 125) hX dX1_makeCall_125 rfl ?_
        refine r_aload_n (pc := 126) hX dX1_makeCall_126 rfl ?_
        refine r_iload (pc := 127) hX dX1_makeCall_127 rfl ?_
        refine r_iconst (pc := 129) hX 1 dX1_makeCall_129 (by decide) ?_
        refine r_callV (Z := mX1_bring) (t := 1) (pc := 130) hX dX1_makeCall_130 ml_X1_126 mX1_bring_w ⟨by decide, rfl⟩ (o_X1_k h) (sp_X1_bring h hb1) rfl rfl (Nat.le_of_ble_eq_true rfl) (by decide) rfl (Or.inl rfl) ?_
        refine r_aload_n (pc := 133) hX dX1_makeCall_133 rfl ?_
        refine r_bipush (pc := 134) hX 9 dX1_makeCall_134 (by decide) ?_
        refine r_iconst (pc := 136) hX 0 dX1_makeCall_136 (by decide) ?_
        refine r_iconst (pc := 137) hX 0 dX1_makeCall_137 (by decide) ?_
        refine r_iconst (pc := 138) hX 0 dX1_makeCall_138 (by decide) ?_
        refine r_iconst (pc := 139) hX 0 dX1_makeCall_139 (by decide) ?_
        refine r_callV (Z := mX1_add) (t := 1) (pc := 140) hX dX1_makeCall_140 ml_X1_83 mX1_add_w ⟨by decide, rfl⟩ (o_X1_k h) (sp_X1_add h) rfl rfl (Nat.le_of_ble_eq_true rfl) (by decide) rfl (Or.inl rfl) ?_
        refine r_aload_n (pc := 143) hX dX1_makeCall_143 rfl ?_
        refine r_iload_n (pc := 144) hX dX1_makeCall_144 rfl ?_
        refine r_callV (Z := mX2_isSpilled) (t := 2) (pc := 145) hX dX1_makeCall_145 ml_X1_68 mX2_isSpilled_w ⟨by decide, rfl⟩ (o_X2_k hb1) (sp_X2_isSpilled hb1) rfl rfl (Nat.le_of_ble_eq_true rfl) (by decide) rfl (Or.inl rfl) ?_
        refine r_if_eq (pc := 148) hX 168 dX1_makeCall_148 (by decide) (fun c148 => ?_) (fun c148 => ?_)
        · replace c148 := b2i_0 c148
          refine r_aload_n (pc := 168) hX dX1_makeCall_168 rfl ?_
          refine r_aload_n (pc := 169) hX dX1_makeCall_169 rfl ?_
          refine r_iload_n (pc := 170) hX dX1_makeCall_170 rfl ?_
          refine r_callV (Z := mX2_registerOf) (t := 2) (pc := 171) hX dX1_makeCall_171 ml_X1_77 mX2_registerOf_w ⟨by decide, rfl⟩ (o_X2_k hb1) (sp_X2_registerOf hb1) rfl rfl (Nat.le_of_ble_eq_true rfl) (by decide) rfl (Or.inl rfl) ?_
          refine r_iconst (pc := 174) hX 0 dX1_makeCall_174 (by decide) ?_
          refine r_callV (Z := mX1_addMove) (t := 1) (pc := 175) hX dX1_makeCall_175 ml_X1_87 mX1_addMove_w ⟨by decide, rfl⟩ (o_X1_k h) (sp_X1_addMove h) rfl rfl (Nat.le_of_ble_eq_true rfl) (by decide) rfl (Or.inl rfl) ?_
          exact r_return (pc := 178) hX dX1_makeCall_178 rfl rfl (by first | with_reducible rfl | (simp only [makeCall_, callMoves_, eq_false c37, c148, ↓reduceIte, if_true, if_false, decide_true, decide_false, eq_self, b2i_t, b2i_f, Bool.false_eq_true, and_true, true_and, and_false, false_and, or_true, true_or, or_false, false_or, not_true_eq_false, not_false_eq_true] <;> rfl) | simp [makeCall_, callMoves_, eq_false c37, c148])
        · replace c148 := b2i_1 c148
          refine r_aload_n (pc := 151) hX dX1_makeCall_151 rfl ?_
          refine r_bipush (pc := 152) hX 8 dX1_makeCall_152 (by decide) ?_
          refine r_iconst (pc := 154) hX 0 dX1_makeCall_154 (by decide) ?_
          refine r_aload_n (pc := 155) hX dX1_makeCall_155 rfl ?_
          refine r_iload_n (pc := 156) hX dX1_makeCall_156 rfl ?_
          refine r_callV (Z := mX2_slotOf) (t := 2) (pc := 157) hX dX1_makeCall_157 ml_X1_95 mX2_slotOf_w ⟨by decide, rfl⟩ (o_X2_k hb1) (sp_X2_slotOf hb1) rfl rfl (Nat.le_of_ble_eq_true rfl) (by decide) rfl (Or.inl rfl) ?_
          refine r_iconst (pc := 160) hX 0 dX1_makeCall_160 (by decide) ?_
          refine r_iconst (pc := 161) hX 0 dX1_makeCall_161 (by decide) ?_
          refine r_callV (Z := mX1_add) (t := 1) (pc := 162) hX dX1_makeCall_162 ml_X1_83 mX1_add_w ⟨by decide, rfl⟩ (o_X1_k h) (sp_X1_add h) rfl rfl (Nat.le_of_ble_eq_true rfl) (by decide) rfl (Or.inl rfl) ?_
          refine r_goto (pc := 165) hX (tgt := 178) dX1_makeCall_165 (by decide) ?_
          exact r_return (pc := 178) hX dX1_makeCall_178 rfl rfl (by first | with_reducible rfl | (simp only [makeCall_, callMoves_, eq_false c37, c148, ↓reduceIte, if_true, if_false, decide_true, decide_false, eq_self, b2i_t, b2i_f, Bool.false_eq_true, and_true, true_and, and_false, false_and, or_true, true_or, or_false, false_or, not_true_eq_false, not_false_eq_true] <;> rfl) | simp [makeCall_, callMoves_, eq_false c37, c148])
      · exact absurd c97 (by decide)
    · exact absurd c49 (by decide)
  · refine r_iconst (pc := 40) hX 1 dX1_makeCall_40 (by decide) ?_
    refine r_goto (pc := 41) hX (tgt := 45) dX1_makeCall_41 (by decide) ?_
    refine r_istore (pc := 45) hX (L' := [_, _, _, _, _, _, _]) dX1_makeCall_45 rfl rfl (Nat.le_of_ble_eq_true rfl) ?_
    refine r_iload (pc := 47) hX dX1_makeCall_47 rfl ?_
    refine r_if_eq (pc := 49) hX 95 dX1_makeCall_49 (by decide) (fun c49 => ?_) (fun c49 => ?_)
    · exact absurd c49 (by decide)
    · refine r_aload_n (pc := 52) hX dX1_makeCall_52 rfl ?_
      refine r_iload (pc := 53) hX dX1_makeCall_53 rfl ?_
      refine r_callV (Z := mX2_registerOf) (t := 2) (pc := 55) hX dX1_makeCall_55 ml_X1_77 mX2_registerOf_w ⟨by decide, rfl⟩ (o_X2_k hb1) (sp_X2_registerOf hb1) rfl rfl (Nat.le_of_ble_eq_true rfl) (by decide) rfl (Or.inl rfl) ?_
      refine r_iconst (pc := 58) hX 1 dX1_makeCall_58 (by decide) ?_
      refine r_icmp_ne (pc := 59) hX 95 dX1_makeCall_59 (by decide) (fun c59 => ?_) (fun c59 => ?_)
      · refine r_iload (pc := 95) hX dX1_makeCall_95 rfl ?_
        refine r_if_eq (pc := 97) hX 117 dX1_makeCall_97 (by decide) (fun c97 => ?_) (fun c97 => ?_)
        · exact absurd c97 (by decide)
        · refine r_aload_n (pc := 100) hX dX1_makeCall_100 rfl ?_
          refine r_iconst (pc := 101) hX 1 dX1_makeCall_101 (by decide) ?_
          refine r_iconst (pc := 102) hX 0 dX1_makeCall_102 (by decide) ?_
          refine r_callV (Z := mX1_addMove) (t := 1) (pc := 103) hX dX1_makeCall_103 ml_X1_87 mX1_addMove_w ⟨by decide, rfl⟩ (o_X1_k h) (sp_X1_addMove h) rfl rfl (Nat.le_of_ble_eq_true rfl) (by decide) rfl (Or.inl rfl) ?_
          refine r_aload_n (pc := 106) hX dX1_makeCall_106 rfl ?_
          refine r_aload_n (pc := 107) hX dX1_makeCall_107 rfl ?_
          refine r_iload (pc := 108) hX dX1_makeCall_108 rfl ?_
          refine r_iconst (pc := 110) hX 0 dX1_makeCall_110 (by decide) ?_
          refine r_callV (Z := mX1_bring) (t := 1) (pc := 111) hX dX1_makeCall_111 ml_X1_126 mX1_bring_w ⟨by decide, rfl⟩ (o_X1_k h) (sp_X1_bring h hb1) rfl rfl (Nat.le_of_ble_eq_true rfl) (by decide) rfl (Or.inl rfl) ?_
          refine r_goto (pc := 114) hX (tgt := 133) dX1_makeCall_114 (by decide) ?_
          refine r_aload_n (pc := 133) hX dX1_makeCall_133 rfl ?_
          refine r_bipush (pc := 134) hX 9 dX1_makeCall_134 (by decide) ?_
          refine r_iconst (pc := 136) hX 0 dX1_makeCall_136 (by decide) ?_
          refine r_iconst (pc := 137) hX 0 dX1_makeCall_137 (by decide) ?_
          refine r_iconst (pc := 138) hX 0 dX1_makeCall_138 (by decide) ?_
          refine r_iconst (pc := 139) hX 0 dX1_makeCall_139 (by decide) ?_
          refine r_callV (Z := mX1_add) (t := 1) (pc := 140) hX dX1_makeCall_140 ml_X1_83 mX1_add_w ⟨by decide, rfl⟩ (o_X1_k h) (sp_X1_add h) rfl rfl (Nat.le_of_ble_eq_true rfl) (by decide) rfl (Or.inl rfl) ?_
          refine r_aload_n (pc := 143) hX dX1_makeCall_143 rfl ?_
          refine r_iload_n (pc := 144) hX dX1_makeCall_144 rfl ?_
          refine r_callV (Z := mX2_isSpilled) (t := 2) (pc := 145) hX dX1_makeCall_145 ml_X1_68 mX2_isSpilled_w ⟨by decide, rfl⟩ (o_X2_k hb1) (sp_X2_isSpilled hb1) rfl rfl (Nat.le_of_ble_eq_true rfl) (by decide) rfl (Or.inl rfl) ?_
          refine r_if_eq (pc := 148) hX 168 dX1_makeCall_148 (by decide) (fun c148 => ?_) (fun c148 => ?_)
          · replace c148 := b2i_0 c148
            refine r_aload_n (pc := 168) hX dX1_makeCall_168 rfl ?_
            refine r_aload_n (pc := 169) hX dX1_makeCall_169 rfl ?_
            refine r_iload_n (pc := 170) hX dX1_makeCall_170 rfl ?_
            refine r_callV (Z := mX2_registerOf) (t := 2) (pc := 171) hX dX1_makeCall_171 ml_X1_77 mX2_registerOf_w ⟨by decide, rfl⟩ (o_X2_k hb1) (sp_X2_registerOf hb1) rfl rfl (Nat.le_of_ble_eq_true rfl) (by decide) rfl (Or.inl rfl) ?_
            refine r_iconst (pc := 174) hX 0 dX1_makeCall_174 (by decide) ?_
            refine r_callV (Z := mX1_addMove) (t := 1) (pc := 175) hX dX1_makeCall_175 ml_X1_87 mX1_addMove_w ⟨by decide, rfl⟩ (o_X1_k h) (sp_X1_addMove h) rfl rfl (Nat.le_of_ble_eq_true rfl) (by decide) rfl (Or.inl rfl) ?_
            exact r_return (pc := 178) hX dX1_makeCall_178 rfl rfl (by first | with_reducible rfl | (simp only [makeCall_, callMoves_, eq_true c37, eq_false c59, c148, ↓reduceIte, if_true, if_false, decide_true, decide_false, eq_self, b2i_t, b2i_f, Bool.false_eq_true, and_true, true_and, and_false, false_and, or_true, true_or, or_false, false_or, not_true_eq_false, not_false_eq_true] <;> rfl) | simp [makeCall_, callMoves_, eq_true c37, eq_false c59, c148])
          · replace c148 := b2i_1 c148
            refine r_aload_n (pc := 151) hX dX1_makeCall_151 rfl ?_
            refine r_bipush (pc := 152) hX 8 dX1_makeCall_152 (by decide) ?_
            refine r_iconst (pc := 154) hX 0 dX1_makeCall_154 (by decide) ?_
            refine r_aload_n (pc := 155) hX dX1_makeCall_155 rfl ?_
            refine r_iload_n (pc := 156) hX dX1_makeCall_156 rfl ?_
            refine r_callV (Z := mX2_slotOf) (t := 2) (pc := 157) hX dX1_makeCall_157 ml_X1_95 mX2_slotOf_w ⟨by decide, rfl⟩ (o_X2_k hb1) (sp_X2_slotOf hb1) rfl rfl (Nat.le_of_ble_eq_true rfl) (by decide) rfl (Or.inl rfl) ?_
            refine r_iconst (pc := 160) hX 0 dX1_makeCall_160 (by decide) ?_
            refine r_iconst (pc := 161) hX 0 dX1_makeCall_161 (by decide) ?_
            refine r_callV (Z := mX1_add) (t := 1) (pc := 162) hX dX1_makeCall_162 ml_X1_83 mX1_add_w ⟨by decide, rfl⟩ (o_X1_k h) (sp_X1_add h) rfl rfl (Nat.le_of_ble_eq_true rfl) (by decide) rfl (Or.inl rfl) ?_
            refine r_goto (pc := 165) hX (tgt := 178) dX1_makeCall_165 (by decide) ?_
            exact r_return (pc := 178) hX dX1_makeCall_178 rfl rfl (by first | with_reducible rfl | (simp only [makeCall_, callMoves_, eq_true c37, eq_false c59, c148, ↓reduceIte, if_true, if_false, decide_true, decide_false, eq_self, b2i_t, b2i_f, Bool.false_eq_true, and_true, true_and, and_false, false_and, or_true, true_or, or_false, false_or, not_true_eq_false, not_false_eq_true] <;> rfl) | simp [makeCall_, callMoves_, eq_true c37, eq_false c59, c148])
      · refine r_aload_n (pc := 62) hX dX1_makeCall_62 rfl ?_
        refine r_aload_n (pc := 63) hX dX1_makeCall_63 rfl ?_
        refine r_getr (pc := 64) hX dX1_makeCall_64 fl_X1_9 rfl (o_X1_k h) (o_X1_r1 h) ?_
        refine r_callV (Z := mX5_scratch) (t := 5) (pc := 67) hX dX1_makeCall_67 ml_X1_71 mX5_scratch_w ⟨by decide, rfl⟩ (o_X5_k (o_X1_o1 h)) (sp_X5_scratch (o_X1_o1 h)) rfl rfl (Nat.le_of_ble_eq_true rfl) (by decide) rfl (Or.inl rfl) ?_
        refine r_iconst (pc := 70) hX 0 dX1_makeCall_70 (by decide) ?_
        refine r_callV (Z := mX1_addMove) (t := 1) (pc := 71) hX dX1_makeCall_71 ml_X1_87 mX1_addMove_w ⟨by decide, rfl⟩ (o_X1_k h) (sp_X1_addMove h) rfl rfl (Nat.le_of_ble_eq_true rfl) (by decide) rfl (Or.inl rfl) ?_
        refine r_aload_n (pc := 74) hX dX1_makeCall_74 rfl ?_
        refine r_iconst (pc := 75) hX 0 dX1_makeCall_75 (by decide) ?_
        refine r_iconst (pc := 76) hX 1 dX1_makeCall_76 (by decide) ?_
        refine r_callV (Z := mX1_addMove) (t := 1) (pc := 77) hX dX1_makeCall_77 ml_X1_87 mX1_addMove_w ⟨by decide, rfl⟩ (o_X1_k h) (sp_X1_addMove h) rfl rfl (Nat.le_of_ble_eq_true rfl) (by decide) rfl (Or.inl rfl) ?_
        refine r_aload_n (pc := 80) hX dX1_makeCall_80 rfl ?_
        refine r_iconst (pc := 81) hX 1 dX1_makeCall_81 (by decide) ?_
        refine r_aload_n (pc := 82) hX dX1_makeCall_82 rfl ?_
        refine r_getr (pc := 83) hX dX1_makeCall_83 fl_X1_9 rfl (o_X1_k h) (o_X1_r1 h) ?_
        refine r_callV (Z := mX5_scratch) (t := 5) (pc := 86) hX dX1_makeCall_86 ml_X1_71 mX5_scratch_w ⟨by decide, rfl⟩ (o_X5_k (o_X1_o1 h)) (sp_X5_scratch (o_X1_o1 h)) rfl rfl (Nat.le_of_ble_eq_true rfl) (by decide) rfl (Or.inl rfl) ?_
        refine r_callV (Z := mX1_addMove) (t := 1) (pc := 89) hX dX1_makeCall_89 ml_X1_87 mX1_addMove_w ⟨by decide, rfl⟩ (o_X1_k h) (sp_X1_addMove h) rfl rfl (Nat.le_of_ble_eq_true rfl) (by decide) rfl (Or.inl rfl) ?_
        refine r_goto (pc := 92) hX (tgt := 133) dX1_makeCall_92 (by decide) ?_
        refine r_aload_n (pc := 133) hX dX1_makeCall_133 rfl ?_
        refine r_bipush (pc := 134) hX 9 dX1_makeCall_134 (by decide) ?_
        refine r_iconst (pc := 136) hX 0 dX1_makeCall_136 (by decide) ?_
        refine r_iconst (pc := 137) hX 0 dX1_makeCall_137 (by decide) ?_
        refine r_iconst (pc := 138) hX 0 dX1_makeCall_138 (by decide) ?_
        refine r_iconst (pc := 139) hX 0 dX1_makeCall_139 (by decide) ?_
        refine r_callV (Z := mX1_add) (t := 1) (pc := 140) hX dX1_makeCall_140 ml_X1_83 mX1_add_w ⟨by decide, rfl⟩ (o_X1_k h) (sp_X1_add h) rfl rfl (Nat.le_of_ble_eq_true rfl) (by decide) rfl (Or.inl rfl) ?_
        refine r_aload_n (pc := 143) hX dX1_makeCall_143 rfl ?_
        refine r_iload_n (pc := 144) hX dX1_makeCall_144 rfl ?_
        refine r_callV (Z := mX2_isSpilled) (t := 2) (pc := 145) hX dX1_makeCall_145 ml_X1_68 mX2_isSpilled_w ⟨by decide, rfl⟩ (o_X2_k hb1) (sp_X2_isSpilled hb1) rfl rfl (Nat.le_of_ble_eq_true rfl) (by decide) rfl (Or.inl rfl) ?_
        refine r_if_eq (pc := 148) hX 168 dX1_makeCall_148 (by decide) (fun c148 => ?_) (fun c148 => ?_)
        · replace c148 := b2i_0 c148
          refine r_aload_n (pc := 168) hX dX1_makeCall_168 rfl ?_
          refine r_aload_n (pc := 169) hX dX1_makeCall_169 rfl ?_
          refine r_iload_n (pc := 170) hX dX1_makeCall_170 rfl ?_
          refine r_callV (Z := mX2_registerOf) (t := 2) (pc := 171) hX dX1_makeCall_171 ml_X1_77 mX2_registerOf_w ⟨by decide, rfl⟩ (o_X2_k hb1) (sp_X2_registerOf hb1) rfl rfl (Nat.le_of_ble_eq_true rfl) (by decide) rfl (Or.inl rfl) ?_
          refine r_iconst (pc := 174) hX 0 dX1_makeCall_174 (by decide) ?_
          refine r_callV (Z := mX1_addMove) (t := 1) (pc := 175) hX dX1_makeCall_175 ml_X1_87 mX1_addMove_w ⟨by decide, rfl⟩ (o_X1_k h) (sp_X1_addMove h) rfl rfl (Nat.le_of_ble_eq_true rfl) (by decide) rfl (Or.inl rfl) ?_
          exact r_return (pc := 178) hX dX1_makeCall_178 rfl rfl (by first | with_reducible rfl | (simp only [makeCall_, callMoves_, eq_true c37, eq_true c59, c148, ↓reduceIte, if_true, if_false, decide_true, decide_false, eq_self, b2i_t, b2i_f, Bool.false_eq_true, and_true, true_and, and_false, false_and, or_true, true_or, or_false, false_or, not_true_eq_false, not_false_eq_true] <;> rfl) | simp [makeCall_, callMoves_, eq_true c37, eq_true c59, c148])
        · replace c148 := b2i_1 c148
          refine r_aload_n (pc := 151) hX dX1_makeCall_151 rfl ?_
          refine r_bipush (pc := 152) hX 8 dX1_makeCall_152 (by decide) ?_
          refine r_iconst (pc := 154) hX 0 dX1_makeCall_154 (by decide) ?_
          refine r_aload_n (pc := 155) hX dX1_makeCall_155 rfl ?_
          refine r_iload_n (pc := 156) hX dX1_makeCall_156 rfl ?_
          refine r_callV (Z := mX2_slotOf) (t := 2) (pc := 157) hX dX1_makeCall_157 ml_X1_95 mX2_slotOf_w ⟨by decide, rfl⟩ (o_X2_k hb1) (sp_X2_slotOf hb1) rfl rfl (Nat.le_of_ble_eq_true rfl) (by decide) rfl (Or.inl rfl) ?_
          refine r_iconst (pc := 160) hX 0 dX1_makeCall_160 (by decide) ?_
          refine r_iconst (pc := 161) hX 0 dX1_makeCall_161 (by decide) ?_
          refine r_callV (Z := mX1_add) (t := 1) (pc := 162) hX dX1_makeCall_162 ml_X1_83 mX1_add_w ⟨by decide, rfl⟩ (o_X1_k h) (sp_X1_add h) rfl rfl (Nat.le_of_ble_eq_true rfl) (by decide) rfl (Or.inl rfl) ?_
          refine r_goto (pc := 165) hX (tgt := 178) dX1_makeCall_165 (by decide) ?_
          exact r_return (pc := 178) hX dX1_makeCall_178 rfl rfl (by first | with_reducible rfl | (simp only [makeCall_, callMoves_, eq_true c37, eq_true c59, c148, ↓reduceIte, if_true, if_false, decide_true, decide_false, eq_self, b2i_t, b2i_f, Bool.false_eq_true, and_true, true_and, and_false, false_and, or_true, true_or, or_false, false_or, not_true_eq_false, not_false_eq_true] <;> rfl) | simp [makeCall_, callMoves_, eq_true c37, eq_true c59, c148])
set_option maxRecDepth 100000 in
set_option maxHeartbeats 1000000 in
theorem sp_X1_make {l : Launch} {k : im_K} {S : im_S} {I : im_I} {a m : Nat} {b0 : Nat} {b1 mb1 : Nat} (h : o_X1 S a m) (hb0 : o_X3 S b0) (hb1 : o_X2 S b1 mb1) (hr : b0 < a ∨ a + 4 < b0) : im_Runs l k 4 mX1_make [.ref a, .ref b0, .ref b1] (S, I) (none) (S, make_ I a m b0 b1) := by
  refine im_run (by decide +kernel) ⟨Nat.le_refl _, Nat.le_refl _⟩ (Nat.le_of_ble_eq_true rfl) ?_
  intro X hl hX hxn hxz hxc hxs
  subst hl
  change im_E X k _ 0 [some (.ref a), some (.ref b0), some (.ref b1), none] [] S I
  refine r_aload_n (pc := 0) hX dX1_make_0 rfl ?_
  refine r_iconst (pc := 1) hX 0 dX1_make_1 (by decide) ?_
  refine r_puti (pc := 2) hX dX1_make_2 fl_X1_28 rfl rfl (o_X1_k h) ?_
  refine r_iconst (pc := 5) hX 0 dX1_make_5 (by decide) ?_
  refine r_istore_n (pc := 6) hX (L' := [_, _, _, _]) dX1_make_6 rfl rfl (Nat.le_of_ble_eq_true rfl) ?_
  have hL7 : ∀ (w1 : Nat) (i1 : Int32) (J1 : im_I), J1 b0 0 = I b0 0 → cnt i1 (I b0 0) = w1 → loopN w1 i1 (makeStep_ a m b0 b1) J1 = loopN (cnt (0) (I b0 0)) (0) (makeStep_ a m b0 b1) (im_up I a 0 0) → im_E X k (im_Q X k (none) (S, make_ I a m b0 b1)) 7 [some (.ref a), some (.ref b0), some (.ref b1), some (.int i1)] [] S J1 := by
    intro w1
    induction w1 with
    | zero =>
      intro i1 J1 hf1 hm1 hR1
      refine r_iload_n (pc := 7) hX dX1_make_7 rfl ?_
      refine r_aload_n (pc := 8) hX dX1_make_8 rfl ?_
      refine r_geti (pc := 9) hX dX1_make_9 fl_X1_32 rfl (o_X3_k hb0) ?_
      refine r_icmp_ge (pc := 12) hX 84 dX1_make_12 (by decide) (fun c12 => ?_) (fun c12 => ?_)
      · have c12d := Int32.not_lt.mpr c12
        rw [loopN_0] at hR1
        subst hR1
        refine r_aload_n (pc := 84) hX dX1_make_84 rfl ?_
        refine r_getr (pc := 85) hX dX1_make_85 fl_X1_25 rfl (o_X1_k h) (o_X1_r5 h) ?_
        refine r_aload_n (pc := 88) hX dX1_make_88 rfl ?_
        refine r_geti (pc := 89) hX dX1_make_89 fl_X1_32 rfl (o_X3_k hb0) ?_
        refine r_aload_n (pc := 92) hX dX1_make_92 rfl ?_
        refine r_geti (pc := 93) hX dX1_make_93 fl_X1_28 rfl (o_X1_k h) ?_
        refine r_callSN (Z := mX11_put) (pc := 96) hX dX1_make_96 mn_X1_40 mX11_put_w (sp_X11_put (o_X1_a5 h)) rfl rfl (Nat.le_of_ble_eq_true rfl) (by decide) rfl (Or.inl rfl) ?_
        exact r_return (pc := 99) hX dX1_make_99 rfl rfl (by first | with_reducible rfl | (simp only [make_, loopC, eq_true c12, eq_false c12d, ↓reduceIte, if_true, if_false, decide_true, decide_false, eq_self, b2i_t, b2i_f, Bool.false_eq_true, and_true, true_and, and_false, false_and, or_true, true_or, or_false, false_or, not_true_eq_false, not_false_eq_true] <;> rfl) | simp [make_, loopC, eq_true c12, eq_false c12d])
      · have c12d := Int32.not_le.mp c12
        rw [hf1] at c12; exact (cnt_ex hm1  c12).elim
    | succ w1 ih1 =>
      intro i1 J1 hf1 hm1 hR1
      refine r_iload_n (pc := 7) hX dX1_make_7 rfl ?_
      refine r_aload_n (pc := 8) hX dX1_make_8 rfl ?_
      refine r_geti (pc := 9) hX dX1_make_9 fl_X1_32 rfl (o_X3_k hb0) ?_
      refine r_icmp_ge (pc := 12) hX 84 dX1_make_12 (by decide) (fun c12 => ?_) (fun c12 => ?_)
      · have c12d := Int32.not_lt.mpr c12
        rw [hf1] at c12; exact (cnt_go hm1  c12).elim
      · have c12d := Int32.not_le.mp c12
        refine r_aload_n (pc := 15) hX dX1_make_15 rfl ?_
        refine r_iload_n (pc := 16) hX dX1_make_16 rfl ?_
        refine r_puti (pc := 17) hX dX1_make_17 fl_X1_37 rfl rfl (o_X1_k h) ?_
        refine r_aload_n (pc := 20) hX dX1_make_20 rfl ?_
        refine r_getr (pc := 21) hX dX1_make_21 fl_X1_25 rfl (o_X1_k h) (o_X1_r5 h) ?_
        refine r_aload_n (pc := 24) hX dX1_make_24 rfl ?_
        refine r_geti (pc := 25) hX dX1_make_25 fl_X1_37 rfl (o_X1_k h) ?_
        refine r_aload_n (pc := 28) hX dX1_make_28 rfl ?_
        refine r_geti (pc := 29) hX dX1_make_29 fl_X1_28 rfl (o_X1_k h) ?_
        refine r_callSN (Z := mX11_put) (pc := 32) hX dX1_make_32 mn_X1_40 mX11_put_w (sp_X11_put (o_X1_a5 h)) rfl rfl (Nat.le_of_ble_eq_true rfl) (by decide) rfl (Or.inl rfl) ?_
        refine r_aload_n (pc := 35) hX dX1_make_35 rfl ?_
        refine r_aload_n (pc := 36) hX dX1_make_36 rfl ?_
        refine r_geti (pc := 37) hX dX1_make_37 fl_X1_37 rfl (o_X1_k h) ?_
        refine r_callV (Z := mX3_kindOf) (t := 3) (pc := 40) hX dX1_make_40 ml_X1_44 mX3_kindOf_w ⟨by decide, rfl⟩ (o_X3_k hb0) (sp_X3_kindOf hb0) rfl rfl (Nat.le_of_ble_eq_true rfl) (by decide) rfl (Or.inl rfl) ?_
        refine r_bipush (pc := 43) hX 9 dX1_make_43 (by decide) ?_
        refine r_icmp_ne (pc := 45) hX 57 dX1_make_45 (by decide) (fun c45 => ?_) (fun c45 => ?_)
        · refine r_aload_n (pc := 57) hX dX1_make_57 rfl ?_
          refine r_aload_n (pc := 58) hX dX1_make_58 rfl ?_
          refine r_aload_n (pc := 59) hX dX1_make_59 rfl ?_
          refine r_geti (pc := 60) hX dX1_make_60 fl_X1_37 rfl (o_X1_k h) ?_
          refine r_callV (Z := mX3_writtenBy) (t := 3) (pc := 63) hX dX1_make_63 ml_X1_52 mX3_writtenBy_w ⟨by decide, rfl⟩ (o_X3_k hb0) (sp_X3_writtenBy hb0) rfl rfl (Nat.le_of_ble_eq_true rfl) (by decide) rfl (Or.inl rfl) ?_
          refine r_callV (Z := mX2_isRemade) (t := 2) (pc := 66) hX dX1_make_66 ml_X1_55 mX2_isRemade_w ⟨by decide, rfl⟩ (o_X2_k hb1) (sp_X2_isRemade hb1) rfl rfl (Nat.le_of_ble_eq_true rfl) (by decide) rfl (Or.inl rfl) ?_
          refine r_if_ne (pc := 69) hX 78 dX1_make_69 (by decide) (fun c69 => ?_) (fun c69 => ?_)
          · replace c69 := b2i_1 c69
            refine r_iinc (pc := 78) hX 1 (L' := [_, _, _, _]) dX1_make_78 rfl (by decide) rfl rfl ?_
            refine r_goto (pc := 81) hX (tgt := 7) dX1_make_81 (by decide) ?_
            refine r_mem (I' := (makeStep_ a m b0 b1) i1 J1) (by first | with_reducible rfl | (simp only [makeStep_, make1_, eq_false c12, eq_true c12d, eq_false c45, c69, ↓reduceIte, if_true, if_false, decide_true, decide_false, eq_self, b2i_t, b2i_f, Bool.false_eq_true, and_true, true_and, and_false, false_and, or_true, true_or, or_false, false_or, not_true_eq_false, not_false_eq_true] <;> rfl) | simp [makeStep_, make1_, eq_false c12, eq_true c12d, eq_false c45, c69]) ?_
            exact ih1 _ _ ((congrFun (makeStep_fr hr) 0).trans hf1) (cnt_nx hm1) (loopN_s.symm.trans hR1)
          · replace c69 := b2i_0 c69
            refine r_aload_n (pc := 72) hX dX1_make_72 rfl ?_
            refine r_aload_n (pc := 73) hX dX1_make_73 rfl ?_
            refine r_aload_n (pc := 74) hX dX1_make_74 rfl ?_
            refine r_callV (Z := mX1_makeOne) (t := 1) (pc := 75) hX dX1_make_75 ml_X1_61 mX1_makeOne_w ⟨by decide, rfl⟩ (o_X1_k h) (sp_X1_makeOne h hb0 hb1) rfl rfl (Nat.le_of_ble_eq_true rfl) (by decide) rfl (Or.inl rfl) ?_
            refine r_iinc (pc := 78) hX 1 (L' := [_, _, _, _]) dX1_make_78 rfl (by decide) rfl rfl ?_
            refine r_goto (pc := 81) hX (tgt := 7) dX1_make_81 (by decide) ?_
            refine r_mem (I' := (makeStep_ a m b0 b1) i1 J1) (by first | with_reducible rfl | (simp only [makeStep_, make1_, eq_false c12, eq_true c12d, eq_false c45, c69, ↓reduceIte, if_true, if_false, decide_true, decide_false, eq_self, b2i_t, b2i_f, Bool.false_eq_true, and_true, true_and, and_false, false_and, or_true, true_or, or_false, false_or, not_true_eq_false, not_false_eq_true] <;> rfl) | simp [makeStep_, make1_, eq_false c12, eq_true c12d, eq_false c45, c69]) ?_
            exact ih1 _ _ ((congrFun (makeStep_fr hr) 0).trans hf1) (cnt_nx hm1) (loopN_s.symm.trans hR1)
        · refine r_aload_n (pc := 48) hX dX1_make_48 rfl ?_
          refine r_aload_n (pc := 49) hX dX1_make_49 rfl ?_
          refine r_aload_n (pc := 50) hX dX1_make_50 rfl ?_
          refine r_callV (Z := mX1_makeCall) (t := 1) (pc := 51) hX dX1_make_51 ml_X1_48 mX1_makeCall_w ⟨by decide, rfl⟩ (o_X1_k h) (sp_X1_makeCall h hb0 hb1) rfl rfl (Nat.le_of_ble_eq_true rfl) (by decide) rfl (Or.inl rfl) ?_
          refine r_goto (pc := 54) hX (tgt := 78) dX1_make_54 (by decide) ?_
          refine r_iinc (pc := 78) hX 1 (L' := [_, _, _, _]) dX1_make_78 rfl (by decide) rfl rfl ?_
          refine r_goto (pc := 81) hX (tgt := 7) dX1_make_81 (by decide) ?_
          refine r_mem (I' := (makeStep_ a m b0 b1) i1 J1) (by first | with_reducible rfl | (simp only [makeStep_, make1_, eq_false c12, eq_true c12d, eq_true c45, ↓reduceIte, if_true, if_false, decide_true, decide_false, eq_self, b2i_t, b2i_f, Bool.false_eq_true, and_true, true_and, and_false, false_and, or_true, true_or, or_false, false_or, not_true_eq_false, not_false_eq_true] <;> rfl) | simp [makeStep_, make1_, eq_false c12, eq_true c12d, eq_true c45]) ?_
          exact ih1 _ _ ((congrFun (makeStep_fr hr) 0).trans hf1) (cnt_nx hm1) (loopN_s.symm.trans hR1)
  exact hL7 (cnt (0) (I b0 0)) (0) (im_up I a 0 0) (congrFun (up_fr (by omega)) 0) rfl rfl
