/-! walks, by program out of spec7.py -/
set_option maxRecDepth 100000 in
set_option maxHeartbeats 1000000 in
theorem sp_J6_bitCount_0f7a4 {l : Launch} {k : im_K} {S : im_S} {I : im_I} {p0 : Int32}  : im_Runs l k 0 mJ6_bitCount_0f7a4 [.int p0] (S, I) (some (.int (bitCount_ p0))) (S, I) := by
  refine im_run (by decide +kernel) ⟨Nat.le_refl _, Nat.le_refl _⟩ (Nat.le_of_ble_eq_true rfl) ?_
  intro X hl hX hxn hxz hxc hxs
  subst hl
  change im_E X k _ 0 [some (.int p0)] [] S I
  refine r_iload_n (pc := 0) hX dJ6_bitCount_0f7a4_0 rfl ?_
  refine r_iload_n (pc := 1) hX dJ6_bitCount_0f7a4_1 rfl ?_
  refine r_iconst (pc := 2) hX 1 dJ6_bitCount_0f7a4_2 (by decide) ?_
  refine r_iushr (pc := 3) hX dJ6_bitCount_0f7a4_3 ?_
  refine r_ldcw (pc := 4) hX dJ6_bitCount_0f7a4_4 ko_J6_265 ?_
  refine r_iand (pc := 7) hX dJ6_bitCount_0f7a4_7 ?_
  refine r_isub (pc := 8) hX dJ6_bitCount_0f7a4_8 ?_
  refine r_istore_n (pc := 9) hX (L' := [_]) dJ6_bitCount_0f7a4_9 rfl rfl (Nat.le_of_ble_eq_true rfl) ?_
  refine r_iload_n (pc := 10) hX dJ6_bitCount_0f7a4_10 rfl ?_
  refine r_ldcw (pc := 11) hX dJ6_bitCount_0f7a4_11 ko_J6_266 ?_
  refine r_iand (pc := 14) hX dJ6_bitCount_0f7a4_14 ?_
  refine r_iload_n (pc := 15) hX dJ6_bitCount_0f7a4_15 rfl ?_
  refine r_iconst (pc := 16) hX 2 dJ6_bitCount_0f7a4_16 (by decide) ?_
  refine r_iushr (pc := 17) hX dJ6_bitCount_0f7a4_17 ?_
  refine r_ldcw (pc := 18) hX dJ6_bitCount_0f7a4_18 ko_J6_266 ?_
  refine r_iand (pc := 21) hX dJ6_bitCount_0f7a4_21 ?_
  refine r_iadd (pc := 22) hX dJ6_bitCount_0f7a4_22 ?_
  refine r_istore_n (pc := 23) hX (L' := [_]) dJ6_bitCount_0f7a4_23 rfl rfl (Nat.le_of_ble_eq_true rfl) ?_
  refine r_iload_n (pc := 24) hX dJ6_bitCount_0f7a4_24 rfl ?_
  refine r_iload_n (pc := 25) hX dJ6_bitCount_0f7a4_25 rfl ?_
  refine r_iconst (pc := 26) hX 4 dJ6_bitCount_0f7a4_26 (by decide) ?_
  refine r_iushr (pc := 27) hX dJ6_bitCount_0f7a4_27 ?_
  refine r_iadd (pc := 28) hX dJ6_bitCount_0f7a4_28 ?_
  refine r_ldcw (pc := 29) hX dJ6_bitCount_0f7a4_29 ko_J6_267 ?_
  refine r_iand (pc := 32) hX dJ6_bitCount_0f7a4_32 ?_
  refine r_istore_n (pc := 33) hX (L' := [_]) dJ6_bitCount_0f7a4_33 rfl rfl (Nat.le_of_ble_eq_true rfl) ?_
  refine r_iload_n (pc := 34) hX dJ6_bitCount_0f7a4_34 rfl ?_
  refine r_iload_n (pc := 35) hX dJ6_bitCount_0f7a4_35 rfl ?_
  refine r_bipush (pc := 36) hX 8 dJ6_bitCount_0f7a4_36 (by decide) ?_
  refine r_iushr (pc := 38) hX dJ6_bitCount_0f7a4_38 ?_
  refine r_iadd (pc := 39) hX dJ6_bitCount_0f7a4_39 ?_
  refine r_istore_n (pc := 40) hX (L' := [_]) dJ6_bitCount_0f7a4_40 rfl rfl (Nat.le_of_ble_eq_true rfl) ?_
  refine r_iload_n (pc := 41) hX dJ6_bitCount_0f7a4_41 rfl ?_
  refine r_iload_n (pc := 42) hX dJ6_bitCount_0f7a4_42 rfl ?_
  refine r_bipush (pc := 43) hX 16 dJ6_bitCount_0f7a4_43 (by decide) ?_
  refine r_iushr (pc := 45) hX dJ6_bitCount_0f7a4_45 ?_
  refine r_iadd (pc := 46) hX dJ6_bitCount_0f7a4_46 ?_
  refine r_istore_n (pc := 47) hX (L' := [_]) dJ6_bitCount_0f7a4_47 rfl rfl (Nat.le_of_ble_eq_true rfl) ?_
  refine r_iload_n (pc := 48) hX dJ6_bitCount_0f7a4_48 rfl ?_
  refine r_bipush (pc := 49) hX 63 dJ6_bitCount_0f7a4_49 (by decide) ?_
  refine r_iand (pc := 51) hX dJ6_bitCount_0f7a4_51 ?_
  exact r_ireturn (pc := 52) hX dJ6_bitCount_0f7a4_52 rfl rfl (by first | with_reducible rfl | (simp only [bitCount_, ushr_, ↓reduceIte, if_true, if_false, decide_true, decide_false, eq_self, b2i_t, b2i_f, Bool.false_eq_true, and_true, true_and, and_false, false_and, or_true, true_or, or_false, false_or, not_true_eq_false, not_false_eq_true] <;> rfl) | simp [bitCount_, ushr_]) rfl
set_option maxRecDepth 100000 in
set_option maxHeartbeats 1000000 in
theorem sp_X2_registerOf {l : Launch} {k : im_K} {S : im_S} {I : im_I} {a m : Nat} {p0 : Int32} (h : o_X2 S a m) : im_Runs l k 1 mX2_registerOf [.ref a, .int p0] (S, I) (some (.int (registerOf_ I a p0))) (S, I) := by
  refine im_run (by decide +kernel) ⟨Nat.le_refl _, Nat.le_refl _⟩ (Nat.le_of_ble_eq_true rfl) ?_
  intro X hl hX hxn hxz hxc hxs
  subst hl
  change im_E X k _ 0 [some (.ref a), some (.int p0)] [] S I
  refine r_aload_n (pc := 0) hX dX2_registerOf_0 rfl ?_
  refine r_getr (pc := 1) hX dX2_registerOf_1 fl_X2_15 rfl (o_X2_k h) (o_X2_r5 h) ?_
  refine r_iload_n (pc := 4) hX dX2_registerOf_4 rfl ?_
  refine r_callSN (Z := mX11_at) (pc := 5) hX dX2_registerOf_5 mn_X2_121 mX11_at_w (sp_X11_at (o_X2_a5 h)) rfl rfl (Nat.le_of_ble_eq_true rfl) (by decide) rfl (Or.inl rfl) ?_
  exact r_ireturn (pc := 8) hX dX2_registerOf_8 rfl rfl (by first | with_reducible rfl | (simp only [registerOf_, ↓reduceIte, if_true, if_false, decide_true, decide_false, eq_self, b2i_t, b2i_f, Bool.false_eq_true, and_true, true_and, and_false, false_and, or_true, true_or, or_false, false_or, not_true_eq_false, not_false_eq_true] <;> rfl) | simp [registerOf_]) rfl
set_option maxRecDepth 100000 in
set_option maxHeartbeats 1000000 in
theorem sp_X2_slotOf {l : Launch} {k : im_K} {S : im_S} {I : im_I} {a m : Nat} {p0 : Int32} (h : o_X2 S a m) : im_Runs l k 1 mX2_slotOf [.ref a, .int p0] (S, I) (some (.int (slotOf_ I a p0))) (S, I) := by
  refine im_run (by decide +kernel) ⟨Nat.le_refl _, Nat.le_refl _⟩ (Nat.le_of_ble_eq_true rfl) ?_
  intro X hl hX hxn hxz hxc hxs
  subst hl
  change im_E X k _ 0 [some (.ref a), some (.int p0)] [] S I
  refine r_aload_n (pc := 0) hX dX2_slotOf_0 rfl ?_
  refine r_getr (pc := 1) hX dX2_slotOf_1 fl_X2_19 rfl (o_X2_k h) (o_X2_r6 h) ?_
  refine r_iload_n (pc := 4) hX dX2_slotOf_4 rfl ?_
  refine r_callSN (Z := mX11_at) (pc := 5) hX dX2_slotOf_5 mn_X2_121 mX11_at_w (sp_X11_at (o_X2_a6 h)) rfl rfl (Nat.le_of_ble_eq_true rfl) (by decide) rfl (Or.inl rfl) ?_
  exact r_ireturn (pc := 8) hX dX2_slotOf_8 rfl rfl (by first | with_reducible rfl | (simp only [slotOf_, ↓reduceIte, if_true, if_false, decide_true, decide_false, eq_self, b2i_t, b2i_f, Bool.false_eq_true, and_true, true_and, and_false, false_and, or_true, true_or, or_false, false_or, not_true_eq_false, not_false_eq_true] <;> rfl) | simp [slotOf_]) rfl
set_option maxRecDepth 100000 in
set_option maxHeartbeats 1000000 in
theorem sp_X2_numberOf {l : Launch} {k : im_K} {S : im_S} {I : im_I} {a m : Nat} {p0 : Int32} (h : o_X2 S a m) : im_Runs l k 1 mX2_numberOf [.ref a, .int p0] (S, I) (some (.int (homeNumberOf_ I a p0))) (S, I) := by
  refine im_run (by decide +kernel) ⟨Nat.le_refl _, Nat.le_refl _⟩ (Nat.le_of_ble_eq_true rfl) ?_
  intro X hl hX hxn hxz hxc hxs
  subst hl
  change im_E X k _ 0 [some (.ref a), some (.int p0)] [] S I
  refine r_aload_n (pc := 0) hX dX2_numberOf_0 rfl ?_
  refine r_getr (pc := 1) hX dX2_numberOf_1 fl_X2_25 rfl (o_X2_k h) (o_X2_r8 h) ?_
  refine r_iload_n (pc := 4) hX dX2_numberOf_4 rfl ?_
  refine r_callSN (Z := mX11_at) (pc := 5) hX dX2_numberOf_5 mn_X2_121 mX11_at_w (sp_X11_at (o_X2_a8 h)) rfl rfl (Nat.le_of_ble_eq_true rfl) (by decide) rfl (Or.inl rfl) ?_
  exact r_ireturn (pc := 8) hX dX2_numberOf_8 rfl rfl (by first | with_reducible rfl | (simp only [homeNumberOf_, ↓reduceIte, if_true, if_false, decide_true, decide_false, eq_self, b2i_t, b2i_f, Bool.false_eq_true, and_true, true_and, and_false, false_and, or_true, true_or, or_false, false_or, not_true_eq_false, not_false_eq_true] <;> rfl) | simp [homeNumberOf_]) rfl
set_option maxRecDepth 100000 in
set_option maxHeartbeats 1000000 in
theorem sp_X2_isSpilled {l : Launch} {k : im_K} {S : im_S} {I : im_I} {a m : Nat} {p0 : Int32} (h : o_X2 S a m) : im_Runs l k 1 mX2_isSpilled [.ref a, .int p0] (S, I) (some (.int (b2i (isSpilled_ I a p0)))) (S, I) := by
  refine im_run (by decide +kernel) ⟨Nat.le_refl _, Nat.le_refl _⟩ (Nat.le_of_ble_eq_true rfl) ?_
  intro X hl hX hxn hxz hxc hxs
  subst hl
  change im_E X k _ 0 [some (.ref a), some (.int p0)] [] S I
  refine r_aload_n (pc := 0) hX dX2_isSpilled_0 rfl ?_
  refine r_getr (pc := 1) hX dX2_isSpilled_1 fl_X2_15 rfl (o_X2_k h) (o_X2_r5 h) ?_
  refine r_iload_n (pc := 4) hX dX2_isSpilled_4 rfl ?_
  refine r_callSN (Z := mX11_at) (pc := 5) hX dX2_isSpilled_5 mn_X2_121 mX11_at_w (sp_X11_at (o_X2_a5 h)) rfl rfl (Nat.le_of_ble_eq_true rfl) (by decide) rfl (Or.inl rfl) ?_
  refine r_iconst (pc := 8) hX (-1) dX2_isSpilled_8 (by decide) ?_
  refine r_icmp_ne (pc := 9) hX 16 dX2_isSpilled_9 (by decide) (fun c9 => ?_) (fun c9 => ?_)
  · refine r_iconst (pc := 16) hX 0 dX2_isSpilled_16 (by decide) ?_
    exact r_ireturn (pc := 17) hX dX2_isSpilled_17 rfl rfl (by first | with_reducible rfl | (simp only [isSpilled_, b2i, eq_false c9, ↓reduceIte, if_true, if_false, decide_true, decide_false, eq_self, b2i_t, b2i_f, Bool.false_eq_true, and_true, true_and, and_false, false_and, or_true, true_or, or_false, false_or, not_true_eq_false, not_false_eq_true] <;> rfl) | simp [isSpilled_, b2i, eq_false c9]) rfl
  · refine r_iconst (pc := 12) hX 1 dX2_isSpilled_12 (by decide) ?_
    refine r_goto (pc := 13) hX (tgt := 17) dX2_isSpilled_13 (by decide) ?_
    exact r_ireturn (pc := 17) hX dX2_isSpilled_17 rfl rfl (by first | with_reducible rfl | (simp only [isSpilled_, b2i, eq_true c9, ↓reduceIte, if_true, if_false, decide_true, decide_false, eq_self, b2i_t, b2i_f, Bool.false_eq_true, and_true, true_and, and_false, false_and, or_true, true_or, or_false, false_or, not_true_eq_false, not_false_eq_true] <;> rfl) | simp [isSpilled_, b2i, eq_true c9]) rfl
set_option maxRecDepth 100000 in
set_option maxHeartbeats 1000000 in
theorem sp_X2_isRemade {l : Launch} {k : im_K} {S : im_S} {I : im_I} {a m : Nat} {p0 : Int32} (h : o_X2 S a m) : im_Runs l k 1 mX2_isRemade [.ref a, .int p0] (S, I) (some (.int (b2i (isRemade_ I a p0)))) (S, I) := by
  refine im_run (by decide +kernel) ⟨Nat.le_refl _, Nat.le_refl _⟩ (Nat.le_of_ble_eq_true rfl) ?_
  intro X hl hX hxn hxz hxc hxs
  subst hl
  change im_E X k _ 0 [some (.ref a), some (.int p0)] [] S I
  refine r_aload_n (pc := 0) hX dX2_isRemade_0 rfl ?_
  refine r_getr (pc := 1) hX dX2_isRemade_1 fl_X2_22 rfl (o_X2_k h) (o_X2_r7 h) ?_
  refine r_iload_n (pc := 4) hX dX2_isRemade_4 rfl ?_
  refine r_callSN (Z := mX11_at) (pc := 5) hX dX2_isRemade_5 mn_X2_121 mX11_at_w (sp_X11_at (o_X2_a7 h)) rfl rfl (Nat.le_of_ble_eq_true rfl) (by decide) rfl (Or.inl rfl) ?_
  refine r_iconst (pc := 8) hX 1 dX2_isRemade_8 (by decide) ?_
  refine r_icmp_ne (pc := 9) hX 16 dX2_isRemade_9 (by decide) (fun c9 => ?_) (fun c9 => ?_)
  · refine r_iconst (pc := 16) hX 0 dX2_isRemade_16 (by decide) ?_
    exact r_ireturn (pc := 17) hX dX2_isRemade_17 rfl rfl (by first | with_reducible rfl | (simp only [isRemade_, b2i, eq_false c9, ↓reduceIte, if_true, if_false, decide_true, decide_false, eq_self, b2i_t, b2i_f, Bool.false_eq_true, and_true, true_and, and_false, false_and, or_true, true_or, or_false, false_or, not_true_eq_false, not_false_eq_true] <;> rfl) | simp [isRemade_, b2i, eq_false c9]) rfl
  · refine r_iconst (pc := 12) hX 1 dX2_isRemade_12 (by decide) ?_
    refine r_goto (pc := 13) hX (tgt := 17) dX2_isRemade_13 (by decide) ?_
    exact r_ireturn (pc := 17) hX dX2_isRemade_17 rfl rfl (by first | with_reducible rfl | (simp only [isRemade_, b2i, eq_true c9, ↓reduceIte, if_true, if_false, decide_true, decide_false, eq_self, b2i_t, b2i_f, Bool.false_eq_true, and_true, true_and, and_false, false_and, or_true, true_or, or_false, false_or, not_true_eq_false, not_false_eq_true] <;> rfl) | simp [isRemade_, b2i, eq_true c9]) rfl
set_option maxRecDepth 100000 in
set_option maxHeartbeats 1000000 in
theorem sp_X2_isBirth {l : Launch} {k : im_K} {S : im_S} {I : im_I} {b0 : Nat} {b1 : Nat} {p2 : Int32} (hb0 : o_X3 S b0) (hb1 : o_X4 S b1) : im_Runs l k 2 mX2_isBirth [.ref b0, .ref b1, .int p2] (S, I) (some (.int (b2i (isBirth_ I b0 b1 p2)))) (S, I) := by
  refine im_run (by decide +kernel) ⟨Nat.le_refl _, Nat.le_refl _⟩ (Nat.le_of_ble_eq_true rfl) ?_
  intro X hl hX hxn hxz hxc hxs
  subst hl
  change im_E X k _ 0 [some (.ref b0), some (.ref b1), some (.int p2)] [] S I
  refine r_aload_n (pc := 0) hX dX2_isBirth_0 rfl ?_
  refine r_aload_n (pc := 1) hX dX2_isBirth_1 rfl ?_
  refine r_iload_n (pc := 2) hX dX2_isBirth_2 rfl ?_
  refine r_callV (Z := mX3_writtenBy) (t := 3) (pc := 3) hX dX2_isBirth_3 ml_X2_58 mX3_writtenBy_w ⟨by decide, rfl⟩ (o_X3_k hb0) (sp_X3_writtenBy hb0) rfl rfl (Nat.le_of_ble_eq_true rfl) (by decide) rfl (Or.inl rfl) ?_
  refine r_callV (Z := mX4_firstOf) (t := 4) (pc := 6) hX dX2_isBirth_6 ml_X2_80 mX4_firstOf_w ⟨by decide, rfl⟩ (o_X4_k hb1) (sp_X4_firstOf hb1) rfl rfl (Nat.le_of_ble_eq_true rfl) (by decide) rfl (Or.inl rfl) ?_
  refine r_iload_n (pc := 9) hX dX2_isBirth_9 rfl ?_
  refine r_icmp_ne (pc := 10) hX 17 dX2_isBirth_10 (by decide) (fun c10 => ?_) (fun c10 => ?_)
  · refine r_iconst (pc := 17) hX 0 dX2_isBirth_17 (by decide) ?_
    exact r_ireturn (pc := 18) hX dX2_isBirth_18 rfl rfl (by first | with_reducible rfl | (simp only [isBirth_, b2i, eq_false c10, ↓reduceIte, if_true, if_false, decide_true, decide_false, eq_self, b2i_t, b2i_f, Bool.false_eq_true, and_true, true_and, and_false, false_and, or_true, true_or, or_false, false_or, not_true_eq_false, not_false_eq_true] <;> rfl) | simp [isBirth_, b2i, eq_false c10]) rfl
  · refine r_iconst (pc := 13) hX 1 dX2_isBirth_13 (by decide) ?_
    refine r_goto (pc := 14) hX (tgt := 18) dX2_isBirth_14 (by decide) ?_
    exact r_ireturn (pc := 18) hX dX2_isBirth_18 rfl rfl (by first | with_reducible rfl | (simp only [isBirth_, b2i, eq_true c10, ↓reduceIte, if_true, if_false, decide_true, decide_false, eq_self, b2i_t, b2i_f, Bool.false_eq_true, and_true, true_and, and_false, false_and, or_true, true_or, or_false, false_or, not_true_eq_false, not_false_eq_true] <;> rfl) | simp [isBirth_, b2i, eq_true c10]) rfl
set_option maxRecDepth 100000 in
set_option maxHeartbeats 1000000 in
theorem sp_X2_isLighter {l : Launch} {k : im_K} {S : im_S} {I : im_I} {b0 : Nat} {p1 : Int32} {p2 : Int32} (hb0 : o_X4 S b0) : im_Runs l k 1 mX2_isLighter [.ref b0, .int p1, .int p2] (S, I) (some (.int (b2i (isLighter_ I b0 p1 p2)))) (S, I) := by
  refine im_run (by decide +kernel) ⟨Nat.le_refl _, Nat.le_refl _⟩ (Nat.le_of_ble_eq_true rfl) ?_
  intro X hl hX hxn hxz hxc hxs
  subst hl
  change im_E X k _ 0 [some (.ref b0), some (.int p1), some (.int p2), none] [] S I
  refine r_aload_n (pc := 0) hX dX2_isLighter_0 rfl ?_
  refine r_getr (pc := 1) hX dX2_isLighter_1 fl_X2_146 rfl (o_X4_k hb0) (o_X4_r7 hb0) ?_
  refine r_iload_n (pc := 4) hX dX2_isLighter_4 rfl ?_
  refine r_callSN (Z := mX11_at) (pc := 5) hX dX2_isLighter_5 mn_X2_121 mX11_at_w (sp_X11_at (o_X4_a7 hb0)) rfl rfl (Nat.le_of_ble_eq_true rfl) (by decide) rfl (Or.inl rfl) ?_
  refine r_aload_n (pc := 8) hX dX2_isLighter_8 rfl ?_
  refine r_getr (pc := 9) hX dX2_isLighter_9 fl_X2_146 rfl (o_X4_k hb0) (o_X4_r7 hb0) ?_
  refine r_iload_n (pc := 12) hX dX2_isLighter_12 rfl ?_
  refine r_callSN (Z := mX11_at) (pc := 13) hX dX2_isLighter_13 mn_X2_121 mX11_at_w (sp_X11_at (o_X4_a7 hb0)) rfl rfl (Nat.le_of_ble_eq_true rfl) (by decide) rfl (Or.inl rfl) ?_
  refine r_isub (pc := 16) hX dX2_isLighter_16 ?_
  refine r_istore_n (pc := 17) hX (L' := [_, _, _, _]) dX2_isLighter_17 rfl rfl (Nat.le_of_ble_eq_true rfl) ?_
  refine r_iload_n (pc := 18) hX dX2_isLighter_18 rfl ?_
  refine r_if_lt (pc := 19) hX 31 dX2_isLighter_19 (by decide) (fun c19 => ?_) (fun c19 => ?_)
  · have c19d := Int32.not_le.mpr c19
    refine r_iconst (pc := 31) hX 1 dX2_isLighter_31 (by decide) ?_
    refine r_goto (pc := 32) hX (tgt := 36) dX2_isLighter_32 (by decide) ?_
    exact r_ireturn (pc := 36) hX dX2_isLighter_36 rfl rfl (by first | with_reducible rfl | (simp only [isLighter_, b2i, eq_true c19, eq_false c19d, ↓reduceIte, if_true, if_false, decide_true, decide_false, eq_self, b2i_t, b2i_f, Bool.false_eq_true, and_true, true_and, and_false, false_and, or_true, true_or, or_false, false_or, not_true_eq_false, not_false_eq_true] <;> rfl) | simp [isLighter_, b2i, eq_true c19, eq_false c19d]) rfl
  · have c19d := Int32.not_lt.mp c19
    refine r_iload_n (pc := 22) hX dX2_isLighter_22 rfl ?_
    refine r_if_ne (pc := 23) hX 35 dX2_isLighter_23 (by decide) (fun c23 => ?_) (fun c23 => ?_)
    · refine r_iconst (pc := 35) hX 0 dX2_isLighter_35 (by decide) ?_
      exact r_ireturn (pc := 36) hX dX2_isLighter_36 rfl rfl (by first | with_reducible rfl | (simp only [isLighter_, b2i, eq_false c19, eq_true c19d, eq_false c23, ↓reduceIte, if_true, if_false, decide_true, decide_false, eq_self, b2i_t, b2i_f, Bool.false_eq_true, and_true, true_and, and_false, false_and, or_true, true_or, or_false, false_or, not_true_eq_false, not_false_eq_true] <;> rfl) | simp [isLighter_, b2i, eq_false c19, eq_true c19d, eq_false c23]) rfl
    · refine r_iload_n (pc := 26) hX dX2_isLighter_26 rfl ?_
      refine r_iload_n (pc := 27) hX dX2_isLighter_27 rfl ?_
      refine r_icmp_le (pc := 28) hX 35 dX2_isLighter_28 (by decide) (fun c28 => ?_) (fun c28 => ?_)
      · have c28d := Int32.not_lt.mpr c28
        refine r_iconst (pc := 35) hX 0 dX2_isLighter_35 (by decide) ?_
        exact r_ireturn (pc := 36) hX dX2_isLighter_36 rfl rfl (by first | with_reducible rfl | (simp only [isLighter_, b2i, eq_false c19, eq_true c19d, eq_true c23, eq_true c28, eq_false c28d, ↓reduceIte, if_true, if_false, decide_true, decide_false, eq_self, b2i_t, b2i_f, Bool.false_eq_true, and_true, true_and, and_false, false_and, or_true, true_or, or_false, false_or, not_true_eq_false, not_false_eq_true] <;> rfl) | simp [isLighter_, b2i, eq_false c19, eq_true c19d, eq_true c23, eq_true c28, eq_false c28d]) rfl
      · have c28d := Int32.not_le.mp c28
        refine r_iconst (pc := 31) hX 1 dX2_isLighter_31 (by decide) ?_
        refine r_goto (pc := 32) hX (tgt := 36) dX2_isLighter_32 (by decide) ?_
        exact r_ireturn (pc := 36) hX dX2_isLighter_36 rfl rfl (by first | with_reducible rfl | (simp only [isLighter_, b2i, eq_false c19, eq_true c19d, eq_true c23, eq_false c28, eq_true c28d, ↓reduceIte, if_true, if_false, decide_true, decide_false, eq_self, b2i_t, b2i_f, Bool.false_eq_true, and_true, true_and, and_false, false_and, or_true, true_or, or_false, false_or, not_true_eq_false, not_false_eq_true] <;> rfl) | simp [isLighter_, b2i, eq_false c19, eq_true c19d, eq_true c23, eq_false c28, eq_true c28d]) rfl
set_option maxRecDepth 100000 in
set_option maxHeartbeats 1000000 in
theorem sp_X2_takenBehind {l : Launch} {k : im_K} {S : im_S} {I : im_I} {a m : Nat} {b0 : Nat} {p1 : Int32} (h : o_X2 S a m) (hb0 : o_X4 S b0) : im_Runs l k 2 mX2_takenBehind [.ref a, .ref b0, .int p1] (S, I) (some (.int (takenBehind_ I a b0 p1))) (S, I) := by
  refine im_run (by decide +kernel) ⟨Nat.le_refl _, Nat.le_refl _⟩ (Nat.le_of_ble_eq_true rfl) ?_
  intro X hl hX hxn hxz hxc hxs
  subst hl
  change im_E X k _ 0 [some (.ref a), some (.ref b0), some (.int p1), none, none, none] [] S I
  refine r_iconst (pc := 0) hX 0 dX2_takenBehind_0 (by decide) ?_
  refine r_istore_n (pc := 1) hX (L' := [_, _, _, _, _, _]) dX2_takenBehind_1 rfl rfl (Nat.le_of_ble_eq_true rfl) ?_
  refine r_iconst (pc := 2) hX 0 dX2_takenBehind_2 (by decide) ?_
  refine r_istore (pc := 3) hX (L' := [_, _, _, _, _, _]) dX2_takenBehind_3 rfl rfl (Nat.le_of_ble_eq_true rfl) ?_
  have hL5 : ∀ (w1 : Nat) (i1 : Int32) (J1 : Int32), cnt i1 (I b0 0) = w1 → loopN w1 i1 (takenOne_ I a b0 p1) J1 = loopN (cnt (0) (I b0 0)) (0) (takenOne_ I a b0 p1) (0) → im_E X k (im_Q X k (some (.int (takenBehind_ I a b0 p1))) (S, I)) 5 [some (.ref a), some (.ref b0), some (.int p1), some (.int J1), some (.int i1), none] [] S I := by
    intro w1
    induction w1 with
    | zero =>
      intro i1 J1  hm1 hR1
      refine r_iload (pc := 5) hX dX2_takenBehind_5 rfl ?_
      refine r_aload_n (pc := 7) hX dX2_takenBehind_7 rfl ?_
      refine r_geti (pc := 8) hX dX2_takenBehind_8 fl_X2_69 rfl (o_X4_k hb0) ?_
      refine r_icmp_ge (pc := 11) hX 55 dX2_takenBehind_11 (by decide) (fun c11 => ?_) (fun c11 => ?_)
      · have c11d := Int32.not_lt.mpr c11
        rw [loopN_0] at hR1
        subst hR1
        refine r_iload_n (pc := 55) hX dX2_takenBehind_55 rfl ?_
        exact r_ireturn (pc := 56) hX dX2_takenBehind_56 rfl rfl (by first | with_reducible rfl | (simp only [takenBehind_, loopC, eq_true c11, eq_false c11d, ↓reduceIte, if_true, if_false, decide_true, decide_false, eq_self, b2i_t, b2i_f, Bool.false_eq_true, and_true, true_and, and_false, false_and, or_true, true_or, or_false, false_or, not_true_eq_false, not_false_eq_true] <;> rfl) | simp [takenBehind_, loopC, eq_true c11, eq_false c11d]) rfl
      · have c11d := Int32.not_le.mp c11
        exact (cnt_ex hm1  c11).elim
    | succ w1 ih1 =>
      intro i1 J1  hm1 hR1
      refine r_iload (pc := 5) hX dX2_takenBehind_5 rfl ?_
      refine r_aload_n (pc := 7) hX dX2_takenBehind_7 rfl ?_
      refine r_geti (pc := 8) hX dX2_takenBehind_8 fl_X2_69 rfl (o_X4_k hb0) ?_
      refine r_icmp_ge (pc := 11) hX 55 dX2_takenBehind_11 (by decide) (fun c11 => ?_) (fun c11 => ?_)
      · have c11d := Int32.not_lt.mpr c11
        exact (cnt_go hm1  c11).elim
      · have c11d := Int32.not_le.mp c11
        refine r_aload_n (pc := 14) hX dX2_takenBehind_14 rfl ?_
        refine r_getr (pc := 15) hX dX2_takenBehind_15 fl_X2_15 rfl (o_X2_k h) (o_X2_r5 h) ?_
        refine r_iload (pc := 18) hX dX2_takenBehind_18 rfl ?_
        refine r_callSN (Z := mX11_at) (pc := 20) hX dX2_takenBehind_20 mn_X2_121 mX11_at_w (sp_X11_at (o_X2_a5 h)) rfl rfl (Nat.le_of_ble_eq_true rfl) (by decide) rfl (Or.inl rfl) ?_
        refine r_istore (pc := 23) hX (L' := [_, _, _, _, _, _]) dX2_takenBehind_23 rfl rfl (Nat.le_of_ble_eq_true rfl) ?_
        refine r_iload (pc := 25) hX dX2_takenBehind_25 rfl ?_
        refine r_iconst (pc := 27) hX (-1) dX2_takenBehind_27 (by decide) ?_
        refine r_icmp_eq (pc := 28) hX 49 dX2_takenBehind_28 (by decide) (fun c28 => ?_) (fun c28 => ?_)
        · refine r_iinc (pc := 49) hX 1 (L' := [_, _, _, _, _, _]) dX2_takenBehind_49 rfl (by decide) rfl rfl ?_
          refine r_goto (pc := 52) hX (tgt := 5) dX2_takenBehind_52 (by decide) ?_
          refine r_weak (L' := [some _, some _, some _, some _, some _, none]) (And.intro rfl (And.intro rfl (And.intro rfl (And.intro rfl (And.intro rfl trivial))))) ?_
          exact ih1 _ _  (cnt_nx hm1) (by refine Eq.trans (congrArg (loopN w1 (i1 + 1) (takenOne_ I a b0 p1)) ?_) (loopN_s.symm.trans hR1); exact (by first | with_reducible rfl | (simp only [takenOne_, eq_false c11, eq_true c11d, eq_true c28, ↓reduceIte, if_true, if_false, decide_true, decide_false, eq_self, b2i_t, b2i_f, Bool.false_eq_true, and_true, true_and, and_false, false_and, or_true, true_or, or_false, false_or, not_true_eq_false, not_false_eq_true] <;> rfl) | simp [takenOne_, eq_false c11, eq_true c11d, eq_true c28]))
        · refine r_aload_n (pc := 31) hX dX2_takenBehind_31 rfl ?_
          refine r_iload (pc := 32) hX dX2_takenBehind_32 rfl ?_
          refine r_callV (Z := mX4_lastOf) (t := 4) (pc := 34) hX dX2_takenBehind_34 ml_X2_125 mX4_lastOf_w ⟨by decide, rfl⟩ (o_X4_k hb0) (sp_X4_lastOf hb0) rfl rfl (Nat.le_of_ble_eq_true rfl) (by decide) rfl (Or.inl rfl) ?_
          refine r_iload_n (pc := 37) hX dX2_takenBehind_37 rfl ?_
          refine r_icmp_le (pc := 38) hX 49 dX2_takenBehind_38 (by decide) (fun c38 => ?_) (fun c38 => ?_)
          · have c38d := Int32.not_lt.mpr c38
            refine r_iinc (pc := 49) hX 1 (L' := [_, _, _, _, _, _]) dX2_takenBehind_49 rfl (by decide) rfl rfl ?_
            refine r_goto (pc := 52) hX (tgt := 5) dX2_takenBehind_52 (by decide) ?_
            refine r_weak (L' := [some _, some _, some _, some _, some _, none]) (And.intro rfl (And.intro rfl (And.intro rfl (And.intro rfl (And.intro rfl trivial))))) ?_
            exact ih1 _ _  (cnt_nx hm1) (by refine Eq.trans (congrArg (loopN w1 (i1 + 1) (takenOne_ I a b0 p1)) ?_) (loopN_s.symm.trans hR1); exact (by first | with_reducible rfl | (simp only [takenOne_, eq_false c11, eq_true c11d, eq_false c28, eq_true c38, eq_false c38d, ↓reduceIte, if_true, if_false, decide_true, decide_false, eq_self, b2i_t, b2i_f, Bool.false_eq_true, and_true, true_and, and_false, false_and, or_true, true_or, or_false, false_or, not_true_eq_false, not_false_eq_true] <;> rfl) | simp [takenOne_, eq_false c11, eq_true c11d, eq_false c28, eq_true c38, eq_false c38d]))
          · have c38d := Int32.not_le.mp c38
            refine r_iload_n (pc := 41) hX dX2_takenBehind_41 rfl ?_
            refine r_iload (pc := 42) hX dX2_takenBehind_42 rfl ?_
            refine r_callSN (Z := mX11_bit) (pc := 44) hX dX2_takenBehind_44 mn_X2_95 mX11_bit_w (sp_X11_bit) rfl rfl (Nat.le_of_ble_eq_true rfl) (by decide) rfl (Or.inl rfl) ?_
            refine r_ior (pc := 47) hX dX2_takenBehind_47 ?_
            refine r_istore_n (pc := 48) hX (L' := [_, _, _, _, _, _]) dX2_takenBehind_48 rfl rfl (Nat.le_of_ble_eq_true rfl) ?_
            refine r_iinc (pc := 49) hX 1 (L' := [_, _, _, _, _, _]) dX2_takenBehind_49 rfl (by decide) rfl rfl ?_
            refine r_goto (pc := 52) hX (tgt := 5) dX2_takenBehind_52 (by decide) ?_
            refine r_weak (L' := [some _, some _, some _, some _, some _, none]) (And.intro rfl (And.intro rfl (And.intro rfl (And.intro rfl (And.intro rfl trivial))))) ?_
            exact ih1 _ _  (cnt_nx hm1) (by refine Eq.trans (congrArg (loopN w1 (i1 + 1) (takenOne_ I a b0 p1)) ?_) (loopN_s.symm.trans hR1); exact (by first | with_reducible rfl | (simp only [takenOne_, eq_false c11, eq_true c11d, eq_false c28, eq_false c38, eq_true c38d, ↓reduceIte, if_true, if_false, decide_true, decide_false, eq_self, b2i_t, b2i_f, Bool.false_eq_true, and_true, true_and, and_false, false_and, or_true, true_or, or_false, false_or, not_true_eq_false, not_false_eq_true] <;> rfl) | simp [takenOne_, eq_false c11, eq_true c11d, eq_false c28, eq_false c38, eq_true c38d]))
  exact hL5 (cnt (0) (I b0 0)) (0) (0)  rfl rfl
set_option maxRecDepth 100000 in
set_option maxHeartbeats 1000000 in
theorem sp_X2_likedRegister {l : Launch} {k : im_K} {S : im_S} {I : im_I} {a m : Nat} {b0 : Nat} {p1 : Int32} (h : o_X2 S a m) (hb0 : o_X3 S b0) : im_Runs l k 2 mX2_likedRegister [.ref a, .ref b0, .int p1] (S, I) (some (.int (likedRegister_ I a m b0 p1))) (S, I) := by
  refine im_run (by decide +kernel) ⟨Nat.le_refl _, Nat.le_refl _⟩ (Nat.le_of_ble_eq_true rfl) ?_
  intro X hl hX hxn hxz hxc hxs
  subst hl
  change im_E X k _ 0 [some (.ref a), some (.ref b0), some (.int p1), none, none] [] S I
  refine r_aload_n (pc := 0) hX dX2_likedRegister_0 rfl ?_
  refine r_iload_n (pc := 1) hX dX2_likedRegister_1 rfl ?_
  refine r_callV (Z := mX3_kindOf) (t := 3) (pc := 2) hX dX2_likedRegister_2 ml_X2_128 mX3_kindOf_w ⟨by decide, rfl⟩ (o_X3_k hb0) (sp_X3_kindOf hb0) rfl rfl (Nat.le_of_ble_eq_true rfl) (by decide) rfl (Or.inl rfl) ?_
  refine r_istore_n (pc := 5) hX (L' := [_, _, _, _, _]) dX2_likedRegister_5 rfl rfl (Nat.le_of_ble_eq_true rfl) ?_
  refine r_aload_n (pc := 6) hX dX2_likedRegister_6 rfl ?_
  refine r_getr (pc := 7) hX dX2_likedRegister_7 fl_X2_9 rfl (o_X2_k h) (o_X2_r4 h) ?_
  refine r_geti (pc := 10) hX dX2_likedRegister_10 fl_X2_131 rfl (o_X5_k (o_X2_o4 h)) ?_
  refine r_if_eq (pc := 13) hX 35 dX2_likedRegister_13 (by decide) (fun c13 => ?_) (fun c13 => ?_)
  · refine r_iconst (pc := 35) hX 0 dX2_likedRegister_35 (by decide) ?_
    refine r_istore (pc := 36) hX (L' := [_, _, _, _, _]) dX2_likedRegister_36 rfl rfl (Nat.le_of_ble_eq_true rfl) ?_
    refine r_iload_n (pc := 38) hX dX2_likedRegister_38 rfl ?_
    refine r_iconst (pc := 39) hX 1 dX2_likedRegister_39 (by decide) ?_
    refine r_icmp_eq (pc := 40) hX 48 dX2_likedRegister_40 (by decide) (fun c40 => ?_) (fun c40 => ?_)
    · refine r_aload_n (pc := 48) hX dX2_likedRegister_48 rfl ?_
      refine r_aload_n (pc := 49) hX dX2_likedRegister_49 rfl ?_
      refine r_iload_n (pc := 50) hX dX2_likedRegister_50 rfl ?_
      refine r_iconst (pc := 51) hX 0 dX2_likedRegister_51 (by decide) ?_
      refine r_callV (Z := mX3_readBy) (t := 3) (pc := 52) hX dX2_likedRegister_52 ml_X2_135 mX3_readBy_w ⟨by decide, rfl⟩ (o_X3_k hb0) (sp_X3_readBy hb0) rfl rfl (Nat.le_of_ble_eq_true rfl) (by decide) rfl (Or.inl rfl) ?_
      refine r_callV (Z := mX2_registerOf) (t := 2) (pc := 55) hX dX2_likedRegister_55 ml_X2_139 mX2_registerOf_w ⟨by decide, rfl⟩ (o_X2_k h) (sp_X2_registerOf h) rfl rfl (Nat.le_of_ble_eq_true rfl) (by decide) rfl (Or.inl rfl) ?_
      refine r_goto (pc := 58) hX (tgt := 62) dX2_likedRegister_58 (by decide) ?_
      exact r_ireturn (pc := 62) hX dX2_likedRegister_62 rfl rfl (by first | with_reducible rfl | (simp only [likedRegister_, eq_true c13, eq_true c40, ↓reduceIte, if_true, if_false, decide_true, decide_false, eq_self, b2i_t, b2i_f, Bool.false_eq_true, and_true, true_and, and_false, false_and, or_true, true_or, or_false, false_or, not_true_eq_false, not_false_eq_true] <;> rfl) | simp [likedRegister_, eq_true c13, eq_true c40]) rfl
    · refine r_iload (pc := 43) hX dX2_likedRegister_43 rfl ?_
      refine r_if_eq (pc := 45) hX 61 dX2_likedRegister_45 (by decide) (fun c45 => ?_) (fun c45 => ?_)
      · refine r_iconst (pc := 61) hX (-1) dX2_likedRegister_61 (by decide) ?_
        exact r_ireturn (pc := 62) hX dX2_likedRegister_62 rfl rfl (by first | with_reducible rfl | (simp only [likedRegister_, eq_true c13, eq_false c40, ↓reduceIte, if_true, if_false, decide_true, decide_false, eq_self, b2i_t, b2i_f, Bool.false_eq_true, and_true, true_and, and_false, false_and, or_true, true_or, or_false, false_or, not_true_eq_false, not_false_eq_true] <;> rfl) | simp [likedRegister_, eq_true c13, eq_false c40]) rfl
      · exact absurd c45 (by decide)
  · refine r_iload_n (pc := 16) hX dX2_likedRegister_16 rfl ?_
    refine r_iconst (pc := 17) hX 2 dX2_likedRegister_17 (by decide) ?_
    refine r_icmp_eq (pc := 18) hX 31 dX2_likedRegister_18 (by decide) (fun c18 => ?_) (fun c18 => ?_)
    · refine r_iconst (pc := 31) hX 1 dX2_likedRegister_31 (by decide) ?_
      refine r_goto (pc := 32) hX (tgt := 36) dX2_likedRegister_32 (by decide) ?_
      refine r_istore (pc := 36) hX (L' := [_, _, _, _, _]) dX2_likedRegister_36 rfl rfl (Nat.le_of_ble_eq_true rfl) ?_
      refine r_iload_n (pc := 38) hX dX2_likedRegister_38 rfl ?_
      refine r_iconst (pc := 39) hX 1 dX2_likedRegister_39 (by decide) ?_
      refine r_icmp_eq (pc := 40) hX 48 dX2_likedRegister_40 (by decide) (fun c40 => ?_) (fun c40 => ?_)
      · exact absurd (c18.symm.trans c40) (by decide)
      · refine r_iload (pc := 43) hX dX2_likedRegister_43 rfl ?_
        refine r_if_eq (pc := 45) hX 61 dX2_likedRegister_45 (by decide) (fun c45 => ?_) (fun c45 => ?_)
        · exact absurd c45 (by decide)
        · refine r_aload_n (pc := 48) hX dX2_likedRegister_48 rfl ?_
          refine r_aload_n (pc := 49) hX dX2_likedRegister_49 rfl ?_
          refine r_iload_n (pc := 50) hX dX2_likedRegister_50 rfl ?_
          refine r_iconst (pc := 51) hX 0 dX2_likedRegister_51 (by decide) ?_
          refine r_callV (Z := mX3_readBy) (t := 3) (pc := 52) hX dX2_likedRegister_52 ml_X2_135 mX3_readBy_w ⟨by decide, rfl⟩ (o_X3_k hb0) (sp_X3_readBy hb0) rfl rfl (Nat.le_of_ble_eq_true rfl) (by decide) rfl (Or.inl rfl) ?_
          refine r_callV (Z := mX2_registerOf) (t := 2) (pc := 55) hX dX2_likedRegister_55 ml_X2_139 mX2_registerOf_w ⟨by decide, rfl⟩ (o_X2_k h) (sp_X2_registerOf h) rfl rfl (Nat.le_of_ble_eq_true rfl) (by decide) rfl (Or.inl rfl) ?_
          refine r_goto (pc := 58) hX (tgt := 62) dX2_likedRegister_58 (by decide) ?_
          exact r_ireturn (pc := 62) hX dX2_likedRegister_62 rfl rfl (by first | with_reducible rfl | (simp only [likedRegister_, eq_false c13, eq_true c18, eq_false c40, ↓reduceIte, if_true, if_false, decide_true, decide_false, eq_self, b2i_t, b2i_f, Bool.false_eq_true, and_true, true_and, and_false, false_and, or_true, true_or, or_false, false_or, not_true_eq_false, not_false_eq_true] <;> rfl) | simp [likedRegister_, eq_false c13, eq_true c18, eq_false c40]) rfl
    · refine r_iload_n (pc := 21) hX dX2_likedRegister_21 rfl ?_
      refine r_iconst (pc := 22) hX 3 dX2_likedRegister_22 (by decide) ?_
      refine r_icmp_eq (pc := 23) hX 31 dX2_likedRegister_23 (by decide) (fun c23 => ?_) (fun c23 => ?_)
      · refine r_iconst (pc := 31) hX 1 dX2_likedRegister_31 (by decide) ?_
        refine r_goto (pc := 32) hX (tgt := 36) dX2_likedRegister_32 (by decide) ?_
        refine r_istore (pc := 36) hX (L' := [_, _, _, _, _]) dX2_likedRegister_36 rfl rfl (Nat.le_of_ble_eq_true rfl) ?_
        refine r_iload_n (pc := 38) hX dX2_likedRegister_38 rfl ?_
        refine r_iconst (pc := 39) hX 1 dX2_likedRegister_39 (by decide) ?_
        refine r_icmp_eq (pc := 40) hX 48 dX2_likedRegister_40 (by decide) (fun c40 => ?_) (fun c40 => ?_)
        · exact absurd (c23.symm.trans c40) (by decide)
        · refine r_iload (pc := 43) hX dX2_likedRegister_43 rfl ?_
          refine r_if_eq (pc := 45) hX 61 dX2_likedRegister_45 (by decide) (fun c45 => ?_) (fun c45 => ?_)
          · exact absurd c45 (by decide)
          · refine r_aload_n (pc := 48) hX dX2_likedRegister_48 rfl ?_
            refine r_aload_n (pc := 49) hX dX2_likedRegister_49 rfl ?_
            refine r_iload_n (pc := 50) hX dX2_likedRegister_50 rfl ?_
            refine r_iconst (pc := 51) hX 0 dX2_likedRegister_51 (by decide) ?_
            refine r_callV (Z := mX3_readBy) (t := 3) (pc := 52) hX dX2_likedRegister_52 ml_X2_135 mX3_readBy_w ⟨by decide, rfl⟩ (o_X3_k hb0) (sp_X3_readBy hb0) rfl rfl (Nat.le_of_ble_eq_true rfl) (by decide) rfl (Or.inl rfl) ?_
            refine r_callV (Z := mX2_registerOf) (t := 2) (pc := 55) hX dX2_likedRegister_55 ml_X2_139 mX2_registerOf_w ⟨by decide, rfl⟩ (o_X2_k h) (sp_X2_registerOf h) rfl rfl (Nat.le_of_ble_eq_true rfl) (by decide) rfl (Or.inl rfl) ?_
            refine r_goto (pc := 58) hX (tgt := 62) dX2_likedRegister_58 (by decide) ?_
            exact r_ireturn (pc := 62) hX dX2_likedRegister_62 rfl rfl (by first | with_reducible rfl | (simp only [likedRegister_, eq_false c13, eq_false c18, eq_true c23, eq_false c40, ↓reduceIte, if_true, if_false, decide_true, decide_false, eq_self, b2i_t, b2i_f, Bool.false_eq_true, and_true, true_and, and_false, false_and, or_true, true_or, or_false, false_or, not_true_eq_false, not_false_eq_true] <;> rfl) | simp [likedRegister_, eq_false c13, eq_false c18, eq_true c23, eq_false c40]) rfl
      · refine r_iload_n (pc := 26) hX dX2_likedRegister_26 rfl ?_
        refine r_iconst (pc := 27) hX 4 dX2_likedRegister_27 (by decide) ?_
        refine r_icmp_ne (pc := 28) hX 35 dX2_likedRegister_28 (by decide) (fun c28 => ?_) (fun c28 => ?_)
        · refine r_iconst (pc := 35) hX 0 dX2_likedRegister_35 (by decide) ?_
          refine r_istore (pc := 36) hX (L' := [_, _, _, _, _]) dX2_likedRegister_36 rfl rfl (Nat.le_of_ble_eq_true rfl) ?_
          refine r_iload_n (pc := 38) hX dX2_likedRegister_38 rfl ?_
          refine r_iconst (pc := 39) hX 1 dX2_likedRegister_39 (by decide) ?_
          refine r_icmp_eq (pc := 40) hX 48 dX2_likedRegister_40 (by decide) (fun c40 => ?_) (fun c40 => ?_)
          · refine r_aload_n (pc := 48) hX dX2_likedRegister_48 rfl ?_
            refine r_aload_n (pc := 49) hX dX2_likedRegister_49 rfl ?_
            refine r_iload_n (pc := 50) hX dX2_likedRegister_50 rfl ?_
            refine r_iconst (pc := 51) hX 0 dX2_likedRegister_51 (by decide) ?_
            refine r_callV (Z := mX3_readBy) (t := 3) (pc := 52) hX dX2_likedRegister_52 ml_X2_135 mX3_readBy_w ⟨by decide, rfl⟩ (o_X3_k hb0) (sp_X3_readBy hb0) rfl rfl (Nat.le_of_ble_eq_true rfl) (by decide) rfl (Or.inl rfl) ?_
            refine r_callV (Z := mX2_registerOf) (t := 2) (pc := 55) hX dX2_likedRegister_55 ml_X2_139 mX2_registerOf_w ⟨by decide, rfl⟩ (o_X2_k h) (sp_X2_registerOf h) rfl rfl (Nat.le_of_ble_eq_true rfl) (by decide) rfl (Or.inl rfl) ?_
            refine r_goto (pc := 58) hX (tgt := 62) dX2_likedRegister_58 (by decide) ?_
            exact r_ireturn (pc := 62) hX dX2_likedRegister_62 rfl rfl (by first | with_reducible rfl | (simp only [likedRegister_, eq_false c13, eq_false c18, eq_false c23, eq_false c28, eq_true c40, ↓reduceIte, if_true, if_false, decide_true, decide_false, eq_self, b2i_t, b2i_f, Bool.false_eq_true, and_true, true_and, and_false, false_and, or_true, true_or, or_false, false_or, not_true_eq_false, not_false_eq_true] <;> rfl) | simp [likedRegister_, eq_false c13, eq_false c18, eq_false c23, eq_false c28, eq_true c40]) rfl
          · refine r_iload (pc := 43) hX dX2_likedRegister_43 rfl ?_
            refine r_if_eq (pc := 45) hX 61 dX2_likedRegister_45 (by decide) (fun c45 => ?_) (fun c45 => ?_)
            · refine r_iconst (pc := 61) hX (-1) dX2_likedRegister_61 (by decide) ?_
              exact r_ireturn (pc := 62) hX dX2_likedRegister_62 rfl rfl (by first | with_reducible rfl | (simp only [likedRegister_, eq_false c13, eq_false c18, eq_false c23, eq_false c28, eq_false c40, ↓reduceIte, if_true, if_false, decide_true, decide_false, eq_self, b2i_t, b2i_f, Bool.false_eq_true, and_true, true_and, and_false, false_and, or_true, true_or, or_false, false_or, not_true_eq_false, not_false_eq_true] <;> rfl) | simp [likedRegister_, eq_false c13, eq_false c18, eq_false c23, eq_false c28, eq_false c40]) rfl
            · exact absurd c45 (by decide)
        · refine r_iconst (pc := 31) hX 1 dX2_likedRegister_31 (by decide) ?_
          refine r_goto (pc := 32) hX (tgt := 36) dX2_likedRegister_32 (by decide) ?_
          refine r_istore (pc := 36) hX (L' := [_, _, _, _, _]) dX2_likedRegister_36 rfl rfl (Nat.le_of_ble_eq_true rfl) ?_
          refine r_iload_n (pc := 38) hX dX2_likedRegister_38 rfl ?_
          refine r_iconst (pc := 39) hX 1 dX2_likedRegister_39 (by decide) ?_
          refine r_icmp_eq (pc := 40) hX 48 dX2_likedRegister_40 (by decide) (fun c40 => ?_) (fun c40 => ?_)
          · exact absurd (c28.symm.trans c40) (by decide)
          · refine r_iload (pc := 43) hX dX2_likedRegister_43 rfl ?_
            refine r_if_eq (pc := 45) hX 61 dX2_likedRegister_45 (by decide) (fun c45 => ?_) (fun c45 => ?_)
            · exact absurd c45 (by decide)
            · refine r_aload_n (pc := 48) hX dX2_likedRegister_48 rfl ?_
              refine r_aload_n (pc := 49) hX dX2_likedRegister_49 rfl ?_
              refine r_iload_n (pc := 50) hX dX2_likedRegister_50 rfl ?_
              refine r_iconst (pc := 51) hX 0 dX2_likedRegister_51 (by decide) ?_
              refine r_callV (Z := mX3_readBy) (t := 3) (pc := 52) hX dX2_likedRegister_52 ml_X2_135 mX3_readBy_w ⟨by decide, rfl⟩ (o_X3_k hb0) (sp_X3_readBy hb0) rfl rfl (Nat.le_of_ble_eq_true rfl) (by decide) rfl (Or.inl rfl) ?_
              refine r_callV (Z := mX2_registerOf) (t := 2) (pc := 55) hX dX2_likedRegister_55 ml_X2_139 mX2_registerOf_w ⟨by decide, rfl⟩ (o_X2_k h) (sp_X2_registerOf h) rfl rfl (Nat.le_of_ble_eq_true rfl) (by decide) rfl (Or.inl rfl) ?_
              refine r_goto (pc := 58) hX (tgt := 62) dX2_likedRegister_58 (by decide) ?_
              exact r_ireturn (pc := 62) hX dX2_likedRegister_62 rfl rfl (by first | with_reducible rfl | (simp only [likedRegister_, eq_false c13, eq_false c18, eq_false c23, eq_true c28, eq_false c40, ↓reduceIte, if_true, if_false, decide_true, decide_false, eq_self, b2i_t, b2i_f, Bool.false_eq_true, and_true, true_and, and_false, false_and, or_true, true_or, or_false, false_or, not_true_eq_false, not_false_eq_true] <;> rfl) | simp [likedRegister_, eq_false c13, eq_false c18, eq_false c23, eq_true c28, eq_false c40]) rfl
set_option maxRecDepth 100000 in
set_option maxHeartbeats 1000000 in
theorem sp_X2_smallestOf {l : Launch} {k : im_K} {S : im_S} {I : im_I} {p0 : Int32}  : im_Runs l k 1 mX2_smallestOf [.int p0] (S, I) (some (.int (smallestOf_ p0))) (S, I) := by
  refine im_run (by decide +kernel) ⟨Nat.le_refl _, Nat.le_refl _⟩ (Nat.le_of_ble_eq_true rfl) ?_
  intro X hl hX hxn hxz hxc hxs
  subst hl
  change im_E X k _ 0 [some (.int p0), none] [] S I
  refine r_iconst (pc := 0) hX 0 dX2_smallestOf_0 (by decide) ?_
  refine r_istore_n (pc := 1) hX (L' := [_, _]) dX2_smallestOf_1 rfl rfl (Nat.le_of_ble_eq_true rfl) ?_
  have hL2 : ∀ (w1 : Nat) (i1 : Int32), cnt i1 11 = w1 → smallN_ p0 w1 i1 = smallestOf_ p0 → im_E X k (im_Q X k (some (.int (smallestOf_ p0))) (S, I)) 2 [some (.int p0), some (.int i1)] [] S I := by
    intro w1
    induction w1 with
    | zero =>
      intro i1 hm1 hR1
      refine r_iload_n (pc := 2) hX dX2_smallestOf_2 rfl ?_
      refine r_bipush (pc := 3) hX 11 dX2_smallestOf_3 (by decide) ?_
      refine r_icmp_ge (pc := 5) hX 22 dX2_smallestOf_5 (by decide) (fun c5 => ?_) (fun c5 => ?_)
      · have c5d := Int32.not_lt.mpr c5
        rw [smallN_0] at hR1
        refine r_iload_n (pc := 22) hX dX2_smallestOf_22 rfl ?_
        exact r_ireturn (pc := 23) hX dX2_smallestOf_23 rfl rfl (by rw [← hR1]) rfl
      · have c5d := Int32.not_le.mp c5
        exact (cnt_ex hm1 c5).elim
    | succ w1 ih1 =>
      intro i1 hm1 hR1
      refine r_iload_n (pc := 2) hX dX2_smallestOf_2 rfl ?_
      refine r_bipush (pc := 3) hX 11 dX2_smallestOf_3 (by decide) ?_
      refine r_icmp_ge (pc := 5) hX 22 dX2_smallestOf_5 (by decide) (fun c5 => ?_) (fun c5 => ?_)
      · have c5d := Int32.not_lt.mpr c5
        exact (cnt_go hm1 c5).elim
      · have c5d := Int32.not_le.mp c5
        refine r_iload_n (pc := 8) hX dX2_smallestOf_8 rfl ?_
        refine r_iload_n (pc := 9) hX dX2_smallestOf_9 rfl ?_
        refine r_callSN (Z := mX11_hasBit) (pc := 10) hX dX2_smallestOf_10 mn_X2_110 mX11_hasBit_w (sp_X11_hasBit) rfl rfl (Nat.le_of_ble_eq_true rfl) (by decide) rfl (Or.inl rfl) ?_
        refine r_if_ne (pc := 13) hX 22 dX2_smallestOf_13 (by decide) (fun c13 => ?_) (fun c13 => ?_)
        · replace c13 := b2i_1 c13
          rw [smallN_s, if_pos c13] at hR1
          refine r_iload_n (pc := 22) hX dX2_smallestOf_22 rfl ?_
          exact r_ireturn (pc := 23) hX dX2_smallestOf_23 rfl rfl (by rw [← hR1]) rfl
        · replace c13 := b2i_0 c13
          refine r_iinc (pc := 16) hX 1 (L' := [_, _]) dX2_smallestOf_16 rfl (by decide) rfl rfl ?_
          refine r_goto (pc := 19) hX (tgt := 2) dX2_smallestOf_19 (by decide) ?_
          exact ih1 _ (cnt_nx hm1) (by rw [smallN_s, if_neg (by rw [c13]; decide)] at hR1; exact hR1)
  exact hL2 (cnt 0 11) 0 rfl rfl
set_option maxRecDepth 100000 in
set_option maxHeartbeats 1000000 in
theorem sp_X2_spillOne {l : Launch} {k : im_K} {S : im_S} {I : im_I} {a m : Nat} {b0 : Nat} {p1 : Int32} {p2 : Int32} (h : o_X2 S a m) (hb0 : o_X4 S b0) : im_Runs l k 2 mX2_spillOne [.ref a, .ref b0, .int p1, .int p2] (S, I) (none) (S, spillOne_ I a b0 p1 p2) := by
  refine im_run (by decide +kernel) ⟨Nat.le_refl _, Nat.le_refl _⟩ (Nat.le_of_ble_eq_true rfl) ?_
  intro X hl hX hxn hxz hxc hxs
  subst hl
  change im_E X k _ 0 [some (.ref a), some (.ref b0), some (.int p1), some (.int p2), none, none, none] [] S I
  refine r_aload_n (pc := 0) hX dX2_spillOne_0 rfl ?_
  refine r_iload_n (pc := 1) hX dX2_spillOne_1 rfl ?_
  refine r_callV (Z := mX4_firstOf) (t := 4) (pc := 2) hX dX2_spillOne_2 ml_X2_80 mX4_firstOf_w ⟨by decide, rfl⟩ (o_X4_k hb0) (sp_X4_firstOf hb0) rfl rfl (Nat.le_of_ble_eq_true rfl) (by decide) rfl (Or.inl rfl) ?_
  refine r_istore (pc := 5) hX (L' := [_, _, _, _, _, _, _]) dX2_spillOne_5 rfl rfl (Nat.le_of_ble_eq_true rfl) ?_
  refine r_iload_n (pc := 7) hX dX2_spillOne_7 rfl ?_
  refine r_istore (pc := 8) hX (L' := [_, _, _, _, _, _, _]) dX2_spillOne_8 rfl rfl (Nat.le_of_ble_eq_true rfl) ?_
  refine r_iconst (pc := 10) hX 0 dX2_spillOne_10 (by decide) ?_
  refine r_istore (pc := 11) hX (L' := [_, _, _, _, _, _, _]) dX2_spillOne_11 rfl rfl (Nat.le_of_ble_eq_true rfl) ?_
  have hL13 : ∀ (w1 : Nat) (i1 : Int32) (J1 : Int32), cnt i1 (I b0 0) = w1 → loopN w1 i1 (worstOne_ I a b0 (firstOf_ I b0 p1) p2) J1 = loopN (cnt (0) (I b0 0)) (0) (worstOne_ I a b0 (firstOf_ I b0 p1) p2) (p1) → im_E X k (im_Q X k (none) (S, spillOne_ I a b0 p1 p2)) 13 [some (.ref a), some (.ref b0), some (.int p1), some (.int p2), some (.int (firstOf_ I b0 p1)), some (.int J1), some (.int i1)] [] S I := by
    intro w1
    induction w1 with
    | zero =>
      intro i1 J1  hm1 hR1
      refine r_iload (pc := 13) hX dX2_spillOne_13 rfl ?_
      refine r_aload_n (pc := 15) hX dX2_spillOne_15 rfl ?_
      refine r_geti (pc := 16) hX dX2_spillOne_16 fl_X2_69 rfl (o_X4_k hb0) ?_
      refine r_icmp_ge (pc := 19) hX 70 dX2_spillOne_19 (by decide) (fun c19 => ?_) (fun c19 => ?_)
      · have c19d := Int32.not_lt.mpr c19
        rw [loopN_0] at hR1
        subst hR1
        refine r_iload (pc := 70) hX dX2_spillOne_70 rfl ?_
        refine r_iload_n (pc := 72) hX dX2_spillOne_72 rfl ?_
        refine r_icmp_eq (pc := 73) hX 103 dX2_spillOne_73 (by decide) (fun c73 => ?_) (fun c73 => ?_)
        · exact r_return (pc := 103) hX dX2_spillOne_103 rfl rfl (by first | with_reducible rfl | (simp only [spillOne_, worstOf_, loopC, eq_true c19, eq_false c19d, eq_true c73, ↓reduceIte, if_true, if_false, decide_true, decide_false, eq_self, b2i_t, b2i_f, Bool.false_eq_true, and_true, true_and, and_false, false_and, or_true, true_or, or_false, false_or, not_true_eq_false, not_false_eq_true] <;> rfl) | simp [spillOne_, worstOf_, loopC, eq_true c19, eq_false c19d, eq_true c73])
        · refine r_aload_n (pc := 76) hX dX2_spillOne_76 rfl ?_
          refine r_getr (pc := 77) hX dX2_spillOne_77 fl_X2_15 rfl (o_X2_k h) (o_X2_r5 h) ?_
          refine r_iload_n (pc := 80) hX dX2_spillOne_80 rfl ?_
          refine r_aload_n (pc := 81) hX dX2_spillOne_81 rfl ?_
          refine r_getr (pc := 82) hX dX2_spillOne_82 fl_X2_15 rfl (o_X2_k h) (o_X2_r5 h) ?_
          refine r_iload (pc := 85) hX dX2_spillOne_85 rfl ?_
          refine r_callSN (Z := mX11_at) (pc := 87) hX dX2_spillOne_87 mn_X2_121 mX11_at_w (sp_X11_at (o_X2_a5 h)) rfl rfl (Nat.le_of_ble_eq_true rfl) (by decide) rfl (Or.inl rfl) ?_
          refine r_callSN (Z := mX11_put) (pc := 90) hX dX2_spillOne_90 mn_X2_117 mX11_put_w (sp_X11_put (o_X2_a5 h)) rfl rfl (Nat.le_of_ble_eq_true rfl) (by decide) rfl (Or.inl rfl) ?_
          refine r_aload_n (pc := 93) hX dX2_spillOne_93 rfl ?_
          refine r_getr (pc := 94) hX dX2_spillOne_94 fl_X2_15 rfl (o_X2_k h) (o_X2_r5 h) ?_
          refine r_iload (pc := 97) hX dX2_spillOne_97 rfl ?_
          refine r_iconst (pc := 99) hX (-1) dX2_spillOne_99 (by decide) ?_
          refine r_callSN (Z := mX11_put) (pc := 100) hX dX2_spillOne_100 mn_X2_117 mX11_put_w (sp_X11_put (o_X2_a5 h)) rfl rfl (Nat.le_of_ble_eq_true rfl) (by decide) rfl (Or.inl rfl) ?_
          exact r_return (pc := 103) hX dX2_spillOne_103 rfl rfl (by first | with_reducible rfl | (simp only [spillOne_, worstOf_, loopC, eq_true c19, eq_false c19d, eq_false c73, ↓reduceIte, if_true, if_false, decide_true, decide_false, eq_self, b2i_t, b2i_f, Bool.false_eq_true, and_true, true_and, and_false, false_and, or_true, true_or, or_false, false_or, not_true_eq_false, not_false_eq_true] <;> rfl) | simp [spillOne_, worstOf_, loopC, eq_true c19, eq_false c19d, eq_false c73])
      · have c19d := Int32.not_le.mp c19
        exact (cnt_ex hm1  c19).elim
    | succ w1 ih1 =>
      intro i1 J1  hm1 hR1
      refine r_iload (pc := 13) hX dX2_spillOne_13 rfl ?_
      refine r_aload_n (pc := 15) hX dX2_spillOne_15 rfl ?_
      refine r_geti (pc := 16) hX dX2_spillOne_16 fl_X2_69 rfl (o_X4_k hb0) ?_
      refine r_icmp_ge (pc := 19) hX 70 dX2_spillOne_19 (by decide) (fun c19 => ?_) (fun c19 => ?_)
      · have c19d := Int32.not_lt.mpr c19
        exact (cnt_go hm1  c19).elim
      · have c19d := Int32.not_le.mp c19
        refine r_iload_n (pc := 22) hX dX2_spillOne_22 rfl ?_
        refine r_aload_n (pc := 23) hX dX2_spillOne_23 rfl ?_
        refine r_getr (pc := 24) hX dX2_spillOne_24 fl_X2_15 rfl (o_X2_k h) (o_X2_r5 h) ?_
        refine r_iload (pc := 27) hX dX2_spillOne_27 rfl ?_
        refine r_callSN (Z := mX11_at) (pc := 29) hX dX2_spillOne_29 mn_X2_121 mX11_at_w (sp_X11_at (o_X2_a5 h)) rfl rfl (Nat.le_of_ble_eq_true rfl) (by decide) rfl (Or.inl rfl) ?_
        refine r_callSN (Z := mX11_hasBit) (pc := 32) hX dX2_spillOne_32 mn_X2_110 mX11_hasBit_w (sp_X11_hasBit) rfl rfl (Nat.le_of_ble_eq_true rfl) (by decide) rfl (Or.inl rfl) ?_
        refine r_if_eq (pc := 35) hX 64 dX2_spillOne_35 (by decide) (fun c35 => ?_) (fun c35 => ?_)
        · replace c35 := b2i_0 c35
          refine r_iinc (pc := 64) hX 1 (L' := [_, _, _, _, _, _, _]) dX2_spillOne_64 rfl (by decide) rfl rfl ?_
          refine r_goto (pc := 67) hX (tgt := 13) dX2_spillOne_67 (by decide) ?_
          exact ih1 _ _  (cnt_nx hm1) (by refine Eq.trans (congrArg (loopN w1 (i1 + 1) (worstOne_ I a b0 (firstOf_ I b0 p1) p2)) ?_) (loopN_s.symm.trans hR1); exact (by first | with_reducible rfl | (simp only [worstOne_, eq_false c19, eq_true c19d, c35, ↓reduceIte, if_true, if_false, decide_true, decide_false, eq_self, b2i_t, b2i_f, Bool.false_eq_true, and_true, true_and, and_false, false_and, or_true, true_or, or_false, false_or, not_true_eq_false, not_false_eq_true] <;> rfl) | simp [worstOne_, eq_false c19, eq_true c19d, c35]))
        · replace c35 := b2i_1 c35
          refine r_aload_n (pc := 38) hX dX2_spillOne_38 rfl ?_
          refine r_iload (pc := 39) hX dX2_spillOne_39 rfl ?_
          refine r_callV (Z := mX4_lastOf) (t := 4) (pc := 41) hX dX2_spillOne_41 ml_X2_125 mX4_lastOf_w ⟨by decide, rfl⟩ (o_X4_k hb0) (sp_X4_lastOf hb0) rfl rfl (Nat.le_of_ble_eq_true rfl) (by decide) rfl (Or.inl rfl) ?_
          refine r_iload (pc := 44) hX dX2_spillOne_44 rfl ?_
          refine r_icmp_le (pc := 46) hX 64 dX2_spillOne_46 (by decide) (fun c46 => ?_) (fun c46 => ?_)
          · have c46d := Int32.not_lt.mpr c46
            refine r_iinc (pc := 64) hX 1 (L' := [_, _, _, _, _, _, _]) dX2_spillOne_64 rfl (by decide) rfl rfl ?_
            refine r_goto (pc := 67) hX (tgt := 13) dX2_spillOne_67 (by decide) ?_
            exact ih1 _ _  (cnt_nx hm1) (by refine Eq.trans (congrArg (loopN w1 (i1 + 1) (worstOne_ I a b0 (firstOf_ I b0 p1) p2)) ?_) (loopN_s.symm.trans hR1); exact (by first | with_reducible rfl | (simp only [worstOne_, eq_false c19, eq_true c19d, c35, eq_true c46, eq_false c46d, ↓reduceIte, if_true, if_false, decide_true, decide_false, eq_self, b2i_t, b2i_f, Bool.false_eq_true, and_true, true_and, and_false, false_and, or_true, true_or, or_false, false_or, not_true_eq_false, not_false_eq_true] <;> rfl) | simp [worstOne_, eq_false c19, eq_true c19d, c35, eq_true c46, eq_false c46d]))
          · have c46d := Int32.not_le.mp c46
            refine r_aload_n (pc := 49) hX dX2_spillOne_49 rfl ?_
            refine r_iload (pc := 50) hX dX2_spillOne_50 rfl ?_
            refine r_iload (pc := 52) hX dX2_spillOne_52 rfl ?_
            refine r_callS (Z := mX2_isLighter) (pc := 54) hX dX2_spillOne_54 ml_X2_142 mX2_isLighter_w (sp_X2_isLighter hb0) rfl rfl (Nat.le_of_ble_eq_true rfl) (by decide) rfl (Or.inl rfl) ?_
            refine r_if_eq (pc := 57) hX 64 dX2_spillOne_57 (by decide) (fun c57 => ?_) (fun c57 => ?_)
            · replace c57 := b2i_0 c57
              refine r_iinc (pc := 64) hX 1 (L' := [_, _, _, _, _, _, _]) dX2_spillOne_64 rfl (by decide) rfl rfl ?_
              refine r_goto (pc := 67) hX (tgt := 13) dX2_spillOne_67 (by decide) ?_
              exact ih1 _ _  (cnt_nx hm1) (by refine Eq.trans (congrArg (loopN w1 (i1 + 1) (worstOne_ I a b0 (firstOf_ I b0 p1) p2)) ?_) (loopN_s.symm.trans hR1); exact (by first | with_reducible rfl | (simp only [worstOne_, eq_false c19, eq_true c19d, c35, eq_false c46, eq_true c46d, c57, ↓reduceIte, if_true, if_false, decide_true, decide_false, eq_self, b2i_t, b2i_f, Bool.false_eq_true, and_true, true_and, and_false, false_and, or_true, true_or, or_false, false_or, not_true_eq_false, not_false_eq_true] <;> rfl) | simp [worstOne_, eq_false c19, eq_true c19d, c35, eq_false c46, eq_true c46d, c57]))
            · replace c57 := b2i_1 c57
              refine r_iload (pc := 60) hX dX2_spillOne_60 rfl ?_
              refine r_istore (pc := 62) hX (L' := [_, _, _, _, _, _, _]) dX2_spillOne_62 rfl rfl (Nat.le_of_ble_eq_true rfl) ?_
              refine r_iinc (pc := 64) hX 1 (L' := [_, _, _, _, _, _, _]) dX2_spillOne_64 rfl (by decide) rfl rfl ?_
              refine r_goto (pc := 67) hX (tgt := 13) dX2_spillOne_67 (by decide) ?_
              exact ih1 _ _  (cnt_nx hm1) (by refine Eq.trans (congrArg (loopN w1 (i1 + 1) (worstOne_ I a b0 (firstOf_ I b0 p1) p2)) ?_) (loopN_s.symm.trans hR1); exact (by first | with_reducible rfl | (simp only [worstOne_, eq_false c19, eq_true c19d, c35, eq_false c46, eq_true c46d, c57, ↓reduceIte, if_true, if_false, decide_true, decide_false, eq_self, b2i_t, b2i_f, Bool.false_eq_true, and_true, true_and, and_false, false_and, or_true, true_or, or_false, false_or, not_true_eq_false, not_false_eq_true] <;> rfl) | simp [worstOne_, eq_false c19, eq_true c19d, c35, eq_false c46, eq_true c46d, c57]))
  exact hL13 (cnt (0) (I b0 0)) (0) (p1)  rfl rfl
set_option maxRecDepth 100000 in
set_option maxHeartbeats 1000000 in
theorem sp_X2_giveRegister {l : Launch} {k : im_K} {S : im_S} {I : im_I} {a m : Nat} {b0 : Nat} {b1 : Nat} {p2 : Int32} (h : o_X2 S a m) (hb0 : o_X3 S b0) (hb1 : o_X4 S b1) : im_Runs l k 3 mX2_giveRegister [.ref a, .ref b0, .ref b1, .int p2] (S, I) (none) (S, giveRegister_ I a m b0 b1 p2) := by
  refine im_run (by decide +kernel) ⟨Nat.le_refl _, Nat.le_refl _⟩ (Nat.le_of_ble_eq_true rfl) ?_
  intro X hl hX hxn hxz hxc hxs
  subst hl
  change im_E X k _ 0 [some (.ref a), some (.ref b0), some (.ref b1), some (.int p2), none, none, none, none] [] S I
  refine r_aload_n (pc := 0) hX dX2_giveRegister_0 rfl ?_
  refine r_iload_n (pc := 1) hX dX2_giveRegister_1 rfl ?_
  refine r_callV (Z := mX3_writtenBy) (t := 3) (pc := 2) hX dX2_giveRegister_2 ml_X2_58 mX3_writtenBy_w ⟨by decide, rfl⟩ (o_X3_k hb0) (sp_X3_writtenBy hb0) rfl rfl (Nat.le_of_ble_eq_true rfl) (by decide) rfl (Or.inl rfl) ?_
  refine r_istore (pc := 5) hX (L' := [_, _, _, _, _, _, _, _]) dX2_giveRegister_5 rfl rfl (Nat.le_of_ble_eq_true rfl) ?_
  refine r_aload_n (pc := 7) hX dX2_giveRegister_7 rfl ?_
  refine r_iload (pc := 8) hX dX2_giveRegister_8 rfl ?_
  refine r_callV (Z := mX4_crossedBy) (t := 4) (pc := 10) hX dX2_giveRegister_10 ml_X2_83 mX4_crossedBy_w ⟨by decide, rfl⟩ (o_X4_k hb1) (sp_X4_crossedBy hb1) rfl rfl (Nat.le_of_ble_eq_true rfl) (by decide) rfl (Or.inl rfl) ?_
  refine r_if_le (pc := 13) hX 26 dX2_giveRegister_13 (by decide) (fun c13 => ?_) (fun c13 => ?_)
  · have c13d := Int32.not_lt.mpr c13
    refine r_aload_n (pc := 26) hX dX2_giveRegister_26 rfl ?_
    refine r_getr (pc := 27) hX dX2_giveRegister_27 fl_X2_9 rfl (o_X2_k h) (o_X2_r4 h) ?_
    refine r_callV (Z := mX5_scratch) (t := 5) (pc := 30) hX dX2_giveRegister_30 ml_X2_91 mX5_scratch_w ⟨by decide, rfl⟩ (o_X5_k (o_X2_o4 h)) (sp_X5_scratch (o_X2_o4 h)) rfl rfl (Nat.le_of_ble_eq_true rfl) (by decide) rfl (Or.inl rfl) ?_
    refine r_callSN (Z := mX11_bit) (pc := 33) hX dX2_giveRegister_33 mn_X2_95 mX11_bit_w (sp_X11_bit) rfl rfl (Nat.le_of_ble_eq_true rfl) (by decide) rfl (Or.inl rfl) ?_
    refine r_iconst (pc := 36) hX 1 dX2_giveRegister_36 (by decide) ?_
    refine r_isub (pc := 37) hX dX2_giveRegister_37 ?_
    refine r_istore (pc := 38) hX (L' := [_, _, _, _, _, _, _, _]) dX2_giveRegister_38 rfl rfl (Nat.le_of_ble_eq_true rfl) ?_
    refine r_iload (pc := 40) hX dX2_giveRegister_40 rfl ?_
    refine r_aload_n (pc := 42) hX dX2_giveRegister_42 rfl ?_
    refine r_aload_n (pc := 43) hX dX2_giveRegister_43 rfl ?_
    refine r_iload_n (pc := 44) hX dX2_giveRegister_44 rfl ?_
    refine r_callV (Z := mX2_takenBehind) (t := 2) (pc := 45) hX dX2_giveRegister_45 ml_X2_98 mX2_takenBehind_w ⟨by decide, rfl⟩ (o_X2_k h) (sp_X2_takenBehind h hb1) rfl rfl (Nat.le_of_ble_eq_true rfl) (by decide) rfl (Or.inl rfl) ?_
    refine r_iconst (pc := 48) hX (-1) dX2_giveRegister_48 (by decide) ?_
    refine r_ixor (pc := 49) hX dX2_giveRegister_49 ?_
    refine r_iand (pc := 50) hX dX2_giveRegister_50 ?_
    refine r_istore (pc := 51) hX (L' := [_, _, _, _, _, _, _, _]) dX2_giveRegister_51 rfl rfl (Nat.le_of_ble_eq_true rfl) ?_
    refine r_iload (pc := 53) hX dX2_giveRegister_53 rfl ?_
    refine r_if_ne (pc := 55) hX 68 dX2_giveRegister_55 (by decide) (fun c55 => ?_) (fun c55 => ?_)
    · refine r_aload_n (pc := 68) hX dX2_giveRegister_68 rfl ?_
      refine r_aload_n (pc := 69) hX dX2_giveRegister_69 rfl ?_
      refine r_iload_n (pc := 70) hX dX2_giveRegister_70 rfl ?_
      refine r_callV (Z := mX2_likedRegister) (t := 2) (pc := 71) hX dX2_giveRegister_71 ml_X2_106 mX2_likedRegister_w ⟨by decide, rfl⟩ (o_X2_k h) (sp_X2_likedRegister h hb0) rfl rfl (Nat.le_of_ble_eq_true rfl) (by decide) rfl (Or.inl rfl) ?_
      refine r_istore (pc := 74) hX (L' := [_, _, _, _, _, _, _, _]) dX2_giveRegister_74 rfl rfl (Nat.le_of_ble_eq_true rfl) ?_
      refine r_aload_n (pc := 76) hX dX2_giveRegister_76 rfl ?_
      refine r_getr (pc := 77) hX dX2_giveRegister_77 fl_X2_15 rfl (o_X2_k h) (o_X2_r5 h) ?_
      refine r_iload (pc := 80) hX dX2_giveRegister_80 rfl ?_
      refine r_iload (pc := 82) hX dX2_giveRegister_82 rfl ?_
      refine r_iload (pc := 84) hX dX2_giveRegister_84 rfl ?_
      refine r_callSN (Z := mX11_hasBit) (pc := 86) hX dX2_giveRegister_86 mn_X2_110 mX11_hasBit_w (sp_X11_hasBit) rfl rfl (Nat.le_of_ble_eq_true rfl) (by decide) rfl (Or.inl rfl) ?_
      refine r_if_eq (pc := 89) hX 97 dX2_giveRegister_89 (by decide) (fun c89 => ?_) (fun c89 => ?_)
      · replace c89 := b2i_0 c89
        refine r_iload (pc := 97) hX dX2_giveRegister_97 rfl ?_
        refine r_callS (Z := mX2_smallestOf) (pc := 99) hX dX2_giveRegister_99 ml_X2_114 mX2_smallestOf_w (sp_X2_smallestOf) rfl rfl (Nat.le_of_ble_eq_true rfl) (by decide) rfl (Or.inl rfl) ?_
        refine r_callSN (Z := mX11_put) (pc := 102) hX dX2_giveRegister_102 mn_X2_117 mX11_put_w (sp_X11_put (o_X2_a5 h)) rfl rfl (Nat.le_of_ble_eq_true rfl) (by decide) rfl (Or.inl rfl) ?_
        exact r_return (pc := 105) hX dX2_giveRegister_105 rfl rfl (by first | with_reducible rfl | (simp only [giveRegister_, eq_true c13, eq_false c13d, eq_false c55, c89, ↓reduceIte, if_true, if_false, decide_true, decide_false, eq_self, b2i_t, b2i_f, Bool.false_eq_true, and_true, true_and, and_false, false_and, or_true, true_or, or_false, false_or, not_true_eq_false, not_false_eq_true] <;> rfl) | simp [giveRegister_, eq_true c13, eq_false c13d, eq_false c55, c89])
      · replace c89 := b2i_1 c89
        refine r_iload (pc := 92) hX dX2_giveRegister_92 rfl ?_
        refine r_goto (pc := 94) hX (tgt := 102) dX2_giveRegister_94 (by decide) ?_
        refine r_callSN (Z := mX11_put) (pc := 102) hX dX2_giveRegister_102 mn_X2_117 mX11_put_w (sp_X11_put (o_X2_a5 h)) rfl rfl (Nat.le_of_ble_eq_true rfl) (by decide) rfl (Or.inl rfl) ?_
        exact r_return (pc := 105) hX dX2_giveRegister_105 rfl rfl (by first | with_reducible rfl | (simp only [giveRegister_, eq_true c13, eq_false c13d, eq_false c55, c89, ↓reduceIte, if_true, if_false, decide_true, decide_false, eq_self, b2i_t, b2i_f, Bool.false_eq_true, and_true, true_and, and_false, false_and, or_true, true_or, or_false, false_or, not_true_eq_false, not_false_eq_true] <;> rfl) | simp [giveRegister_, eq_true c13, eq_false c13d, eq_false c55, c89])
    · refine r_aload_n (pc := 58) hX dX2_giveRegister_58 rfl ?_
      refine r_aload_n (pc := 59) hX dX2_giveRegister_59 rfl ?_
      refine r_iload (pc := 60) hX dX2_giveRegister_60 rfl ?_
      refine r_iload (pc := 62) hX dX2_giveRegister_62 rfl ?_
      refine r_callV (Z := mX2_spillOne) (t := 2) (pc := 64) hX dX2_giveRegister_64 ml_X2_102 mX2_spillOne_w ⟨by decide, rfl⟩ (o_X2_k h) (sp_X2_spillOne h hb1) rfl rfl (Nat.le_of_ble_eq_true rfl) (by decide) rfl (Or.inl rfl) ?_
      exact r_return (pc := 67) hX dX2_giveRegister_67 rfl rfl (by first | with_reducible rfl | (simp only [giveRegister_, eq_true c13, eq_false c13d, eq_true c55, ↓reduceIte, if_true, if_false, decide_true, decide_false, eq_self, b2i_t, b2i_f, Bool.false_eq_true, and_true, true_and, and_false, false_and, or_true, true_or, or_false, false_or, not_true_eq_false, not_false_eq_true] <;> rfl) | simp [giveRegister_, eq_true c13, eq_false c13d, eq_true c55])
  · have c13d := Int32.not_le.mp c13
    refine r_aload_n (pc := 16) hX dX2_giveRegister_16 rfl ?_
    refine r_getr (pc := 17) hX dX2_giveRegister_17 fl_X2_9 rfl (o_X2_k h) (o_X2_r4 h) ?_
    refine r_geti (pc := 20) hX dX2_giveRegister_20 fl_X2_86 rfl (o_X5_k (o_X2_o4 h)) ?_
    refine r_goto (pc := 23) hX (tgt := 38) dX2_giveRegister_23 (by decide) ?_
    refine r_istore (pc := 38) hX (L' := [_, _, _, _, _, _, _, _]) dX2_giveRegister_38 rfl rfl (Nat.le_of_ble_eq_true rfl) ?_
    refine r_iload (pc := 40) hX dX2_giveRegister_40 rfl ?_
    refine r_aload_n (pc := 42) hX dX2_giveRegister_42 rfl ?_
    refine r_aload_n (pc := 43) hX dX2_giveRegister_43 rfl ?_
    refine r_iload_n (pc := 44) hX dX2_giveRegister_44 rfl ?_
    refine r_callV (Z := mX2_takenBehind) (t := 2) (pc := 45) hX dX2_giveRegister_45 ml_X2_98 mX2_takenBehind_w ⟨by decide, rfl⟩ (o_X2_k h) (sp_X2_takenBehind h hb1) rfl rfl (Nat.le_of_ble_eq_true rfl) (by decide) rfl (Or.inl rfl) ?_
    refine r_iconst (pc := 48) hX (-1) dX2_giveRegister_48 (by decide) ?_
    refine r_ixor (pc := 49) hX dX2_giveRegister_49 ?_
    refine r_iand (pc := 50) hX dX2_giveRegister_50 ?_
    refine r_istore (pc := 51) hX (L' := [_, _, _, _, _, _, _, _]) dX2_giveRegister_51 rfl rfl (Nat.le_of_ble_eq_true rfl) ?_
    refine r_iload (pc := 53) hX dX2_giveRegister_53 rfl ?_
    refine r_if_ne (pc := 55) hX 68 dX2_giveRegister_55 (by decide) (fun c55 => ?_) (fun c55 => ?_)
    · refine r_aload_n (pc := 68) hX dX2_giveRegister_68 rfl ?_
      refine r_aload_n (pc := 69) hX dX2_giveRegister_69 rfl ?_
      refine r_iload_n (pc := 70) hX dX2_giveRegister_70 rfl ?_
      refine r_callV (Z := mX2_likedRegister) (t := 2) (pc := 71) hX dX2_giveRegister_71 ml_X2_106 mX2_likedRegister_w ⟨by decide, rfl⟩ (o_X2_k h) (sp_X2_likedRegister h hb0) rfl rfl (Nat.le_of_ble_eq_true rfl) (by decide) rfl (Or.inl rfl) ?_
      refine r_istore (pc := 74) hX (L' := [_, _, _, _, _, _, _, _]) dX2_giveRegister_74 rfl rfl (Nat.le_of_ble_eq_true rfl) ?_
      refine r_aload_n (pc := 76) hX dX2_giveRegister_76 rfl ?_
      refine r_getr (pc := 77) hX dX2_giveRegister_77 fl_X2_15 rfl (o_X2_k h) (o_X2_r5 h) ?_
      refine r_iload (pc := 80) hX dX2_giveRegister_80 rfl ?_
      refine r_iload (pc := 82) hX dX2_giveRegister_82 rfl ?_
      refine r_iload (pc := 84) hX dX2_giveRegister_84 rfl ?_
      refine r_callSN (Z := mX11_hasBit) (pc := 86) hX dX2_giveRegister_86 mn_X2_110 mX11_hasBit_w (sp_X11_hasBit) rfl rfl (Nat.le_of_ble_eq_true rfl) (by decide) rfl (Or.inl rfl) ?_
      refine r_if_eq (pc := 89) hX 97 dX2_giveRegister_89 (by decide) (fun c89 => ?_) (fun c89 => ?_)
      · replace c89 := b2i_0 c89
        refine r_iload (pc := 97) hX dX2_giveRegister_97 rfl ?_
        refine r_callS (Z := mX2_smallestOf) (pc := 99) hX dX2_giveRegister_99 ml_X2_114 mX2_smallestOf_w (sp_X2_smallestOf) rfl rfl (Nat.le_of_ble_eq_true rfl) (by decide) rfl (Or.inl rfl) ?_
        refine r_callSN (Z := mX11_put) (pc := 102) hX dX2_giveRegister_102 mn_X2_117 mX11_put_w (sp_X11_put (o_X2_a5 h)) rfl rfl (Nat.le_of_ble_eq_true rfl) (by decide) rfl (Or.inl rfl) ?_
        exact r_return (pc := 105) hX dX2_giveRegister_105 rfl rfl (by first | with_reducible rfl | (simp only [giveRegister_, eq_false c13, eq_true c13d, eq_false c55, c89, ↓reduceIte, if_true, if_false, decide_true, decide_false, eq_self, b2i_t, b2i_f, Bool.false_eq_true, and_true, true_and, and_false, false_and, or_true, true_or, or_false, false_or, not_true_eq_false, not_false_eq_true] <;> rfl) | simp [giveRegister_, eq_false c13, eq_true c13d, eq_false c55, c89])
      · replace c89 := b2i_1 c89
        refine r_iload (pc := 92) hX dX2_giveRegister_92 rfl ?_
        refine r_goto (pc := 94) hX (tgt := 102) dX2_giveRegister_94 (by decide) ?_
        refine r_callSN (Z := mX11_put) (pc := 102) hX dX2_giveRegister_102 mn_X2_117 mX11_put_w (sp_X11_put (o_X2_a5 h)) rfl rfl (Nat.le_of_ble_eq_true rfl) (by decide) rfl (Or.inl rfl) ?_
        exact r_return (pc := 105) hX dX2_giveRegister_105 rfl rfl (by first | with_reducible rfl | (simp only [giveRegister_, eq_false c13, eq_true c13d, eq_false c55, c89, ↓reduceIte, if_true, if_false, decide_true, decide_false, eq_self, b2i_t, b2i_f, Bool.false_eq_true, and_true, true_and, and_false, false_and, or_true, true_or, or_false, false_or, not_true_eq_false, not_false_eq_true] <;> rfl) | simp [giveRegister_, eq_false c13, eq_true c13d, eq_false c55, c89])
    · refine r_aload_n (pc := 58) hX dX2_giveRegister_58 rfl ?_
      refine r_aload_n (pc := 59) hX dX2_giveRegister_59 rfl ?_
      refine r_iload (pc := 60) hX dX2_giveRegister_60 rfl ?_
      refine r_iload (pc := 62) hX dX2_giveRegister_62 rfl ?_
      refine r_callV (Z := mX2_spillOne) (t := 2) (pc := 64) hX dX2_giveRegister_64 ml_X2_102 mX2_spillOne_w ⟨by decide, rfl⟩ (o_X2_k h) (sp_X2_spillOne h hb1) rfl rfl (Nat.le_of_ble_eq_true rfl) (by decide) rfl (Or.inl rfl) ?_
      exact r_return (pc := 67) hX dX2_giveRegister_67 rfl rfl (by first | with_reducible rfl | (simp only [giveRegister_, eq_false c13, eq_true c13d, eq_true c55, ↓reduceIte, if_true, if_false, decide_true, decide_false, eq_self, b2i_t, b2i_f, Bool.false_eq_true, and_true, true_and, and_false, false_and, or_true, true_or, or_false, false_or, not_true_eq_false, not_false_eq_true] <;> rfl) | simp [giveRegister_, eq_false c13, eq_true c13d, eq_true c55])
set_option maxRecDepth 100000 in
set_option maxHeartbeats 1000000 in
theorem sp_X2_firstSlotFree {l : Launch} {k : im_K} {S : im_S} {I : im_I} {a m : Nat} {b0 : Nat} {p1 : Int32} (h : o_X2 S a m) (hb0 : o_X4 S b0) (hv : b0 < a ∨ a + 5 < b0) : im_Runs l k 2 mX2_firstSlotFree [.ref a, .ref b0, .int p1] (S, I) (some (.int (firstSlotFree_ I a b0 p1))) (S, markAll_ I a b0 p1) := by
  refine im_run (by decide +kernel) ⟨Nat.le_refl _, Nat.le_refl _⟩ (Nat.le_of_ble_eq_true rfl) ?_
  intro X hl hX hxn hxz hxc hxs
  subst hl
  change im_E X k _ 0 [some (.ref a), some (.ref b0), some (.int p1), none] [] S I
  refine r_aload_n (pc := 0) hX dX2_firstSlotFree_0 rfl ?_
  refine r_getr (pc := 1) hX dX2_firstSlotFree_1 fl_X2_28 rfl (o_X2_k h) (o_X2_r9 h) ?_
  refine r_iconst (pc := 4) hX 0 dX2_firstSlotFree_4 (by decide) ?_
  refine r_callSN (Z := mX11_fill) (pc := 5) hX dX2_firstSlotFree_5 mn_X2_41 mX11_fill_w (sp_X11_fill (o_X2_a9 h)) rfl rfl (Nat.le_of_ble_eq_true rfl) (by decide) rfl (Or.inl rfl) ?_
  refine r_iconst (pc := 8) hX 0 dX2_firstSlotFree_8 (by decide) ?_
  refine r_istore_n (pc := 9) hX (L' := [_, _, _, _]) dX2_firstSlotFree_9 rfl rfl (Nat.le_of_ble_eq_true rfl) ?_
  have hL10 : ∀ (w1 : Nat) (i1 : Int32) (J1 : im_I), J1 b0 0 = I b0 0 → cnt i1 (I b0 0) = w1 → loopN w1 i1 (markOne_ a b0 p1) J1 = loopN (cnt (0) (I b0 0)) (0) (markOne_ a b0 p1) (fillL_ I (a + 5) 88 0) → im_E X k (im_Q X k (some (.int (firstSlotFree_ I a b0 p1))) (S, markAll_ I a b0 p1)) 10 [some (.ref a), some (.ref b0), some (.int p1), some (.int i1)] [] S J1 := by
    intro w1
    induction w1 with
    | zero =>
      intro i1 J1 hf1 hm1 hR1
      refine r_iload_n (pc := 10) hX dX2_firstSlotFree_10 rfl ?_
      refine r_aload_n (pc := 11) hX dX2_firstSlotFree_11 rfl ?_
      refine r_geti (pc := 12) hX dX2_firstSlotFree_12 fl_X2_69 rfl (o_X4_k hb0) ?_
      refine r_icmp_ge (pc := 15) hX 61 dX2_firstSlotFree_15 (by decide) (fun c15 => ?_) (fun c15 => ?_)
      · have c15d := Int32.not_lt.mpr c15
        rw [loopN_0] at hR1
        subst hR1
        refine r_iconst (pc := 61) hX 0 dX2_firstSlotFree_61 (by decide) ?_
        refine r_istore_n (pc := 62) hX (L' := [_, _, _, _]) dX2_firstSlotFree_62 rfl rfl (Nat.le_of_ble_eq_true rfl) ?_
        have hL63 : ∀ (w2 : Nat) (i2 : Int32), cnt i2 88 = w2 → freeN_ (markAll_ I a b0 p1) a w2 i2 = firstSlotFree_ I a b0 p1 → im_E X k (im_Q X k (some (.int (firstSlotFree_ I a b0 p1))) (S, markAll_ I a b0 p1)) 63 [some (.ref a), some (.ref b0), some (.int p1), some (.int i2)] [] S (markAll_ I a b0 p1) := by
          intro w2
          induction w2 with
          | zero =>
            intro i2 hm2 hR2
            refine r_iload_n (pc := 63) hX dX2_firstSlotFree_63 rfl ?_
            refine r_bipush (pc := 64) hX 88 dX2_firstSlotFree_64 (by decide) ?_
            refine r_icmp_ge (pc := 66) hX 87 dX2_firstSlotFree_66 (by decide) (fun c66 => ?_) (fun c66 => ?_)
            · have c66d := Int32.not_lt.mpr c66
              rw [freeN_0] at hR2
              refine r_iload_n (pc := 87) hX dX2_firstSlotFree_87 rfl ?_
              exact r_ireturn (pc := 88) hX dX2_firstSlotFree_88 rfl rfl (by rw [← hR2]) rfl
            · have c66d := Int32.not_le.mp c66
              exact (cnt_ex hm2 c66).elim
          | succ w2 ih2 =>
            intro i2 hm2 hR2
            refine r_iload_n (pc := 63) hX dX2_firstSlotFree_63 rfl ?_
            refine r_bipush (pc := 64) hX 88 dX2_firstSlotFree_64 (by decide) ?_
            refine r_icmp_ge (pc := 66) hX 87 dX2_firstSlotFree_66 (by decide) (fun c66 => ?_) (fun c66 => ?_)
            · have c66d := Int32.not_lt.mpr c66
              exact (cnt_go hm2 c66).elim
            · have c66d := Int32.not_le.mp c66
              refine r_aload_n (pc := 69) hX dX2_firstSlotFree_69 rfl ?_
              refine r_getr (pc := 70) hX dX2_firstSlotFree_70 fl_X2_28 rfl (o_X2_k h) (o_X2_r9 h) ?_
              refine r_iload_n (pc := 73) hX dX2_firstSlotFree_73 rfl ?_
              refine r_callSN (Z := mX11_at) (pc := 74) hX dX2_firstSlotFree_74 mn_X2_121 mX11_at_w (sp_X11_at (o_X2_a9 h)) rfl rfl (Nat.le_of_ble_eq_true rfl) (by decide) rfl (Or.inl rfl) ?_
              refine r_iconst (pc := 77) hX 1 dX2_firstSlotFree_77 (by decide) ?_
              refine r_icmp_ne (pc := 78) hX 87 dX2_firstSlotFree_78 (by decide) (fun c78 => ?_) (fun c78 => ?_)
              · rw [freeN_s, if_neg c78] at hR2
                refine r_iload_n (pc := 87) hX dX2_firstSlotFree_87 rfl ?_
                exact r_ireturn (pc := 88) hX dX2_firstSlotFree_88 rfl rfl (by rw [← hR2]) rfl
              · refine r_iinc (pc := 81) hX 1 (L' := [_, _, _, _]) dX2_firstSlotFree_81 rfl (by decide) rfl rfl ?_
                refine r_goto (pc := 84) hX (tgt := 63) dX2_firstSlotFree_84 (by decide) ?_
                exact ih2 _ (cnt_nx hm2) (by rw [freeN_s, if_pos c78] at hR2; exact hR2)
        refine r_mem (I' := markAll_ I a b0 p1) (by simp only [markAll_, loopC]) ?_
        exact hL63 (cnt 0 88) 0 rfl rfl
      · have c15d := Int32.not_le.mp c15
        rw [hf1] at c15; exact (cnt_ex hm1  c15).elim
    | succ w1 ih1 =>
      intro i1 J1 hf1 hm1 hR1
      refine r_iload_n (pc := 10) hX dX2_firstSlotFree_10 rfl ?_
      refine r_aload_n (pc := 11) hX dX2_firstSlotFree_11 rfl ?_
      refine r_geti (pc := 12) hX dX2_firstSlotFree_12 fl_X2_69 rfl (o_X4_k hb0) ?_
      refine r_icmp_ge (pc := 15) hX 61 dX2_firstSlotFree_15 (by decide) (fun c15 => ?_) (fun c15 => ?_)
      · have c15d := Int32.not_lt.mpr c15
        rw [hf1] at c15; exact (cnt_go hm1  c15).elim
      · have c15d := Int32.not_le.mp c15
        refine r_aload_n (pc := 18) hX dX2_firstSlotFree_18 rfl ?_
        refine r_getr (pc := 19) hX dX2_firstSlotFree_19 fl_X2_19 rfl (o_X2_k h) (o_X2_r6 h) ?_
        refine r_iload_n (pc := 22) hX dX2_firstSlotFree_22 rfl ?_
        refine r_callSN (Z := mX11_at) (pc := 23) hX dX2_firstSlotFree_23 mn_X2_121 mX11_at_w (sp_X11_at (o_X2_a6 h)) rfl rfl (Nat.le_of_ble_eq_true rfl) (by decide) rfl (Or.inl rfl) ?_
        refine r_iconst (pc := 26) hX (-1) dX2_firstSlotFree_26 (by decide) ?_
        refine r_icmp_eq (pc := 27) hX 55 dX2_firstSlotFree_27 (by decide) (fun c27 => ?_) (fun c27 => ?_)
        · refine r_iinc (pc := 55) hX 1 (L' := [_, _, _, _]) dX2_firstSlotFree_55 rfl (by decide) rfl rfl ?_
          refine r_goto (pc := 58) hX (tgt := 10) dX2_firstSlotFree_58 (by decide) ?_
          refine r_mem (I' := (markOne_ a b0 p1) i1 J1) (by first | with_reducible rfl | (simp only [markOne_, eq_false c15, eq_true c15d, eq_true c27, ↓reduceIte, if_true, if_false, decide_true, decide_false, eq_self, b2i_t, b2i_f, Bool.false_eq_true, and_true, true_and, and_false, false_and, or_true, true_or, or_false, false_or, not_true_eq_false, not_false_eq_true] <;> rfl) | simp [markOne_, eq_false c15, eq_true c15d, eq_true c27]) ?_
          exact ih1 _ _ ((congrFun (markOne_fr (by omega)) 0).trans hf1) (cnt_nx hm1) (loopN_s.symm.trans hR1)
        · refine r_aload_n (pc := 30) hX dX2_firstSlotFree_30 rfl ?_
          refine r_iload_n (pc := 31) hX dX2_firstSlotFree_31 rfl ?_
          refine r_callV (Z := mX4_lastOf) (t := 4) (pc := 32) hX dX2_firstSlotFree_32 ml_X2_125 mX4_lastOf_w ⟨by decide, rfl⟩ (o_X4_k hb0) (sp_X4_lastOf hb0) rfl rfl (Nat.le_of_ble_eq_true rfl) (by decide) rfl (Or.inl rfl) ?_
          refine r_iload_n (pc := 35) hX dX2_firstSlotFree_35 rfl ?_
          refine r_icmp_lt (pc := 36) hX 55 dX2_firstSlotFree_36 (by decide) (fun c36 => ?_) (fun c36 => ?_)
          · have c36d := Int32.not_le.mpr c36
            refine r_iinc (pc := 55) hX 1 (L' := [_, _, _, _]) dX2_firstSlotFree_55 rfl (by decide) rfl rfl ?_
            refine r_goto (pc := 58) hX (tgt := 10) dX2_firstSlotFree_58 (by decide) ?_
            refine r_mem (I' := (markOne_ a b0 p1) i1 J1) (by first | with_reducible rfl | (simp only [markOne_, eq_false c15, eq_true c15d, eq_false c27, eq_true c36, eq_false c36d, ↓reduceIte, if_true, if_false, decide_true, decide_false, eq_self, b2i_t, b2i_f, Bool.false_eq_true, and_true, true_and, and_false, false_and, or_true, true_or, or_false, false_or, not_true_eq_false, not_false_eq_true] <;> rfl) | simp [markOne_, eq_false c15, eq_true c15d, eq_false c27, eq_true c36, eq_false c36d]) ?_
            exact ih1 _ _ ((congrFun (markOne_fr (by omega)) 0).trans hf1) (cnt_nx hm1) (loopN_s.symm.trans hR1)
          · have c36d := Int32.not_lt.mp c36
            refine r_aload_n (pc := 39) hX dX2_firstSlotFree_39 rfl ?_
            refine r_getr (pc := 40) hX dX2_firstSlotFree_40 fl_X2_28 rfl (o_X2_k h) (o_X2_r9 h) ?_
            refine r_aload_n (pc := 43) hX dX2_firstSlotFree_43 rfl ?_
            refine r_getr (pc := 44) hX dX2_firstSlotFree_44 fl_X2_19 rfl (o_X2_k h) (o_X2_r6 h) ?_
            refine r_iload_n (pc := 47) hX dX2_firstSlotFree_47 rfl ?_
            refine r_callSN (Z := mX11_at) (pc := 48) hX dX2_firstSlotFree_48 mn_X2_121 mX11_at_w (sp_X11_at (o_X2_a6 h)) rfl rfl (Nat.le_of_ble_eq_true rfl) (by decide) rfl (Or.inl rfl) ?_
            refine r_iconst (pc := 51) hX 1 dX2_firstSlotFree_51 (by decide) ?_
            refine r_callSN (Z := mX11_put) (pc := 52) hX dX2_firstSlotFree_52 mn_X2_117 mX11_put_w (sp_X11_put (o_X2_a9 h)) rfl rfl (Nat.le_of_ble_eq_true rfl) (by decide) rfl (Or.inl rfl) ?_
            refine r_iinc (pc := 55) hX 1 (L' := [_, _, _, _]) dX2_firstSlotFree_55 rfl (by decide) rfl rfl ?_
            refine r_goto (pc := 58) hX (tgt := 10) dX2_firstSlotFree_58 (by decide) ?_
            refine r_mem (I' := (markOne_ a b0 p1) i1 J1) (by first | with_reducible rfl | (simp only [markOne_, eq_false c15, eq_true c15d, eq_false c27, eq_false c36, eq_true c36d, ↓reduceIte, if_true, if_false, decide_true, decide_false, eq_self, b2i_t, b2i_f, Bool.false_eq_true, and_true, true_and, and_false, false_and, or_true, true_or, or_false, false_or, not_true_eq_false, not_false_eq_true] <;> rfl) | simp [markOne_, eq_false c15, eq_true c15d, eq_false c27, eq_false c36, eq_true c36d]) ?_
            exact ih1 _ _ ((congrFun (markOne_fr (by omega)) 0).trans hf1) (cnt_nx hm1) (loopN_s.symm.trans hR1)
  exact hL10 (cnt (0) (I b0 0)) (0) (fillL_ I (a + 5) 88 0) (congrFun (fillL_fr (by omega)) 0) rfl rfl
set_option maxRecDepth 100000 in
set_option maxHeartbeats 1000000 in
theorem sp_X2_giveSlot {l : Launch} {k : im_K} {S : im_S} {I : im_I} {a m : Nat} {b0 : Nat} {b1 : Nat} {p2 : Int32} (h : o_X2 S a m) (hb0 : o_X3 S b0) (hb1 : o_X4 S b1) (hv : b1 < a ∨ a + 5 < b1) : im_Runs l k 3 mX2_giveSlot [.ref a, .ref b0, .ref b1, .int p2] (S, I) (none) (S, giveSlot_ I a b0 b1 p2) := by
  refine im_run (by decide +kernel) ⟨Nat.le_refl _, Nat.le_refl _⟩ (Nat.le_of_ble_eq_true rfl) ?_
  intro X hl hX hxn hxz hxc hxs
  subst hl
  change im_E X k _ 0 [some (.ref a), some (.ref b0), some (.ref b1), some (.int p2), none, none] [] S I
  refine r_aload_n (pc := 0) hX dX2_giveSlot_0 rfl ?_
  refine r_iload_n (pc := 1) hX dX2_giveSlot_1 rfl ?_
  refine r_callV (Z := mX3_writtenBy) (t := 3) (pc := 2) hX dX2_giveSlot_2 ml_X2_58 mX3_writtenBy_w ⟨by decide, rfl⟩ (o_X3_k hb0) (sp_X3_writtenBy hb0) rfl rfl (Nat.le_of_ble_eq_true rfl) (by decide) rfl (Or.inl rfl) ?_
  refine r_istore (pc := 5) hX (L' := [_, _, _, _, _, _]) dX2_giveSlot_5 rfl rfl (Nat.le_of_ble_eq_true rfl) ?_
  refine r_aload_n (pc := 7) hX dX2_giveSlot_7 rfl ?_
  refine r_iload (pc := 8) hX dX2_giveSlot_8 rfl ?_
  refine r_callV (Z := mX4_writesOf) (t := 4) (pc := 10) hX dX2_giveSlot_10 ml_X2_149 mX4_writesOf_w ⟨by decide, rfl⟩ (o_X4_k hb1) (sp_X4_writesOf hb1) rfl rfl (Nat.le_of_ble_eq_true rfl) (by decide) rfl (Or.inl rfl) ?_
  refine r_iconst (pc := 13) hX 1 dX2_giveSlot_13 (by decide) ?_
  refine r_icmp_ne (pc := 14) hX 60 dX2_giveSlot_14 (by decide) (fun c14 => ?_) (fun c14 => ?_)
  · refine r_aload_n (pc := 60) hX dX2_giveSlot_60 rfl ?_
    refine r_aload_n (pc := 61) hX dX2_giveSlot_61 rfl ?_
    refine r_iload_n (pc := 62) hX dX2_giveSlot_62 rfl ?_
    refine r_callV (Z := mX2_firstSlotFree) (t := 2) (pc := 63) hX dX2_giveSlot_63 ml_X2_155 mX2_firstSlotFree_w ⟨by decide, rfl⟩ (o_X2_k h) (sp_X2_firstSlotFree h hb1 hv) rfl rfl (Nat.le_of_ble_eq_true rfl) (by decide) rfl (Or.inl rfl) ?_
    refine r_istore (pc := 66) hX (L' := [_, _, _, _, _, _]) dX2_giveSlot_66 rfl rfl (Nat.le_of_ble_eq_true rfl) ?_
    refine r_aload_n (pc := 68) hX dX2_giveSlot_68 rfl ?_
    refine r_getr (pc := 69) hX dX2_giveSlot_69 fl_X2_19 rfl (o_X2_k h) (o_X2_r6 h) ?_
    refine r_iload (pc := 72) hX dX2_giveSlot_72 rfl ?_
    refine r_iload (pc := 74) hX dX2_giveSlot_74 rfl ?_
    refine r_callSN (Z := mX11_put) (pc := 76) hX dX2_giveSlot_76 mn_X2_117 mX11_put_w (sp_X11_put (o_X2_a6 h)) rfl rfl (Nat.le_of_ble_eq_true rfl) (by decide) rfl (Or.inl rfl) ?_
    refine r_aload_n (pc := 79) hX dX2_giveSlot_79 rfl ?_
    refine r_aload_n (pc := 80) hX dX2_giveSlot_80 rfl ?_
    refine r_geti (pc := 81) hX dX2_giveSlot_81 fl_X2_38 rfl (o_X2_k h) ?_
    refine r_iload (pc := 84) hX dX2_giveSlot_84 rfl ?_
    refine r_iconst (pc := 86) hX 1 dX2_giveSlot_86 (by decide) ?_
    refine r_iadd (pc := 87) hX dX2_giveSlot_87 ?_
    refine r_mmax (pc := 88) hX dX2_giveSlot_88 ml_X2_158 w_mmax (Nat.le_of_ble_eq_true rfl) (by decide) rfl ?_
    refine r_puti (pc := 91) hX dX2_giveSlot_91 fl_X2_38 rfl rfl (o_X2_k h) ?_
    exact r_return (pc := 94) hX dX2_giveSlot_94 rfl rfl (by first | with_reducible rfl | (simp only [giveSlot_, max_, eq_false c14, ↓reduceIte, if_true, if_false, decide_true, decide_false, eq_self, b2i_t, b2i_f, Bool.false_eq_true, and_true, true_and, and_false, false_and, or_true, true_or, or_false, false_or, not_true_eq_false, not_false_eq_true] <;> rfl) | simp [giveSlot_, max_, eq_false c14])
  · refine r_aload_n (pc := 17) hX dX2_giveSlot_17 rfl ?_
    refine r_iload_n (pc := 18) hX dX2_giveSlot_18 rfl ?_
    refine r_callV (Z := mX3_kindOf) (t := 3) (pc := 19) hX dX2_giveSlot_19 ml_X2_128 mX3_kindOf_w ⟨by decide, rfl⟩ (o_X3_k hb0) (sp_X3_kindOf hb0) rfl rfl (Nat.le_of_ble_eq_true rfl) (by decide) rfl (Or.inl rfl) ?_
    refine r_if_ne (pc := 22) hX 60 dX2_giveSlot_22 (by decide) (fun c22 => ?_) (fun c22 => ?_)
    · refine r_aload_n (pc := 60) hX dX2_giveSlot_60 rfl ?_
      refine r_aload_n (pc := 61) hX dX2_giveSlot_61 rfl ?_
      refine r_iload_n (pc := 62) hX dX2_giveSlot_62 rfl ?_
      refine r_callV (Z := mX2_firstSlotFree) (t := 2) (pc := 63) hX dX2_giveSlot_63 ml_X2_155 mX2_firstSlotFree_w ⟨by decide, rfl⟩ (o_X2_k h) (sp_X2_firstSlotFree h hb1 hv) rfl rfl (Nat.le_of_ble_eq_true rfl) (by decide) rfl (Or.inl rfl) ?_
      refine r_istore (pc := 66) hX (L' := [_, _, _, _, _, _]) dX2_giveSlot_66 rfl rfl (Nat.le_of_ble_eq_true rfl) ?_
      refine r_aload_n (pc := 68) hX dX2_giveSlot_68 rfl ?_
      refine r_getr (pc := 69) hX dX2_giveSlot_69 fl_X2_19 rfl (o_X2_k h) (o_X2_r6 h) ?_
      refine r_iload (pc := 72) hX dX2_giveSlot_72 rfl ?_
      refine r_iload (pc := 74) hX dX2_giveSlot_74 rfl ?_
      refine r_callSN (Z := mX11_put) (pc := 76) hX dX2_giveSlot_76 mn_X2_117 mX11_put_w (sp_X11_put (o_X2_a6 h)) rfl rfl (Nat.le_of_ble_eq_true rfl) (by decide) rfl (Or.inl rfl) ?_
      refine r_aload_n (pc := 79) hX dX2_giveSlot_79 rfl ?_
      refine r_aload_n (pc := 80) hX dX2_giveSlot_80 rfl ?_
      refine r_geti (pc := 81) hX dX2_giveSlot_81 fl_X2_38 rfl (o_X2_k h) ?_
      refine r_iload (pc := 84) hX dX2_giveSlot_84 rfl ?_
      refine r_iconst (pc := 86) hX 1 dX2_giveSlot_86 (by decide) ?_
      refine r_iadd (pc := 87) hX dX2_giveSlot_87 ?_
      refine r_mmax (pc := 88) hX dX2_giveSlot_88 ml_X2_158 w_mmax (Nat.le_of_ble_eq_true rfl) (by decide) rfl ?_
      refine r_puti (pc := 91) hX dX2_giveSlot_91 fl_X2_38 rfl rfl (o_X2_k h) ?_
      exact r_return (pc := 94) hX dX2_giveSlot_94 rfl rfl (by first | with_reducible rfl | (simp only [giveSlot_, max_, eq_true c14, eq_false c22, ↓reduceIte, if_true, if_false, decide_true, decide_false, eq_self, b2i_t, b2i_f, Bool.false_eq_true, and_true, true_and, and_false, false_and, or_true, true_or, or_false, false_or, not_true_eq_false, not_false_eq_true] <;> rfl) | simp [giveSlot_, max_, eq_true c14, eq_false c22])
    · refine r_aload_n (pc := 25) hX dX2_giveSlot_25 rfl ?_
      refine r_getr (pc := 26) hX dX2_giveSlot_26 fl_X2_22 rfl (o_X2_k h) (o_X2_r7 h) ?_
      refine r_iload (pc := 29) hX dX2_giveSlot_29 rfl ?_
      refine r_iconst (pc := 31) hX 1 dX2_giveSlot_31 (by decide) ?_
      refine r_callSN (Z := mX11_put) (pc := 32) hX dX2_giveSlot_32 mn_X2_117 mX11_put_w (sp_X11_put (o_X2_a7 h)) rfl rfl (Nat.le_of_ble_eq_true rfl) (by decide) rfl (Or.inl rfl) ?_
      refine r_aload_n (pc := 35) hX dX2_giveSlot_35 rfl ?_
      refine r_getr (pc := 36) hX dX2_giveSlot_36 fl_X2_25 rfl (o_X2_k h) (o_X2_r8 h) ?_
      refine r_iload (pc := 39) hX dX2_giveSlot_39 rfl ?_
      refine r_aload_n (pc := 41) hX dX2_giveSlot_41 rfl ?_
      refine r_iload_n (pc := 42) hX dX2_giveSlot_42 rfl ?_
      refine r_callV (Z := mX3_numberOf) (t := 3) (pc := 43) hX dX2_giveSlot_43 ml_X2_152 mX3_numberOf_w ⟨by decide, rfl⟩ (o_X3_k hb0) (sp_X3_numberOf hb0) rfl rfl (Nat.le_of_ble_eq_true rfl) (by decide) rfl (Or.inl rfl) ?_
      refine r_callSN (Z := mX11_put) (pc := 46) hX dX2_giveSlot_46 mn_X2_117 mX11_put_w (sp_X11_put (o_X2_a8 h)) rfl rfl (Nat.le_of_ble_eq_true rfl) (by decide) rfl (Or.inl rfl) ?_
      refine r_aload_n (pc := 49) hX dX2_giveSlot_49 rfl ?_
      refine r_dup (pc := 50) hX dX2_giveSlot_50 rfl ?_
      refine r_geti (pc := 51) hX dX2_giveSlot_51 fl_X2_35 rfl (o_X2_k h) ?_
      refine r_iconst (pc := 54) hX 1 dX2_giveSlot_54 (by decide) ?_
      refine r_iadd (pc := 55) hX dX2_giveSlot_55 ?_
      refine r_puti (pc := 56) hX dX2_giveSlot_56 fl_X2_35 rfl rfl (o_X2_k h) ?_
      exact r_return (pc := 59) hX dX2_giveSlot_59 rfl rfl (by first | with_reducible rfl | (simp only [giveSlot_, max_, eq_true c14, eq_true c22, ↓reduceIte, if_true, if_false, decide_true, decide_false, eq_self, b2i_t, b2i_f, Bool.false_eq_true, and_true, true_and, and_false, false_and, or_true, true_or, or_false, false_or, not_true_eq_false, not_false_eq_true] <;> rfl) | simp [giveSlot_, max_, eq_true c14, eq_true c22])
set_option maxRecDepth 100000 in
set_option maxHeartbeats 1000000 in
theorem sp_X2_keptInUse {l : Launch} {k : im_K} {S : im_S} {I : im_I} {a m : Nat} {p0 : Int32} (h : o_X2 S a m) : im_Runs l k 1 mX2_keptInUse [.ref a, .int p0] (S, I) (some (.int (keptInUse_ I a m p0))) (S, I) := by
  refine im_run (by decide +kernel) ⟨Nat.le_refl _, Nat.le_refl _⟩ (Nat.le_of_ble_eq_true rfl) ?_
  intro X hl hX hxn hxz hxc hxs
  subst hl
  change im_E X k _ 0 [some (.ref a), some (.int p0), none, none] [] S I
  refine r_iconst (pc := 0) hX 0 dX2_keptInUse_0 (by decide) ?_
  refine r_istore_n (pc := 1) hX (L' := [_, _, _, _]) dX2_keptInUse_1 rfl rfl (Nat.le_of_ble_eq_true rfl) ?_
  refine r_iconst (pc := 2) hX 0 dX2_keptInUse_2 (by decide) ?_
  refine r_istore_n (pc := 3) hX (L' := [_, _, _, _]) dX2_keptInUse_3 rfl rfl (Nat.le_of_ble_eq_true rfl) ?_
  have hL4 : ∀ (w1 : Nat) (i1 : Int32) (J1 : Int32), cnt i1 (p0) = w1 → loopN w1 i1 (fun i u => u ||| bit_ (at_ (I (a + 1)) 88 i)) J1 = loopN (cnt (0) (p0)) (0) (fun i u => u ||| bit_ (at_ (I (a + 1)) 88 i)) (0) → im_E X k (im_Q X k (some (.int (keptInUse_ I a m p0))) (S, I)) 4 [some (.ref a), some (.int p0), some (.int J1), some (.int i1)] [] S I := by
    intro w1
    induction w1 with
    | zero =>
      intro i1 J1  hm1 hR1
      refine r_iload_n (pc := 4) hX dX2_keptInUse_4 rfl ?_
      refine r_iload_n (pc := 5) hX dX2_keptInUse_5 rfl ?_
      refine r_icmp_ge (pc := 6) hX 29 dX2_keptInUse_6 (by decide) (fun c6 => ?_) (fun c6 => ?_)
      · have c6d := Int32.not_lt.mpr c6
        rw [loopN_0] at hR1
        subst hR1
        refine r_iload_n (pc := 29) hX dX2_keptInUse_29 rfl ?_
        refine r_aload_n (pc := 30) hX dX2_keptInUse_30 rfl ?_
        refine r_getr (pc := 31) hX dX2_keptInUse_31 fl_X2_9 rfl (o_X2_k h) (o_X2_r4 h) ?_
        refine r_geti (pc := 34) hX dX2_keptInUse_34 fl_X2_86 rfl (o_X5_k (o_X2_o4 h)) ?_
        refine r_iand (pc := 37) hX dX2_keptInUse_37 ?_
        refine r_callS (Z := mJ6_bitCount_0f7a4) (pc := 38) hX dX2_keptInUse_38 ml_X2_163 mJ6_bitCount_0f7a4_w (sp_J6_bitCount_0f7a4) rfl rfl (Nat.le_of_ble_eq_true rfl) (by decide) rfl (Or.inl rfl) ?_
        exact r_ireturn (pc := 41) hX dX2_keptInUse_41 rfl rfl (by first | with_reducible rfl | (simp only [keptInUse_, loopC, eq_true c6, eq_false c6d, ↓reduceIte, if_true, if_false, decide_true, decide_false, eq_self, b2i_t, b2i_f, Bool.false_eq_true, and_true, true_and, and_false, false_and, or_true, true_or, or_false, false_or, not_true_eq_false, not_false_eq_true] <;> rfl) | simp [keptInUse_, loopC, eq_true c6, eq_false c6d]) rfl
      · have c6d := Int32.not_le.mp c6
        exact (cnt_ex hm1  c6).elim
    | succ w1 ih1 =>
      intro i1 J1  hm1 hR1
      refine r_iload_n (pc := 4) hX dX2_keptInUse_4 rfl ?_
      refine r_iload_n (pc := 5) hX dX2_keptInUse_5 rfl ?_
      refine r_icmp_ge (pc := 6) hX 29 dX2_keptInUse_6 (by decide) (fun c6 => ?_) (fun c6 => ?_)
      · have c6d := Int32.not_lt.mpr c6
        exact (cnt_go hm1  c6).elim
      · have c6d := Int32.not_le.mp c6
        refine r_iload_n (pc := 9) hX dX2_keptInUse_9 rfl ?_
        refine r_aload_n (pc := 10) hX dX2_keptInUse_10 rfl ?_
        refine r_getr (pc := 11) hX dX2_keptInUse_11 fl_X2_15 rfl (o_X2_k h) (o_X2_r5 h) ?_
        refine r_iload_n (pc := 14) hX dX2_keptInUse_14 rfl ?_
        refine r_callSN (Z := mX11_at) (pc := 15) hX dX2_keptInUse_15 mn_X2_121 mX11_at_w (sp_X11_at (o_X2_a5 h)) rfl rfl (Nat.le_of_ble_eq_true rfl) (by decide) rfl (Or.inl rfl) ?_
        refine r_callSN (Z := mX11_bit) (pc := 18) hX dX2_keptInUse_18 mn_X2_95 mX11_bit_w (sp_X11_bit) rfl rfl (Nat.le_of_ble_eq_true rfl) (by decide) rfl (Or.inl rfl) ?_
        refine r_ior (pc := 21) hX dX2_keptInUse_21 ?_
        refine r_istore_n (pc := 22) hX (L' := [_, _, _, _]) dX2_keptInUse_22 rfl rfl (Nat.le_of_ble_eq_true rfl) ?_
        refine r_iinc (pc := 23) hX 1 (L' := [_, _, _, _]) dX2_keptInUse_23 rfl (by decide) rfl rfl ?_
        refine r_goto (pc := 26) hX (tgt := 4) dX2_keptInUse_26 (by decide) ?_
        exact ih1 _ _  (cnt_nx hm1) (by refine Eq.trans (congrArg (loopN w1 (i1 + 1) (fun i u => u ||| bit_ (at_ (I (a + 1)) 88 i))) ?_) (loopN_s.symm.trans hR1); exact (by first | with_reducible rfl | (simp only [eq_false c6, eq_true c6d, ↓reduceIte, if_true, if_false, decide_true, decide_false, eq_self, b2i_t, b2i_f, Bool.false_eq_true, and_true, true_and, and_false, false_and, or_true, true_or, or_false, false_or, not_true_eq_false, not_false_eq_true] <;> rfl) | simp [eq_false c6, eq_true c6d]))
  exact hL4 (cnt (0) (p0)) (0) (0)  rfl rfl
set_option maxRecDepth 100000 in
set_option maxHeartbeats 1000000 in
theorem sp_X2_give {l : Launch} {k : im_K} {S : im_S} {I : im_I} {a m : Nat} {b0 : Nat} {b1 : Nat} (h : o_X2 S a m) (hb0 : o_X3 S b0) (hb1 : o_X4 S b1) (hr : b0 < a ∨ a + 5 < b0) (hv : b1 < a ∨ a + 5 < b1) : im_Runs l k 4 mX2_give [.ref a, .ref b0, .ref b1] (S, I) (none) (S, give_ I a m b0 b1) := by
  refine im_run (by decide +kernel) ⟨Nat.le_refl _, Nat.le_refl _⟩ (Nat.le_of_ble_eq_true rfl) ?_
  intro X hl hX hxn hxz hxc hxs
  subst hl
  change im_E X k _ 0 [some (.ref a), some (.ref b0), some (.ref b1), none] [] S I
  refine r_aload_n (pc := 0) hX dX2_give_0 rfl ?_
  refine r_iconst (pc := 1) hX 0 dX2_give_1 (by decide) ?_
  refine r_puti (pc := 2) hX dX2_give_2 fl_X2_31 rfl rfl (o_X2_k h) ?_
  refine r_aload_n (pc := 5) hX dX2_give_5 rfl ?_
  refine r_iconst (pc := 6) hX 0 dX2_give_6 (by decide) ?_
  refine r_puti (pc := 7) hX dX2_give_7 fl_X2_35 rfl rfl (o_X2_k h) ?_
  refine r_aload_n (pc := 10) hX dX2_give_10 rfl ?_
  refine r_iconst (pc := 11) hX 0 dX2_give_11 (by decide) ?_
  refine r_puti (pc := 12) hX dX2_give_12 fl_X2_38 rfl rfl (o_X2_k h) ?_
  refine r_aload_n (pc := 15) hX dX2_give_15 rfl ?_
  refine r_getr (pc := 16) hX dX2_give_16 fl_X2_15 rfl (o_X2_k h) (o_X2_r5 h) ?_
  refine r_iconst (pc := 19) hX (-1) dX2_give_19 (by decide) ?_
  refine r_callSN (Z := mX11_fill) (pc := 20) hX dX2_give_20 mn_X2_41 mX11_fill_w (sp_X11_fill (o_X2_a5 h)) rfl rfl (Nat.le_of_ble_eq_true rfl) (by decide) rfl (Or.inl rfl) ?_
  refine r_aload_n (pc := 23) hX dX2_give_23 rfl ?_
  refine r_getr (pc := 24) hX dX2_give_24 fl_X2_19 rfl (o_X2_k h) (o_X2_r6 h) ?_
  refine r_iconst (pc := 27) hX (-1) dX2_give_27 (by decide) ?_
  refine r_callSN (Z := mX11_fill) (pc := 28) hX dX2_give_28 mn_X2_41 mX11_fill_w (sp_X11_fill (o_X2_a6 h)) rfl rfl (Nat.le_of_ble_eq_true rfl) (by decide) rfl (Or.inl rfl) ?_
  refine r_aload_n (pc := 31) hX dX2_give_31 rfl ?_
  refine r_getr (pc := 32) hX dX2_give_32 fl_X2_22 rfl (o_X2_k h) (o_X2_r7 h) ?_
  refine r_iconst (pc := 35) hX 0 dX2_give_35 (by decide) ?_
  refine r_callSN (Z := mX11_fill) (pc := 36) hX dX2_give_36 mn_X2_41 mX11_fill_w (sp_X11_fill (o_X2_a7 h)) rfl rfl (Nat.le_of_ble_eq_true rfl) (by decide) rfl (Or.inl rfl) ?_
  refine r_iconst (pc := 39) hX 0 dX2_give_39 (by decide) ?_
  refine r_istore_n (pc := 40) hX (L' := [_, _, _, _]) dX2_give_40 rfl rfl (Nat.le_of_ble_eq_true rfl) ?_
  have hL41 : ∀ (w1 : Nat) (i1 : Int32) (J1 : im_I), J1 b0 0 = I b0 0 → cnt i1 (I b0 0) = w1 → loopN w1 i1 (giveROne_ a m b0 b1) J1 = loopN (cnt (0) (I b0 0)) (0) (giveROne_ a m b0 b1) (give0_ I a) → im_E X k (im_Q X k (none) (S, give_ I a m b0 b1)) 41 [some (.ref a), some (.ref b0), some (.ref b1), some (.int i1)] [] S J1 := by
    intro w1
    induction w1 with
    | zero =>
      intro i1 J1 hf1 hm1 hR1
      refine r_iload_n (pc := 41) hX dX2_give_41 rfl ?_
      refine r_aload_n (pc := 42) hX dX2_give_42 rfl ?_
      refine r_geti (pc := 43) hX dX2_give_43 fl_X2_45 rfl (o_X3_k hb0) ?_
      refine r_icmp_ge (pc := 46) hX 71 dX2_give_46 (by decide) (fun c46 => ?_) (fun c46 => ?_)
      · have c46d := Int32.not_lt.mpr c46
        rw [loopN_0] at hR1
        subst hR1
        refine r_iconst (pc := 71) hX 0 dX2_give_71 (by decide) ?_
        refine r_istore_n (pc := 72) hX (L' := [_, _, _, _]) dX2_give_72 rfl rfl (Nat.le_of_ble_eq_true rfl) ?_
        have hL73 : ∀ (w2 : Nat) (i2 : Int32) (J2 : im_I), J2 b0 0 = I b0 0 → cnt i2 (I b0 0) = w2 → loopN w2 i2 (giveSOne_ a b0 b1) J2 = loopN (cnt (0) (I b0 0)) (0) (giveSOne_ a b0 b1) (give1_ I a m b0 b1) → im_E X k (im_Q X k (none) (S, give_ I a m b0 b1)) 73 [some (.ref a), some (.ref b0), some (.ref b1), some (.int i2)] [] S J2 := by
          intro w2
          induction w2 with
          | zero =>
            intro i2 J2 hf2 hm2 hR2
            refine r_iload_n (pc := 73) hX dX2_give_73 rfl ?_
            refine r_aload_n (pc := 74) hX dX2_give_74 rfl ?_
            refine r_geti (pc := 75) hX dX2_give_75 fl_X2_45 rfl (o_X3_k hb0) ?_
            refine r_icmp_ge (pc := 78) hX 125 dX2_give_78 (by decide) (fun c78 => ?_) (fun c78 => ?_)
            · have c78d := Int32.not_lt.mpr c78
              rw [loopN_0] at hR2
              subst hR2
              refine r_mem (I' := give2_ I a m b0 b1) (by simp only [give2_, loopC]) ?_
              refine r_aload_n (pc := 125) hX dX2_give_125 rfl ?_
              refine r_aload_n (pc := 126) hX dX2_give_126 rfl ?_
              refine r_geti (pc := 127) hX dX2_give_127 fl_X2_38 rfl (o_X2_k h) ?_
              refine r_aload_n (pc := 130) hX dX2_give_130 rfl ?_
              refine r_aload_n (pc := 131) hX dX2_give_131 rfl ?_
              refine r_geti (pc := 132) hX dX2_give_132 fl_X2_69 rfl (o_X4_k hb1) ?_
              refine r_callV (Z := mX2_keptInUse) (t := 2) (pc := 135) hX dX2_give_135 ml_X2_74 mX2_keptInUse_w ⟨by decide, rfl⟩ (o_X2_k h) (sp_X2_keptInUse h) rfl rfl (Nat.le_of_ble_eq_true rfl) (by decide) rfl (Or.inl rfl) ?_
              refine r_iadd (pc := 138) hX dX2_give_138 ?_
              refine r_puti (pc := 139) hX dX2_give_139 fl_X2_77 rfl rfl (o_X2_k h) ?_
              refine r_aload_n (pc := 142) hX dX2_give_142 rfl ?_
              refine r_dup (pc := 143) hX dX2_give_143 rfl ?_
              refine r_geti (pc := 144) hX dX2_give_144 fl_X2_77 rfl (o_X2_k h) ?_
              refine r_aload_n (pc := 147) hX dX2_give_147 rfl ?_
              refine r_geti (pc := 148) hX dX2_give_148 fl_X2_77 rfl (o_X2_k h) ?_
              refine r_iconst (pc := 151) hX 1 dX2_give_151 (by decide) ?_
              refine r_iand (pc := 152) hX dX2_give_152 ?_
              refine r_iadd (pc := 153) hX dX2_give_153 ?_
              refine r_puti (pc := 154) hX dX2_give_154 fl_X2_77 rfl rfl (o_X2_k h) ?_
              exact r_return (pc := 157) hX dX2_give_157 rfl rfl (by first | with_reducible rfl | (simp only [give_, eq_true c46, eq_false c46d, eq_true c78, eq_false c78d, ↓reduceIte, if_true, if_false, decide_true, decide_false, eq_self, b2i_t, b2i_f, Bool.false_eq_true, and_true, true_and, and_false, false_and, or_true, true_or, or_false, false_or, not_true_eq_false, not_false_eq_true] <;> rfl) | simp [give_, eq_true c46, eq_false c46d, eq_true c78, eq_false c78d])
            · have c78d := Int32.not_le.mp c78
              rw [hf2] at c78; exact (cnt_ex hm2  c78).elim
          | succ w2 ih2 =>
            intro i2 J2 hf2 hm2 hR2
            refine r_iload_n (pc := 73) hX dX2_give_73 rfl ?_
            refine r_aload_n (pc := 74) hX dX2_give_74 rfl ?_
            refine r_geti (pc := 75) hX dX2_give_75 fl_X2_45 rfl (o_X3_k hb0) ?_
            refine r_icmp_ge (pc := 78) hX 125 dX2_give_78 (by decide) (fun c78 => ?_) (fun c78 => ?_)
            · have c78d := Int32.not_lt.mpr c78
              rw [hf2] at c78; exact (cnt_go hm2  c78).elim
            · have c78d := Int32.not_le.mp c78
              refine r_aload_n (pc := 81) hX dX2_give_81 rfl ?_
              refine r_aload_n (pc := 82) hX dX2_give_82 rfl ?_
              refine r_iload_n (pc := 83) hX dX2_give_83 rfl ?_
              refine r_callS (Z := mX2_isBirth) (pc := 84) hX dX2_give_84 ml_X2_50 mX2_isBirth_w (sp_X2_isBirth hb0 hb1) rfl rfl (Nat.le_of_ble_eq_true rfl) (by decide) rfl (Or.inl rfl) ?_
              refine r_if_eq (pc := 87) hX 119 dX2_give_87 (by decide) (fun c87 => ?_) (fun c87 => ?_)
              · replace c87 := b2i_0 c87
                refine r_iinc (pc := 119) hX 1 (L' := [_, _, _, _]) dX2_give_119 rfl (by decide) rfl rfl ?_
                refine r_goto (pc := 122) hX (tgt := 73) dX2_give_122 (by decide) ?_
                refine r_mem (I' := (giveSOne_ a b0 b1) i2 J2) (by first | with_reducible rfl | (simp only [giveSOne_, eq_true c46, eq_false c46d, eq_false c78, eq_true c78d, c87, ↓reduceIte, if_true, if_false, decide_true, decide_false, eq_self, b2i_t, b2i_f, Bool.false_eq_true, and_true, true_and, and_false, false_and, or_true, true_or, or_false, false_or, not_true_eq_false, not_false_eq_true] <;> rfl) | simp [giveSOne_, eq_true c46, eq_false c46d, eq_false c78, eq_true c78d, c87]) ?_
                exact ih2 _ _ ((congrFun (giveSOne_fr hr) 0).trans hf2) (cnt_nx hm2) (loopN_s.symm.trans hR2)
              · replace c87 := b2i_1 c87
                refine r_aload_n (pc := 90) hX dX2_give_90 rfl ?_
                refine r_aload_n (pc := 91) hX dX2_give_91 rfl ?_
                refine r_iload_n (pc := 92) hX dX2_give_92 rfl ?_
                refine r_callV (Z := mX3_writtenBy) (t := 3) (pc := 93) hX dX2_give_93 ml_X2_58 mX3_writtenBy_w ⟨by decide, rfl⟩ (o_X3_k hb0) (sp_X3_writtenBy hb0) rfl rfl (Nat.le_of_ble_eq_true rfl) (by decide) rfl (Or.inl rfl) ?_
                refine r_callV (Z := mX2_isSpilled) (t := 2) (pc := 96) hX dX2_give_96 ml_X2_62 mX2_isSpilled_w ⟨by decide, rfl⟩ (o_X2_k h) (sp_X2_isSpilled h) rfl rfl (Nat.le_of_ble_eq_true rfl) (by decide) rfl (Or.inl rfl) ?_
                refine r_if_eq (pc := 99) hX 119 dX2_give_99 (by decide) (fun c99 => ?_) (fun c99 => ?_)
                · replace c99 := b2i_0 c99
                  refine r_iinc (pc := 119) hX 1 (L' := [_, _, _, _]) dX2_give_119 rfl (by decide) rfl rfl ?_
                  refine r_goto (pc := 122) hX (tgt := 73) dX2_give_122 (by decide) ?_
                  refine r_mem (I' := (giveSOne_ a b0 b1) i2 J2) (by first | with_reducible rfl | (simp only [giveSOne_, eq_true c46, eq_false c46d, eq_false c78, eq_true c78d, c87, c99, ↓reduceIte, if_true, if_false, decide_true, decide_false, eq_self, b2i_t, b2i_f, Bool.false_eq_true, and_true, true_and, and_false, false_and, or_true, true_or, or_false, false_or, not_true_eq_false, not_false_eq_true] <;> rfl) | simp [giveSOne_, eq_true c46, eq_false c46d, eq_false c78, eq_true c78d, c87, c99]) ?_
                  exact ih2 _ _ ((congrFun (giveSOne_fr hr) 0).trans hf2) (cnt_nx hm2) (loopN_s.symm.trans hR2)
                · replace c99 := b2i_1 c99
                  refine r_aload_n (pc := 102) hX dX2_give_102 rfl ?_
                  refine r_dup (pc := 103) hX dX2_give_103 rfl ?_
                  refine r_geti (pc := 104) hX dX2_give_104 fl_X2_31 rfl (o_X2_k h) ?_
                  refine r_iconst (pc := 107) hX 1 dX2_give_107 (by decide) ?_
                  refine r_iadd (pc := 108) hX dX2_give_108 ?_
                  refine r_puti (pc := 109) hX dX2_give_109 fl_X2_31 rfl rfl (o_X2_k h) ?_
                  refine r_aload_n (pc := 112) hX dX2_give_112 rfl ?_
                  refine r_aload_n (pc := 113) hX dX2_give_113 rfl ?_
                  refine r_aload_n (pc := 114) hX dX2_give_114 rfl ?_
                  refine r_iload_n (pc := 115) hX dX2_give_115 rfl ?_
                  refine r_callV (Z := mX2_giveSlot) (t := 2) (pc := 116) hX dX2_give_116 ml_X2_66 mX2_giveSlot_w ⟨by decide, rfl⟩ (o_X2_k h) (sp_X2_giveSlot h hb0 hb1 hv) rfl rfl (Nat.le_of_ble_eq_true rfl) (by decide) rfl (Or.inl rfl) ?_
                  refine r_iinc (pc := 119) hX 1 (L' := [_, _, _, _]) dX2_give_119 rfl (by decide) rfl rfl ?_
                  refine r_goto (pc := 122) hX (tgt := 73) dX2_give_122 (by decide) ?_
                  refine r_mem (I' := (giveSOne_ a b0 b1) i2 J2) (by first | with_reducible rfl | (simp only [giveSOne_, eq_true c46, eq_false c46d, eq_false c78, eq_true c78d, c87, c99, ↓reduceIte, if_true, if_false, decide_true, decide_false, eq_self, b2i_t, b2i_f, Bool.false_eq_true, and_true, true_and, and_false, false_and, or_true, true_or, or_false, false_or, not_true_eq_false, not_false_eq_true] <;> rfl) | simp [giveSOne_, eq_true c46, eq_false c46d, eq_false c78, eq_true c78d, c87, c99]) ?_
                  exact ih2 _ _ ((congrFun (giveSOne_fr hr) 0).trans hf2) (cnt_nx hm2) (loopN_s.symm.trans hR2)
        refine r_mem (I' := give1_ I a m b0 b1) (by simp only [give1_, loopC]) ?_
        exact hL73 (cnt (0) (I b0 0)) (0) (give1_ I a m b0 b1) (congrFun (give1_fr hr) 0) rfl rfl
      · have c46d := Int32.not_le.mp c46
        rw [hf1] at c46; exact (cnt_ex hm1  c46).elim
    | succ w1 ih1 =>
      intro i1 J1 hf1 hm1 hR1
      refine r_iload_n (pc := 41) hX dX2_give_41 rfl ?_
      refine r_aload_n (pc := 42) hX dX2_give_42 rfl ?_
      refine r_geti (pc := 43) hX dX2_give_43 fl_X2_45 rfl (o_X3_k hb0) ?_
      refine r_icmp_ge (pc := 46) hX 71 dX2_give_46 (by decide) (fun c46 => ?_) (fun c46 => ?_)
      · have c46d := Int32.not_lt.mpr c46
        rw [hf1] at c46; exact (cnt_go hm1  c46).elim
      · have c46d := Int32.not_le.mp c46
        refine r_aload_n (pc := 49) hX dX2_give_49 rfl ?_
        refine r_aload_n (pc := 50) hX dX2_give_50 rfl ?_
        refine r_iload_n (pc := 51) hX dX2_give_51 rfl ?_
        refine r_callS (Z := mX2_isBirth) (pc := 52) hX dX2_give_52 ml_X2_50 mX2_isBirth_w (sp_X2_isBirth hb0 hb1) rfl rfl (Nat.le_of_ble_eq_true rfl) (by decide) rfl (Or.inl rfl) ?_
        refine r_if_eq (pc := 55) hX 65 dX2_give_55 (by decide) (fun c55 => ?_) (fun c55 => ?_)
        · replace c55 := b2i_0 c55
          refine r_iinc (pc := 65) hX 1 (L' := [_, _, _, _]) dX2_give_65 rfl (by decide) rfl rfl ?_
          refine r_goto (pc := 68) hX (tgt := 41) dX2_give_68 (by decide) ?_
          refine r_mem (I' := (giveROne_ a m b0 b1) i1 J1) (by first | with_reducible rfl | (simp only [giveROne_, eq_false c46, eq_true c46d, c55, ↓reduceIte, if_true, if_false, decide_true, decide_false, eq_self, b2i_t, b2i_f, Bool.false_eq_true, and_true, true_and, and_false, false_and, or_true, true_or, or_false, false_or, not_true_eq_false, not_false_eq_true] <;> rfl) | simp [giveROne_, eq_false c46, eq_true c46d, c55]) ?_
          exact ih1 _ _ ((congrFun (giveROne_fr hr) 0).trans hf1) (cnt_nx hm1) (loopN_s.symm.trans hR1)
        · replace c55 := b2i_1 c55
          refine r_aload_n (pc := 58) hX dX2_give_58 rfl ?_
          refine r_aload_n (pc := 59) hX dX2_give_59 rfl ?_
          refine r_aload_n (pc := 60) hX dX2_give_60 rfl ?_
          refine r_iload_n (pc := 61) hX dX2_give_61 rfl ?_
          refine r_callV (Z := mX2_giveRegister) (t := 2) (pc := 62) hX dX2_give_62 ml_X2_54 mX2_giveRegister_w ⟨by decide, rfl⟩ (o_X2_k h) (sp_X2_giveRegister h hb0 hb1) rfl rfl (Nat.le_of_ble_eq_true rfl) (by decide) rfl (Or.inl rfl) ?_
          refine r_iinc (pc := 65) hX 1 (L' := [_, _, _, _]) dX2_give_65 rfl (by decide) rfl rfl ?_
          refine r_goto (pc := 68) hX (tgt := 41) dX2_give_68 (by decide) ?_
          refine r_mem (I' := (giveROne_ a m b0 b1) i1 J1) (by first | with_reducible rfl | (simp only [giveROne_, eq_false c46, eq_true c46d, c55, ↓reduceIte, if_true, if_false, decide_true, decide_false, eq_self, b2i_t, b2i_f, Bool.false_eq_true, and_true, true_and, and_false, false_and, or_true, true_or, or_false, false_or, not_true_eq_false, not_false_eq_true] <;> rfl) | simp [giveROne_, eq_false c46, eq_true c46d, c55]) ?_
          exact ih1 _ _ ((congrFun (giveROne_fr hr) 0).trans hf1) (cnt_nx hm1) (loopN_s.symm.trans hR1)
  exact hL41 (cnt (0) (I b0 0)) (0) (give0_ I a) (congrFun (give0_fr hr) 0) rfl rfl
