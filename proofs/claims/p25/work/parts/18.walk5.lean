/-! walks, by program out of spec5.py -/
set_option maxRecDepth 100000 in
set_option maxHeartbeats 1000000 in
theorem sp_X4_firstOf {l : Launch} {k : im_K} {S : im_S} {I : im_I} {a : Nat} {p0 : Int32} (h : o_X4 S a) : im_Runs l k 1 mX4_firstOf [.ref a, .int p0] (S, I) (some (.int (firstOf_ I a p0))) (S, I) := by
  refine im_run (by decide +kernel) ⟨Nat.le_refl _, Nat.le_refl _⟩ (Nat.le_of_ble_eq_true rfl) ?_
  intro X hl hX hxn hxz hxc hxs
  subst hl
  change im_E X k _ 0 [some (.ref a), some (.int p0)] [] S I
  refine r_aload_n (pc := 0) hX dX4_firstOf_0 rfl ?_
  refine r_getr (pc := 1) hX dX4_firstOf_1 fl_X4_15 rfl (o_X4_k h) (o_X4_r4 h) ?_
  refine r_iload_n (pc := 4) hX dX4_firstOf_4 rfl ?_
  refine r_callSN (Z := mX11_at) (pc := 5) hX dX4_firstOf_5 mn_X4_93 mX11_at_w (sp_X11_at (o_X4_a4 h)) rfl rfl (Nat.le_of_ble_eq_true rfl) (by decide) rfl (Or.inl rfl) ?_
  exact r_ireturn (pc := 8) hX dX4_firstOf_8 rfl rfl (by first | with_reducible rfl | (simp only [firstOf_, ↓reduceIte, if_true, if_false, decide_true, decide_false, eq_self, b2i_t, b2i_f, Bool.false_eq_true, and_true, true_and, and_false, false_and, or_true, true_or, or_false, false_or, not_true_eq_false, not_false_eq_true] <;> rfl) | simp [firstOf_]) rfl
set_option maxRecDepth 100000 in
set_option maxHeartbeats 1000000 in
theorem sp_X4_lastOf {l : Launch} {k : im_K} {S : im_S} {I : im_I} {a : Nat} {p0 : Int32} (h : o_X4 S a) : im_Runs l k 1 mX4_lastOf [.ref a, .int p0] (S, I) (some (.int (lastOf_ I a p0))) (S, I) := by
  refine im_run (by decide +kernel) ⟨Nat.le_refl _, Nat.le_refl _⟩ (Nat.le_of_ble_eq_true rfl) ?_
  intro X hl hX hxn hxz hxc hxs
  subst hl
  change im_E X k _ 0 [some (.ref a), some (.int p0)] [] S I
  refine r_aload_n (pc := 0) hX dX4_lastOf_0 rfl ?_
  refine r_getr (pc := 1) hX dX4_lastOf_1 fl_X4_19 rfl (o_X4_k h) (o_X4_r5 h) ?_
  refine r_iload_n (pc := 4) hX dX4_lastOf_4 rfl ?_
  refine r_callSN (Z := mX11_at) (pc := 5) hX dX4_lastOf_5 mn_X4_93 mX11_at_w (sp_X11_at (o_X4_a5 h)) rfl rfl (Nat.le_of_ble_eq_true rfl) (by decide) rfl (Or.inl rfl) ?_
  exact r_ireturn (pc := 8) hX dX4_lastOf_8 rfl rfl (by first | with_reducible rfl | (simp only [lastOf_, ↓reduceIte, if_true, if_false, decide_true, decide_false, eq_self, b2i_t, b2i_f, Bool.false_eq_true, and_true, true_and, and_false, false_and, or_true, true_or, or_false, false_or, not_true_eq_false, not_false_eq_true] <;> rfl) | simp [lastOf_]) rfl
set_option maxRecDepth 100000 in
set_option maxHeartbeats 1000000 in
theorem sp_X4_weightOf {l : Launch} {k : im_K} {S : im_S} {I : im_I} {a : Nat} {p0 : Int32} (h : o_X4 S a) : im_Runs l k 1 mX4_weightOf [.ref a, .int p0] (S, I) (some (.int (weightOf_ I a p0))) (S, I) := by
  refine im_run (by decide +kernel) ⟨Nat.le_refl _, Nat.le_refl _⟩ (Nat.le_of_ble_eq_true rfl) ?_
  intro X hl hX hxn hxz hxc hxs
  subst hl
  change im_E X k _ 0 [some (.ref a), some (.int p0)] [] S I
  refine r_aload_n (pc := 0) hX dX4_weightOf_0 rfl ?_
  refine r_getr (pc := 1) hX dX4_weightOf_1 fl_X4_25 rfl (o_X4_k h) (o_X4_r7 h) ?_
  refine r_iload_n (pc := 4) hX dX4_weightOf_4 rfl ?_
  refine r_callSN (Z := mX11_at) (pc := 5) hX dX4_weightOf_5 mn_X4_93 mX11_at_w (sp_X11_at (o_X4_a7 h)) rfl rfl (Nat.le_of_ble_eq_true rfl) (by decide) rfl (Or.inl rfl) ?_
  exact r_ireturn (pc := 8) hX dX4_weightOf_8 rfl rfl (by first | with_reducible rfl | (simp only [weightOf_, ↓reduceIte, if_true, if_false, decide_true, decide_false, eq_self, b2i_t, b2i_f, Bool.false_eq_true, and_true, true_and, and_false, false_and, or_true, true_or, or_false, false_or, not_true_eq_false, not_false_eq_true] <;> rfl) | simp [weightOf_]) rfl
set_option maxRecDepth 100000 in
set_option maxHeartbeats 1000000 in
theorem sp_X4_crossedBy {l : Launch} {k : im_K} {S : im_S} {I : im_I} {a : Nat} {p0 : Int32} (h : o_X4 S a) : im_Runs l k 1 mX4_crossedBy [.ref a, .int p0] (S, I) (some (.int (crossedBy_ I a p0))) (S, I) := by
  refine im_run (by decide +kernel) ⟨Nat.le_refl _, Nat.le_refl _⟩ (Nat.le_of_ble_eq_true rfl) ?_
  intro X hl hX hxn hxz hxc hxs
  subst hl
  change im_E X k _ 0 [some (.ref a), some (.int p0)] [] S I
  refine r_aload_n (pc := 0) hX dX4_crossedBy_0 rfl ?_
  refine r_getr (pc := 1) hX dX4_crossedBy_1 fl_X4_34 rfl (o_X4_k h) (o_X4_r10 h) ?_
  refine r_iload_n (pc := 4) hX dX4_crossedBy_4 rfl ?_
  refine r_callSN (Z := mX11_at) (pc := 5) hX dX4_crossedBy_5 mn_X4_93 mX11_at_w (sp_X11_at (o_X4_a10 h)) rfl rfl (Nat.le_of_ble_eq_true rfl) (by decide) rfl (Or.inl rfl) ?_
  exact r_ireturn (pc := 8) hX dX4_crossedBy_8 rfl rfl (by first | with_reducible rfl | (simp only [crossedBy_, ↓reduceIte, if_true, if_false, decide_true, decide_false, eq_self, b2i_t, b2i_f, Bool.false_eq_true, and_true, true_and, and_false, false_and, or_true, true_or, or_false, false_or, not_true_eq_false, not_false_eq_true] <;> rfl) | simp [crossedBy_]) rfl
set_option maxRecDepth 100000 in
set_option maxHeartbeats 1000000 in
theorem sp_X4_writesOf {l : Launch} {k : im_K} {S : im_S} {I : im_I} {a : Nat} {p0 : Int32} (h : o_X4 S a) : im_Runs l k 1 mX4_writesOf [.ref a, .int p0] (S, I) (some (.int (writesOf_ I a p0))) (S, I) := by
  refine im_run (by decide +kernel) ⟨Nat.le_refl _, Nat.le_refl _⟩ (Nat.le_of_ble_eq_true rfl) ?_
  intro X hl hX hxn hxz hxc hxs
  subst hl
  change im_E X k _ 0 [some (.ref a), some (.int p0)] [] S I
  refine r_aload_n (pc := 0) hX dX4_writesOf_0 rfl ?_
  refine r_getr (pc := 1) hX dX4_writesOf_1 fl_X4_28 rfl (o_X4_k h) (o_X4_r8 h) ?_
  refine r_iload_n (pc := 4) hX dX4_writesOf_4 rfl ?_
  refine r_callSN (Z := mX11_at) (pc := 5) hX dX4_writesOf_5 mn_X4_93 mX11_at_w (sp_X11_at (o_X4_a8 h)) rfl rfl (Nat.le_of_ble_eq_true rfl) (by decide) rfl (Or.inl rfl) ?_
  exact r_ireturn (pc := 8) hX dX4_writesOf_8 rfl rfl (by first | with_reducible rfl | (simp only [writesOf_, ↓reduceIte, if_true, if_false, decide_true, decide_false, eq_self, b2i_t, b2i_f, Bool.false_eq_true, and_true, true_and, and_false, false_and, or_true, true_or, or_false, false_or, not_true_eq_false, not_false_eq_true] <;> rfl) | simp [writesOf_]) rfl
set_option maxRecDepth 100000 in
set_option maxHeartbeats 1000000 in
theorem sp_X4_touchesOf {l : Launch} {k : im_K} {S : im_S} {I : im_I} {a : Nat} {p0 : Int32} (h : o_X4 S a) : im_Runs l k 1 mX4_touchesOf [.ref a, .int p0] (S, I) (some (.int (touchesOf_ I a p0))) (S, I) := by
  refine im_run (by decide +kernel) ⟨Nat.le_refl _, Nat.le_refl _⟩ (Nat.le_of_ble_eq_true rfl) ?_
  intro X hl hX hxn hxz hxc hxs
  subst hl
  change im_E X k _ 0 [some (.ref a), some (.int p0)] [] S I
  refine r_aload_n (pc := 0) hX dX4_touchesOf_0 rfl ?_
  refine r_getr (pc := 1) hX dX4_touchesOf_1 fl_X4_28 rfl (o_X4_k h) (o_X4_r8 h) ?_
  refine r_iload_n (pc := 4) hX dX4_touchesOf_4 rfl ?_
  refine r_callSN (Z := mX11_at) (pc := 5) hX dX4_touchesOf_5 mn_X4_93 mX11_at_w (sp_X11_at (o_X4_a8 h)) rfl rfl (Nat.le_of_ble_eq_true rfl) (by decide) rfl (Or.inl rfl) ?_
  refine r_aload_n (pc := 8) hX dX4_touchesOf_8 rfl ?_
  refine r_getr (pc := 9) hX dX4_touchesOf_9 fl_X4_31 rfl (o_X4_k h) (o_X4_r9 h) ?_
  refine r_iload_n (pc := 12) hX dX4_touchesOf_12 rfl ?_
  refine r_callSN (Z := mX11_at) (pc := 13) hX dX4_touchesOf_13 mn_X4_93 mX11_at_w (sp_X11_at (o_X4_a9 h)) rfl rfl (Nat.le_of_ble_eq_true rfl) (by decide) rfl (Or.inl rfl) ?_
  refine r_iadd (pc := 16) hX dX4_touchesOf_16 ?_
  exact r_ireturn (pc := 17) hX dX4_touchesOf_17 rfl rfl (by first | with_reducible rfl | (simp only [touchesOf_, ↓reduceIte, if_true, if_false, decide_true, decide_false, eq_self, b2i_t, b2i_f, Bool.false_eq_true, and_true, true_and, and_false, false_and, or_true, true_or, or_false, false_or, not_true_eq_false, not_false_eq_true] <;> rfl) | simp [touchesOf_]) rfl
set_option maxRecDepth 100000 in
set_option maxHeartbeats 1000000 in
theorem sp_X4_pointOfCall {l : Launch} {k : im_K} {S : im_S} {I : im_I} {a : Nat} {p0 : Int32} (h : o_X4 S a) : im_Runs l k 1 mX4_pointOfCall [.ref a, .int p0] (S, I) (some (.int (pointOfCall_ I a p0))) (S, I) := by
  refine im_run (by decide +kernel) ⟨Nat.le_refl _, Nat.le_refl _⟩ (Nat.le_of_ble_eq_true rfl) ?_
  intro X hl hX hxn hxz hxc hxs
  subst hl
  change im_E X k _ 0 [some (.ref a), some (.int p0)] [] S I
  refine r_aload_n (pc := 0) hX dX4_pointOfCall_0 rfl ?_
  refine r_getr (pc := 1) hX dX4_pointOfCall_1 fl_X4_37 rfl (o_X4_k h) (o_X4_r11 h) ?_
  refine r_iload_n (pc := 4) hX dX4_pointOfCall_4 rfl ?_
  refine r_callSN (Z := mX11_at) (pc := 5) hX dX4_pointOfCall_5 mn_X4_93 mX11_at_w (sp_X11_at (o_X4_a11 h)) rfl rfl (Nat.le_of_ble_eq_true rfl) (by decide) rfl (Or.inl rfl) ?_
  exact r_ireturn (pc := 8) hX dX4_pointOfCall_8 rfl rfl (by first | with_reducible rfl | (simp only [pointOfCall_, ↓reduceIte, if_true, if_false, decide_true, decide_false, eq_self, b2i_t, b2i_f, Bool.false_eq_true, and_true, true_and, and_false, false_and, or_true, true_or, or_false, false_or, not_true_eq_false, not_false_eq_true] <;> rfl) | simp [pointOfCall_]) rfl
set_option maxRecDepth 100000 in
set_option maxHeartbeats 1000000 in
theorem sp_X4_isLiving {l : Launch} {k : im_K} {S : im_S} {I : im_I} {a : Nat} {p0 : Int32} (h : o_X4 S a) : im_Runs l k 1 mX4_isLiving [.ref a, .int p0] (S, I) (some (.int (b2i (isLiving_ I a p0)))) (S, I) := by
  refine im_run (by decide +kernel) ⟨Nat.le_refl _, Nat.le_refl _⟩ (Nat.le_of_ble_eq_true rfl) ?_
  intro X hl hX hxn hxz hxc hxs
  subst hl
  change im_E X k _ 0 [some (.ref a), some (.int p0)] [] S I
  refine r_iload_n (pc := 0) hX dX4_isLiving_0 rfl ?_
  refine r_bipush (pc := 1) hX 88 dX4_isLiving_1 (by decide) ?_
  refine r_callSN (Z := mX11_isBelow) (pc := 3) hX dX4_isLiving_3 mn_X4_129 mX11_isBelow_w (sp_X11_isBelow) rfl rfl (Nat.le_of_ble_eq_true rfl) (by decide) rfl (Or.inl rfl) ?_
  refine r_if_eq (pc := 6) hX 25 dX4_isLiving_6 (by decide) (fun c6 => ?_) (fun c6 => ?_)
  · replace c6 := b2i_0 c6
    refine r_iconst (pc := 25) hX 0 dX4_isLiving_25 (by decide) ?_
    exact r_ireturn (pc := 26) hX dX4_isLiving_26 rfl rfl (by first | with_reducible rfl | (simp only [isLiving_, b2i, c6, ↓reduceIte, if_true, if_false, decide_true, decide_false, eq_self, b2i_t, b2i_f, Bool.false_eq_true, and_true, true_and, and_false, false_and, or_true, true_or, or_false, false_or, not_true_eq_false, not_false_eq_true] <;> rfl) | simp [isLiving_, b2i, c6]) rfl
  · replace c6 := b2i_1 c6
    refine r_aload_n (pc := 9) hX dX4_isLiving_9 rfl ?_
    refine r_getr (pc := 10) hX dX4_isLiving_10 fl_X4_15 rfl (o_X4_k h) (o_X4_r4 h) ?_
    refine r_iload_n (pc := 13) hX dX4_isLiving_13 rfl ?_
    refine r_callSN (Z := mX11_at) (pc := 14) hX dX4_isLiving_14 mn_X4_93 mX11_at_w (sp_X11_at (o_X4_a4 h)) rfl rfl (Nat.le_of_ble_eq_true rfl) (by decide) rfl (Or.inl rfl) ?_
    refine r_iconst (pc := 17) hX (-1) dX4_isLiving_17 (by decide) ?_
    refine r_icmp_eq (pc := 18) hX 25 dX4_isLiving_18 (by decide) (fun c18 => ?_) (fun c18 => ?_)
    · refine r_iconst (pc := 25) hX 0 dX4_isLiving_25 (by decide) ?_
      exact r_ireturn (pc := 26) hX dX4_isLiving_26 rfl rfl (by first | with_reducible rfl | (simp only [isLiving_, b2i, c6, eq_true c18, ↓reduceIte, if_true, if_false, decide_true, decide_false, eq_self, b2i_t, b2i_f, Bool.false_eq_true, and_true, true_and, and_false, false_and, or_true, true_or, or_false, false_or, not_true_eq_false, not_false_eq_true] <;> rfl) | simp [isLiving_, b2i, c6, eq_true c18]) rfl
    · refine r_iconst (pc := 21) hX 1 dX4_isLiving_21 (by decide) ?_
      refine r_goto (pc := 22) hX (tgt := 26) dX4_isLiving_22 (by decide) ?_
      exact r_ireturn (pc := 26) hX dX4_isLiving_26 rfl rfl (by first | with_reducible rfl | (simp only [isLiving_, b2i, c6, eq_false c18, ↓reduceIte, if_true, if_false, decide_true, decide_false, eq_self, b2i_t, b2i_f, Bool.false_eq_true, and_true, true_and, and_false, false_and, or_true, true_or, or_false, false_or, not_true_eq_false, not_false_eq_true] <;> rfl) | simp [isLiving_, b2i, c6, eq_false c18]) rfl
set_option maxRecDepth 100000 in
set_option maxHeartbeats 1000000 in
theorem sp_X4_isCrossing {l : Launch} {k : im_K} {S : im_S} {I : im_I} {a : Nat} {p0 : Int32} {p1 : Int32} (h : o_X4 S a) : im_Runs l k 2 mX4_isCrossing [.ref a, .int p0, .int p1] (S, I) (some (.int (b2i (isCrossing_ I a p0 p1)))) (S, I) := by
  refine im_run (by decide +kernel) ⟨Nat.le_refl _, Nat.le_refl _⟩ (Nat.le_of_ble_eq_true rfl) ?_
  intro X hl hX hxn hxz hxc hxs
  subst hl
  change im_E X k _ 0 [some (.ref a), some (.int p0), some (.int p1)] [] S I
  refine r_aload_n (pc := 0) hX dX4_isCrossing_0 rfl ?_
  refine r_iload_n (pc := 1) hX dX4_isCrossing_1 rfl ?_
  refine r_callV (Z := mX4_isLiving) (t := 4) (pc := 2) hX dX4_isCrossing_2 ml_X4_63 mX4_isLiving_w ⟨by decide, rfl⟩ (o_X4_k h) (sp_X4_isLiving h) rfl rfl (Nat.le_of_ble_eq_true rfl) (by decide) rfl (Or.inl rfl) ?_
  refine r_if_eq (pc := 5) hX 30 dX4_isCrossing_5 (by decide) (fun c5 => ?_) (fun c5 => ?_)
  · replace c5 := b2i_0 c5
    refine r_iconst (pc := 30) hX 0 dX4_isCrossing_30 (by decide) ?_
    exact r_ireturn (pc := 31) hX dX4_isCrossing_31 rfl rfl (by first | with_reducible rfl | (simp only [isCrossing_, b2i, c5, ↓reduceIte, if_true, if_false, decide_true, decide_false, eq_self, b2i_t, b2i_f, Bool.false_eq_true, and_true, true_and, and_false, false_and, or_true, true_or, or_false, false_or, not_true_eq_false, not_false_eq_true] <;> rfl) | simp [isCrossing_, b2i, c5]) rfl
  · replace c5 := b2i_1 c5
    refine r_aload_n (pc := 8) hX dX4_isCrossing_8 rfl ?_
    refine r_iload_n (pc := 9) hX dX4_isCrossing_9 rfl ?_
    refine r_callV (Z := mX4_firstOf) (t := 4) (pc := 10) hX dX4_isCrossing_10 ml_X4_123 mX4_firstOf_w ⟨by decide, rfl⟩ (o_X4_k h) (sp_X4_firstOf h) rfl rfl (Nat.le_of_ble_eq_true rfl) (by decide) rfl (Or.inl rfl) ?_
    refine r_iload_n (pc := 13) hX dX4_isCrossing_13 rfl ?_
    refine r_icmp_ge (pc := 14) hX 30 dX4_isCrossing_14 (by decide) (fun c14 => ?_) (fun c14 => ?_)
    · have c14d := Int32.not_lt.mpr c14
      refine r_iconst (pc := 30) hX 0 dX4_isCrossing_30 (by decide) ?_
      exact r_ireturn (pc := 31) hX dX4_isCrossing_31 rfl rfl (by first | with_reducible rfl | (simp only [isCrossing_, b2i, c5, eq_true c14, eq_false c14d, ↓reduceIte, if_true, if_false, decide_true, decide_false, eq_self, b2i_t, b2i_f, Bool.false_eq_true, and_true, true_and, and_false, false_and, or_true, true_or, or_false, false_or, not_true_eq_false, not_false_eq_true] <;> rfl) | simp [isCrossing_, b2i, c5, eq_true c14, eq_false c14d]) rfl
    · have c14d := Int32.not_le.mp c14
      refine r_iload_n (pc := 17) hX dX4_isCrossing_17 rfl ?_
      refine r_aload_n (pc := 18) hX dX4_isCrossing_18 rfl ?_
      refine r_iload_n (pc := 19) hX dX4_isCrossing_19 rfl ?_
      refine r_callV (Z := mX4_lastOf) (t := 4) (pc := 20) hX dX4_isCrossing_20 ml_X4_120 mX4_lastOf_w ⟨by decide, rfl⟩ (o_X4_k h) (sp_X4_lastOf h) rfl rfl (Nat.le_of_ble_eq_true rfl) (by decide) rfl (Or.inl rfl) ?_
      refine r_icmp_ge (pc := 23) hX 30 dX4_isCrossing_23 (by decide) (fun c23 => ?_) (fun c23 => ?_)
      · have c23d := Int32.not_lt.mpr c23
        refine r_iconst (pc := 30) hX 0 dX4_isCrossing_30 (by decide) ?_
        exact r_ireturn (pc := 31) hX dX4_isCrossing_31 rfl rfl (by first | with_reducible rfl | (simp only [isCrossing_, b2i, c5, eq_false c14, eq_true c14d, eq_true c23, eq_false c23d, ↓reduceIte, if_true, if_false, decide_true, decide_false, eq_self, b2i_t, b2i_f, Bool.false_eq_true, and_true, true_and, and_false, false_and, or_true, true_or, or_false, false_or, not_true_eq_false, not_false_eq_true] <;> rfl) | simp [isCrossing_, b2i, c5, eq_false c14, eq_true c14d, eq_true c23, eq_false c23d]) rfl
      · have c23d := Int32.not_le.mp c23
        refine r_iconst (pc := 26) hX 1 dX4_isCrossing_26 (by decide) ?_
        refine r_goto (pc := 27) hX (tgt := 31) dX4_isCrossing_27 (by decide) ?_
        exact r_ireturn (pc := 31) hX dX4_isCrossing_31 rfl rfl (by first | with_reducible rfl | (simp only [isCrossing_, b2i, c5, eq_false c14, eq_true c14d, eq_false c23, eq_true c23d, ↓reduceIte, if_true, if_false, decide_true, decide_false, eq_self, b2i_t, b2i_f, Bool.false_eq_true, and_true, true_and, and_false, false_and, or_true, true_or, or_false, false_or, not_true_eq_false, not_false_eq_true] <;> rfl) | simp [isCrossing_, b2i, c5, eq_false c14, eq_true c14d, eq_false c23, eq_true c23d]) rfl
set_option maxRecDepth 100000 in
set_option maxHeartbeats 1000000 in
theorem sp_X4_endOf {l : Launch} {k : im_K} {S : im_S} {I : im_I} {a : Nat} {p0 : Int32} {b1 : Nat} {x2 n2 : Nat} (h : o_X4 S a) (hb1 : o_X3 S b1) (hx2 : im_k S x2 = (20, n2)) (hn : n2 < 2 ^ 31 := by first | decide | assumption) : im_Runs l k 2 mX4_endOf [.ref a, .int p0, .ref b1, .ref x2] (S, I) (some (.int (endOf_ I a b1 x2 n2 p0))) (S, I) := by
  refine im_run (by decide +kernel) ⟨Nat.le_refl _, Nat.le_refl _⟩ (Nat.le_of_ble_eq_true rfl) ?_
  intro X hl hX hxn hxz hxc hxs
  subst hl
  change im_E X k _ 0 [some (.ref a), some (.int p0), some (.ref b1), some (.ref x2), none, none, none] [] S I
  refine r_iload_n (pc := 0) hX dX4_endOf_0 rfl ?_
  refine r_bipush (pc := 1) hX 8 dX4_endOf_1 (by decide) ?_
  refine r_icmp_ge (pc := 3) hX 25 dX4_endOf_3 (by decide) (fun c3 => ?_) (fun c3 => ?_)
  · have c3d := Int32.not_lt.mpr c3
    refine r_aload_n (pc := 25) hX dX4_endOf_25 rfl ?_
    refine r_iload_n (pc := 26) hX dX4_endOf_26 rfl ?_
    refine r_callV (Z := mX4_lastOf) (t := 4) (pc := 27) hX dX4_endOf_27 ml_X4_120 mX4_lastOf_w ⟨by decide, rfl⟩ (o_X4_k h) (sp_X4_lastOf h) rfl rfl (Nat.le_of_ble_eq_true rfl) (by decide) rfl (Or.inl rfl) ?_
    refine r_istore (pc := 30) hX (L' := [_, _, _, _, _, _, _]) dX4_endOf_30 rfl rfl (Nat.le_of_ble_eq_true rfl) ?_
    refine r_aload_n (pc := 32) hX dX4_endOf_32 rfl ?_
    refine r_iload (pc := 33) hX dX4_endOf_33 rfl ?_
    refine r_callV (Z := mX3_blockOf) (t := 3) (pc := 35) hX dX4_endOf_35 ml_X4_82 mX3_blockOf_w ⟨by decide, rfl⟩ (o_X3_k hb1) (sp_X3_blockOf hb1) rfl rfl (Nat.le_of_ble_eq_true rfl) (by decide) rfl (Or.inl rfl) ?_
    refine r_istore (pc := 38) hX (L' := [_, _, _, _, _, _, _]) dX4_endOf_38 rfl rfl (Nat.le_of_ble_eq_true rfl) ?_
    refine r_iload (pc := 40) hX dX4_endOf_40 rfl ?_
    refine r_iconst (pc := 42) hX (-1) dX4_endOf_42 (by decide) ?_
    refine r_icmp_eq (pc := 43) hX 77 dX4_endOf_43 (by decide) (fun c43 => ?_) (fun c43 => ?_)
    · refine r_iconst (pc := 77) hX 0 dX4_endOf_77 (by decide) ?_
      refine r_istore (pc := 78) hX (L' := [_, _, _, _, _, _, _]) dX4_endOf_78 rfl rfl (Nat.le_of_ble_eq_true rfl) ?_
      refine r_iload (pc := 80) hX dX4_endOf_80 rfl ?_
      refine r_if_eq (pc := 82) hX 96 dX4_endOf_82 (by decide) (fun c82 => ?_) (fun c82 => ?_)
      · refine r_iload (pc := 96) hX dX4_endOf_96 rfl ?_
        exact r_ireturn (pc := 98) hX dX4_endOf_98 rfl rfl (by first | with_reducible rfl | (simp only [endOf_, eq_true c3, eq_false c3d, eq_true c43, ↓reduceIte, if_true, if_false, decide_true, decide_false, eq_self, b2i_t, b2i_f, Bool.false_eq_true, and_true, true_and, and_false, false_and, or_true, true_or, or_false, false_or, not_true_eq_false, not_false_eq_true] <;> rfl) | simp [endOf_, eq_true c3, eq_false c3d, eq_true c43]) rfl
      · exact absurd c82 (by decide)
    · refine r_aload_n (pc := 46) hX dX4_endOf_46 rfl ?_
      refine r_getr (pc := 47) hX dX4_endOf_47 fl_X4_9 rfl (o_X4_k h) (o_X4_r3 h) ?_
      refine r_iload (pc := 50) hX dX4_endOf_50 rfl ?_
      refine r_callV (Z := mX8_roundsOf) (t := 8) (pc := 52) hX dX4_endOf_52 ml_X4_85 mX8_roundsOf_w ⟨by decide, rfl⟩ (o_X8_k (o_X4_o3 h)) (sp_X8_roundsOf (o_X4_o3 h)) rfl rfl (Nat.le_of_ble_eq_true rfl) (by decide) rfl (Or.inl rfl) ?_
      refine r_iconst (pc := 55) hX 1 dX4_endOf_55 (by decide) ?_
      refine r_icmp_le (pc := 56) hX 77 dX4_endOf_56 (by decide) (fun c56 => ?_) (fun c56 => ?_)
      · have c56d := Int32.not_lt.mpr c56
        refine r_iconst (pc := 77) hX 0 dX4_endOf_77 (by decide) ?_
        refine r_istore (pc := 78) hX (L' := [_, _, _, _, _, _, _]) dX4_endOf_78 rfl rfl (Nat.le_of_ble_eq_true rfl) ?_
        refine r_iload (pc := 80) hX dX4_endOf_80 rfl ?_
        refine r_if_eq (pc := 82) hX 96 dX4_endOf_82 (by decide) (fun c82 => ?_) (fun c82 => ?_)
        · refine r_iload (pc := 96) hX dX4_endOf_96 rfl ?_
          exact r_ireturn (pc := 98) hX dX4_endOf_98 rfl rfl (by first | with_reducible rfl | (simp only [endOf_, eq_true c3, eq_false c3d, eq_false c43, eq_true c56, eq_false c56d, ↓reduceIte, if_true, if_false, decide_true, decide_false, eq_self, b2i_t, b2i_f, Bool.false_eq_true, and_true, true_and, and_false, false_and, or_true, true_or, or_false, false_or, not_true_eq_false, not_false_eq_true] <;> rfl) | simp [endOf_, eq_true c3, eq_false c3d, eq_false c43, eq_true c56, eq_false c56d]) rfl
        · exact absurd c82 (by decide)
      · have c56d := Int32.not_le.mp c56
        refine r_aload_n (pc := 59) hX dX4_endOf_59 rfl ?_
        refine r_iload_n (pc := 60) hX dX4_endOf_60 rfl ?_
        refine r_callV (Z := mX4_firstOf) (t := 4) (pc := 61) hX dX4_endOf_61 ml_X4_123 mX4_firstOf_w ⟨by decide, rfl⟩ (o_X4_k h) (sp_X4_firstOf h) rfl rfl (Nat.le_of_ble_eq_true rfl) (by decide) rfl (Or.inl rfl) ?_
        refine r_aload_n (pc := 64) hX dX4_endOf_64 rfl ?_
        refine r_iload (pc := 65) hX dX4_endOf_65 rfl ?_
        refine r_callSN (Z := mX11_at) (pc := 67) hX dX4_endOf_67 mn_X4_93 mX11_at_w (sp_X11_at hx2) rfl rfl (Nat.le_of_ble_eq_true rfl) (by decide) rfl (Or.inl rfl) ?_
        refine r_icmp_ge (pc := 70) hX 77 dX4_endOf_70 (by decide) (fun c70 => ?_) (fun c70 => ?_)
        · have c70d := Int32.not_lt.mpr c70
          refine r_iconst (pc := 77) hX 0 dX4_endOf_77 (by decide) ?_
          refine r_istore (pc := 78) hX (L' := [_, _, _, _, _, _, _]) dX4_endOf_78 rfl rfl (Nat.le_of_ble_eq_true rfl) ?_
          refine r_iload (pc := 80) hX dX4_endOf_80 rfl ?_
          refine r_if_eq (pc := 82) hX 96 dX4_endOf_82 (by decide) (fun c82 => ?_) (fun c82 => ?_)
          · refine r_iload (pc := 96) hX dX4_endOf_96 rfl ?_
            exact r_ireturn (pc := 98) hX dX4_endOf_98 rfl rfl (by first | with_reducible rfl | (simp only [endOf_, eq_true c3, eq_false c3d, eq_false c43, eq_false c56, eq_true c56d, eq_true c70, eq_false c70d, ↓reduceIte, if_true, if_false, decide_true, decide_false, eq_self, b2i_t, b2i_f, Bool.false_eq_true, and_true, true_and, and_false, false_and, or_true, true_or, or_false, false_or, not_true_eq_false, not_false_eq_true] <;> rfl) | simp [endOf_, eq_true c3, eq_false c3d, eq_false c43, eq_false c56, eq_true c56d, eq_true c70, eq_false c70d]) rfl
          · exact absurd c82 (by decide)
        · have c70d := Int32.not_le.mp c70
          refine r_iconst (pc := 73) hX 1 dX4_endOf_73 (by decide) ?_
          refine r_goto (pc := 74) hX (tgt := 78) dX4_endOf_74 (by decide) ?_
          refine r_istore (pc := 78) hX (L' := [_, _, _, _, _, _, _]) dX4_endOf_78 rfl rfl (Nat.le_of_ble_eq_true rfl) ?_
          refine r_iload (pc := 80) hX dX4_endOf_80 rfl ?_
          refine r_if_eq (pc := 82) hX 96 dX4_endOf_82 (by decide) (fun c82 => ?_) (fun c82 => ?_)
          · exact absurd c82 (by decide)
          · refine r_aload_n (pc := 85) hX dX4_endOf_85 rfl ?_
            refine r_iload (pc := 86) hX dX4_endOf_86 rfl ?_
            refine r_iconst (pc := 88) hX 1 dX4_endOf_88 (by decide) ?_
            refine r_iadd (pc := 89) hX dX4_endOf_89 ?_
            refine r_callSN (Z := mX11_at) (pc := 90) hX dX4_endOf_90 mn_X4_93 mX11_at_w (sp_X11_at hx2) rfl rfl (Nat.le_of_ble_eq_true rfl) (by decide) rfl (Or.inl rfl) ?_
            refine r_goto (pc := 93) hX (tgt := 98) dX4_endOf_93 (by decide) ?_
            exact r_ireturn (pc := 98) hX dX4_endOf_98 rfl rfl (by first | with_reducible rfl | (simp only [endOf_, eq_true c3, eq_false c3d, eq_false c43, eq_false c56, eq_true c56d, eq_false c70, eq_true c70d, ↓reduceIte, if_true, if_false, decide_true, decide_false, eq_self, b2i_t, b2i_f, Bool.false_eq_true, and_true, true_and, and_false, false_and, or_true, true_or, or_false, false_or, not_true_eq_false, not_false_eq_true] <;> rfl) | simp [endOf_, eq_true c3, eq_false c3d, eq_false c43, eq_false c56, eq_true c56d, eq_false c70, eq_true c70d]) rfl
  · have c3d := Int32.not_le.mp c3
    refine r_aload_n (pc := 6) hX dX4_endOf_6 rfl ?_
    refine r_getr (pc := 7) hX dX4_endOf_7 fl_X4_9 rfl (o_X4_k h) (o_X4_r3 h) ?_
    refine r_geti (pc := 10) hX dX4_endOf_10 fl_X4_113 rfl (o_X8_k (o_X4_o3 h)) ?_
    refine r_iload_n (pc := 13) hX dX4_endOf_13 rfl ?_
    refine r_callSN (Z := mX11_hasBit) (pc := 14) hX dX4_endOf_14 mn_X4_116 mX11_hasBit_w (sp_X11_hasBit) rfl rfl (Nat.le_of_ble_eq_true rfl) (by decide) rfl (Or.inl rfl) ?_
    refine r_if_eq (pc := 17) hX 25 dX4_endOf_17 (by decide) (fun c17 => ?_) (fun c17 => ?_)
    · replace c17 := b2i_0 c17
      refine r_aload_n (pc := 25) hX dX4_endOf_25 rfl ?_
      refine r_iload_n (pc := 26) hX dX4_endOf_26 rfl ?_
      refine r_callV (Z := mX4_lastOf) (t := 4) (pc := 27) hX dX4_endOf_27 ml_X4_120 mX4_lastOf_w ⟨by decide, rfl⟩ (o_X4_k h) (sp_X4_lastOf h) rfl rfl (Nat.le_of_ble_eq_true rfl) (by decide) rfl (Or.inl rfl) ?_
      refine r_istore (pc := 30) hX (L' := [_, _, _, _, _, _, _]) dX4_endOf_30 rfl rfl (Nat.le_of_ble_eq_true rfl) ?_
      refine r_aload_n (pc := 32) hX dX4_endOf_32 rfl ?_
      refine r_iload (pc := 33) hX dX4_endOf_33 rfl ?_
      refine r_callV (Z := mX3_blockOf) (t := 3) (pc := 35) hX dX4_endOf_35 ml_X4_82 mX3_blockOf_w ⟨by decide, rfl⟩ (o_X3_k hb1) (sp_X3_blockOf hb1) rfl rfl (Nat.le_of_ble_eq_true rfl) (by decide) rfl (Or.inl rfl) ?_
      refine r_istore (pc := 38) hX (L' := [_, _, _, _, _, _, _]) dX4_endOf_38 rfl rfl (Nat.le_of_ble_eq_true rfl) ?_
      refine r_iload (pc := 40) hX dX4_endOf_40 rfl ?_
      refine r_iconst (pc := 42) hX (-1) dX4_endOf_42 (by decide) ?_
      refine r_icmp_eq (pc := 43) hX 77 dX4_endOf_43 (by decide) (fun c43 => ?_) (fun c43 => ?_)
      · refine r_iconst (pc := 77) hX 0 dX4_endOf_77 (by decide) ?_
        refine r_istore (pc := 78) hX (L' := [_, _, _, _, _, _, _]) dX4_endOf_78 rfl rfl (Nat.le_of_ble_eq_true rfl) ?_
        refine r_iload (pc := 80) hX dX4_endOf_80 rfl ?_
        refine r_if_eq (pc := 82) hX 96 dX4_endOf_82 (by decide) (fun c82 => ?_) (fun c82 => ?_)
        · refine r_iload (pc := 96) hX dX4_endOf_96 rfl ?_
          exact r_ireturn (pc := 98) hX dX4_endOf_98 rfl rfl (by first | with_reducible rfl | (simp only [endOf_, eq_false c3, eq_true c3d, c17, eq_true c43, ↓reduceIte, if_true, if_false, decide_true, decide_false, eq_self, b2i_t, b2i_f, Bool.false_eq_true, and_true, true_and, and_false, false_and, or_true, true_or, or_false, false_or, not_true_eq_false, not_false_eq_true] <;> rfl) | simp [endOf_, eq_false c3, eq_true c3d, c17, eq_true c43]) rfl
        · exact absurd c82 (by decide)
      · refine r_aload_n (pc := 46) hX dX4_endOf_46 rfl ?_
        refine r_getr (pc := 47) hX dX4_endOf_47 fl_X4_9 rfl (o_X4_k h) (o_X4_r3 h) ?_
        refine r_iload (pc := 50) hX dX4_endOf_50 rfl ?_
        refine r_callV (Z := mX8_roundsOf) (t := 8) (pc := 52) hX dX4_endOf_52 ml_X4_85 mX8_roundsOf_w ⟨by decide, rfl⟩ (o_X8_k (o_X4_o3 h)) (sp_X8_roundsOf (o_X4_o3 h)) rfl rfl (Nat.le_of_ble_eq_true rfl) (by decide) rfl (Or.inl rfl) ?_
        refine r_iconst (pc := 55) hX 1 dX4_endOf_55 (by decide) ?_
        refine r_icmp_le (pc := 56) hX 77 dX4_endOf_56 (by decide) (fun c56 => ?_) (fun c56 => ?_)
        · have c56d := Int32.not_lt.mpr c56
          refine r_iconst (pc := 77) hX 0 dX4_endOf_77 (by decide) ?_
          refine r_istore (pc := 78) hX (L' := [_, _, _, _, _, _, _]) dX4_endOf_78 rfl rfl (Nat.le_of_ble_eq_true rfl) ?_
          refine r_iload (pc := 80) hX dX4_endOf_80 rfl ?_
          refine r_if_eq (pc := 82) hX 96 dX4_endOf_82 (by decide) (fun c82 => ?_) (fun c82 => ?_)
          · refine r_iload (pc := 96) hX dX4_endOf_96 rfl ?_
            exact r_ireturn (pc := 98) hX dX4_endOf_98 rfl rfl (by first | with_reducible rfl | (simp only [endOf_, eq_false c3, eq_true c3d, c17, eq_false c43, eq_true c56, eq_false c56d, ↓reduceIte, if_true, if_false, decide_true, decide_false, eq_self, b2i_t, b2i_f, Bool.false_eq_true, and_true, true_and, and_false, false_and, or_true, true_or, or_false, false_or, not_true_eq_false, not_false_eq_true] <;> rfl) | simp [endOf_, eq_false c3, eq_true c3d, c17, eq_false c43, eq_true c56, eq_false c56d]) rfl
          · exact absurd c82 (by decide)
        · have c56d := Int32.not_le.mp c56
          refine r_aload_n (pc := 59) hX dX4_endOf_59 rfl ?_
          refine r_iload_n (pc := 60) hX dX4_endOf_60 rfl ?_
          refine r_callV (Z := mX4_firstOf) (t := 4) (pc := 61) hX dX4_endOf_61 ml_X4_123 mX4_firstOf_w ⟨by decide, rfl⟩ (o_X4_k h) (sp_X4_firstOf h) rfl rfl (Nat.le_of_ble_eq_true rfl) (by decide) rfl (Or.inl rfl) ?_
          refine r_aload_n (pc := 64) hX dX4_endOf_64 rfl ?_
          refine r_iload (pc := 65) hX dX4_endOf_65 rfl ?_
          refine r_callSN (Z := mX11_at) (pc := 67) hX dX4_endOf_67 mn_X4_93 mX11_at_w (sp_X11_at hx2) rfl rfl (Nat.le_of_ble_eq_true rfl) (by decide) rfl (Or.inl rfl) ?_
          refine r_icmp_ge (pc := 70) hX 77 dX4_endOf_70 (by decide) (fun c70 => ?_) (fun c70 => ?_)
          · have c70d := Int32.not_lt.mpr c70
            refine r_iconst (pc := 77) hX 0 dX4_endOf_77 (by decide) ?_
            refine r_istore (pc := 78) hX (L' := [_, _, _, _, _, _, _]) dX4_endOf_78 rfl rfl (Nat.le_of_ble_eq_true rfl) ?_
            refine r_iload (pc := 80) hX dX4_endOf_80 rfl ?_
            refine r_if_eq (pc := 82) hX 96 dX4_endOf_82 (by decide) (fun c82 => ?_) (fun c82 => ?_)
            · refine r_iload (pc := 96) hX dX4_endOf_96 rfl ?_
              exact r_ireturn (pc := 98) hX dX4_endOf_98 rfl rfl (by first | with_reducible rfl | (simp only [endOf_, eq_false c3, eq_true c3d, c17, eq_false c43, eq_false c56, eq_true c56d, eq_true c70, eq_false c70d, ↓reduceIte, if_true, if_false, decide_true, decide_false, eq_self, b2i_t, b2i_f, Bool.false_eq_true, and_true, true_and, and_false, false_and, or_true, true_or, or_false, false_or, not_true_eq_false, not_false_eq_true] <;> rfl) | simp [endOf_, eq_false c3, eq_true c3d, c17, eq_false c43, eq_false c56, eq_true c56d, eq_true c70, eq_false c70d]) rfl
            · exact absurd c82 (by decide)
          · have c70d := Int32.not_le.mp c70
            refine r_iconst (pc := 73) hX 1 dX4_endOf_73 (by decide) ?_
            refine r_goto (pc := 74) hX (tgt := 78) dX4_endOf_74 (by decide) ?_
            refine r_istore (pc := 78) hX (L' := [_, _, _, _, _, _, _]) dX4_endOf_78 rfl rfl (Nat.le_of_ble_eq_true rfl) ?_
            refine r_iload (pc := 80) hX dX4_endOf_80 rfl ?_
            refine r_if_eq (pc := 82) hX 96 dX4_endOf_82 (by decide) (fun c82 => ?_) (fun c82 => ?_)
            · exact absurd c82 (by decide)
            · refine r_aload_n (pc := 85) hX dX4_endOf_85 rfl ?_
              refine r_iload (pc := 86) hX dX4_endOf_86 rfl ?_
              refine r_iconst (pc := 88) hX 1 dX4_endOf_88 (by decide) ?_
              refine r_iadd (pc := 89) hX dX4_endOf_89 ?_
              refine r_callSN (Z := mX11_at) (pc := 90) hX dX4_endOf_90 mn_X4_93 mX11_at_w (sp_X11_at hx2) rfl rfl (Nat.le_of_ble_eq_true rfl) (by decide) rfl (Or.inl rfl) ?_
              refine r_goto (pc := 93) hX (tgt := 98) dX4_endOf_93 (by decide) ?_
              exact r_ireturn (pc := 98) hX dX4_endOf_98 rfl rfl (by first | with_reducible rfl | (simp only [endOf_, eq_false c3, eq_true c3d, c17, eq_false c43, eq_false c56, eq_true c56d, eq_false c70, eq_true c70d, ↓reduceIte, if_true, if_false, decide_true, decide_false, eq_self, b2i_t, b2i_f, Bool.false_eq_true, and_true, true_and, and_false, false_and, or_true, true_or, or_false, false_or, not_true_eq_false, not_false_eq_true] <;> rfl) | simp [endOf_, eq_false c3, eq_true c3d, c17, eq_false c43, eq_false c56, eq_true c56d, eq_false c70, eq_true c70d]) rfl
    · replace c17 := b2i_1 c17
      refine r_aload_n (pc := 20) hX dX4_endOf_20 rfl ?_
      refine r_geti (pc := 21) hX dX4_endOf_21 fl_X4_54 rfl (o_X3_k hb1) ?_
      exact r_ireturn (pc := 24) hX dX4_endOf_24 rfl rfl (by first | with_reducible rfl | (simp only [endOf_, eq_false c3, eq_true c3d, c17, ↓reduceIte, if_true, if_false, decide_true, decide_false, eq_self, b2i_t, b2i_f, Bool.false_eq_true, and_true, true_and, and_false, false_and, or_true, true_or, or_false, false_or, not_true_eq_false, not_false_eq_true] <;> rfl) | simp [endOf_, eq_false c3, eq_true c3d, c17]) rfl
set_option maxRecDepth 100000 in
set_option maxHeartbeats 1000000 in
theorem sp_X4_weigh {l : Launch} {k : im_K} {S : im_S} {I : im_I} {a : Nat} {p0 : Int32} (h : o_X4 S a) : im_Runs l k 2 mX4_weigh [.ref a, .int p0] (S, I) (some (.int (weigh_ I a p0))) (S, I) := by
  refine im_run (by decide +kernel) ⟨Nat.le_refl _, Nat.le_refl _⟩ (Nat.le_of_ble_eq_true rfl) ?_
  intro X hl hX hxn hxz hxc hxs
  subst hl
  change im_E X k _ 0 [some (.ref a), some (.int p0), none] [] S I
  refine r_aload_n (pc := 0) hX dX4_weigh_0 rfl ?_
  refine r_iload_n (pc := 1) hX dX4_weigh_1 rfl ?_
  refine r_callV (Z := mX4_lastOf) (t := 4) (pc := 2) hX dX4_weigh_2 ml_X4_120 mX4_lastOf_w ⟨by decide, rfl⟩ (o_X4_k h) (sp_X4_lastOf h) rfl rfl (Nat.le_of_ble_eq_true rfl) (by decide) rfl (Or.inl rfl) ?_
  refine r_aload_n (pc := 5) hX dX4_weigh_5 rfl ?_
  refine r_iload_n (pc := 6) hX dX4_weigh_6 rfl ?_
  refine r_callV (Z := mX4_firstOf) (t := 4) (pc := 7) hX dX4_weigh_7 ml_X4_123 mX4_firstOf_w ⟨by decide, rfl⟩ (o_X4_k h) (sp_X4_firstOf h) rfl rfl (Nat.le_of_ble_eq_true rfl) (by decide) rfl (Or.inl rfl) ?_
  refine r_isub (pc := 10) hX dX4_weigh_10 ?_
  refine r_iconst (pc := 11) hX 1 dX4_weigh_11 (by decide) ?_
  refine r_iadd (pc := 12) hX dX4_weigh_12 ?_
  refine r_istore_n (pc := 13) hX (L' := [_, _, _]) dX4_weigh_13 rfl rfl (Nat.le_of_ble_eq_true rfl) ?_
  refine r_iload_n (pc := 14) hX dX4_weigh_14 rfl ?_
  refine r_if_le (pc := 15) hX 34 dX4_weigh_15 (by decide) (fun c15 => ?_) (fun c15 => ?_)
  · have c15d := Int32.not_lt.mpr c15
    refine r_iconst (pc := 34) hX 0 dX4_weigh_34 (by decide) ?_
    exact r_ireturn (pc := 35) hX dX4_weigh_35 rfl rfl (by first | with_reducible rfl | (simp only [weigh_, eq_true c15, eq_false c15d, ↓reduceIte, if_true, if_false, decide_true, decide_false, eq_self, b2i_t, b2i_f, Bool.false_eq_true, and_true, true_and, and_false, false_and, or_true, true_or, or_false, false_or, not_true_eq_false, not_false_eq_true] <;> rfl) | simp [weigh_, eq_true c15, eq_false c15d]) rfl
  · have c15d := Int32.not_le.mp c15
    refine r_bipush (pc := 18) hX 100 dX4_weigh_18 (by decide) ?_
    refine r_aload_n (pc := 20) hX dX4_weigh_20 rfl ?_
    refine r_getr (pc := 21) hX dX4_weigh_21 fl_X4_22 rfl (o_X4_k h) (o_X4_r6 h) ?_
    refine r_iload_n (pc := 24) hX dX4_weigh_24 rfl ?_
    refine r_callSN (Z := mX11_at) (pc := 25) hX dX4_weigh_25 mn_X4_93 mX11_at_w (sp_X11_at (o_X4_a6 h)) rfl rfl (Nat.le_of_ble_eq_true rfl) (by decide) rfl (Or.inl rfl) ?_
    refine r_imul (pc := 28) hX dX4_weigh_28 ?_
    refine r_iload_n (pc := 29) hX dX4_weigh_29 rfl ?_
    refine r_idiv (pc := 30) hX dX4_weigh_30 (i32_ne0 c15) ?_
    refine r_goto (pc := 31) hX (tgt := 35) dX4_weigh_31 (by decide) ?_
    exact r_ireturn (pc := 35) hX dX4_weigh_35 rfl rfl (by first | with_reducible rfl | (simp only [weigh_, eq_false c15, eq_true c15d, ↓reduceIte, if_true, if_false, decide_true, decide_false, eq_self, b2i_t, b2i_f, Bool.false_eq_true, and_true, true_and, and_false, false_and, or_true, true_or, or_false, false_or, not_true_eq_false, not_false_eq_true] <;> rfl) | simp [weigh_, eq_false c15, eq_true c15d]) rfl
set_option maxRecDepth 100000 in
set_option maxHeartbeats 1000000 in
theorem sp_X4_countCrossed {l : Launch} {k : im_K} {S : im_S} {I : im_I} {a : Nat} {p0 : Int32} (h : o_X4 S a) : im_Runs l k 3 mX4_countCrossed [.ref a, .int p0] (S, I) (some (.int (countCrossed_ I a p0))) (S, I) := by
  refine im_run (by decide +kernel) ⟨Nat.le_refl _, Nat.le_refl _⟩ (Nat.le_of_ble_eq_true rfl) ?_
  intro X hl hX hxn hxz hxc hxs
  subst hl
  change im_E X k _ 0 [some (.ref a), some (.int p0), none, none] [] S I
  refine r_iconst (pc := 0) hX 0 dX4_countCrossed_0 (by decide) ?_
  refine r_istore_n (pc := 1) hX (L' := [_, _, _, _]) dX4_countCrossed_1 rfl rfl (Nat.le_of_ble_eq_true rfl) ?_
  refine r_iconst (pc := 2) hX 0 dX4_countCrossed_2 (by decide) ?_
  refine r_istore_n (pc := 3) hX (L' := [_, _, _, _]) dX4_countCrossed_3 rfl rfl (Nat.le_of_ble_eq_true rfl) ?_
  have hL4 : ∀ (w1 : Nat) (i1 : Int32) (J1 : Int32), cnt i1 (I a 2) = w1 → loopN w1 i1 (fun i c => if isCrossing_ I a p0 (at_ (I (a + 8)) 88 i) = false then c else c + 1) J1 = loopN (cnt (0) (I a 2)) (0) (fun i c => if isCrossing_ I a p0 (at_ (I (a + 8)) 88 i) = false then c else c + 1) (0) → im_E X k (im_Q X k (some (.int (countCrossed_ I a p0))) (S, I)) 4 [some (.ref a), some (.int p0), some (.int J1), some (.int i1)] [] S I := by
    intro w1
    induction w1 with
    | zero =>
      intro i1 J1  hm1 hR1
      refine r_iload_n (pc := 4) hX dX4_countCrossed_4 rfl ?_
      refine r_aload_n (pc := 5) hX dX4_countCrossed_5 rfl ?_
      refine r_geti (pc := 6) hX dX4_countCrossed_6 fl_X4_47 rfl (o_X4_k h) ?_
      refine r_icmp_ge (pc := 9) hX 37 dX4_countCrossed_9 (by decide) (fun c9 => ?_) (fun c9 => ?_)
      · have c9d := Int32.not_lt.mpr c9
        rw [loopN_0] at hR1
        subst hR1
        refine r_iload_n (pc := 37) hX dX4_countCrossed_37 rfl ?_
        exact r_ireturn (pc := 38) hX dX4_countCrossed_38 rfl rfl (by first | with_reducible rfl | (simp only [countCrossed_, loopC, eq_true c9, eq_false c9d, ↓reduceIte, if_true, if_false, decide_true, decide_false, eq_self, b2i_t, b2i_f, Bool.false_eq_true, and_true, true_and, and_false, false_and, or_true, true_or, or_false, false_or, not_true_eq_false, not_false_eq_true] <;> rfl) | simp [countCrossed_, loopC, eq_true c9, eq_false c9d]) rfl
      · have c9d := Int32.not_le.mp c9
        exact (cnt_ex hm1  c9).elim
    | succ w1 ih1 =>
      intro i1 J1  hm1 hR1
      refine r_iload_n (pc := 4) hX dX4_countCrossed_4 rfl ?_
      refine r_aload_n (pc := 5) hX dX4_countCrossed_5 rfl ?_
      refine r_geti (pc := 6) hX dX4_countCrossed_6 fl_X4_47 rfl (o_X4_k h) ?_
      refine r_icmp_ge (pc := 9) hX 37 dX4_countCrossed_9 (by decide) (fun c9 => ?_) (fun c9 => ?_)
      · have c9d := Int32.not_lt.mpr c9
        exact (cnt_go hm1  c9).elim
      · have c9d := Int32.not_le.mp c9
        refine r_aload_n (pc := 12) hX dX4_countCrossed_12 rfl ?_
        refine r_iload_n (pc := 13) hX dX4_countCrossed_13 rfl ?_
        refine r_aload_n (pc := 14) hX dX4_countCrossed_14 rfl ?_
        refine r_getr (pc := 15) hX dX4_countCrossed_15 fl_X4_37 rfl (o_X4_k h) (o_X4_r11 h) ?_
        refine r_iload_n (pc := 18) hX dX4_countCrossed_18 rfl ?_
        refine r_callSN (Z := mX11_at) (pc := 19) hX dX4_countCrossed_19 mn_X4_93 mX11_at_w (sp_X11_at (o_X4_a11 h)) rfl rfl (Nat.le_of_ble_eq_true rfl) (by decide) rfl (Or.inl rfl) ?_
        refine r_callV (Z := mX4_isCrossing) (t := 4) (pc := 22) hX dX4_countCrossed_22 ml_X4_126 mX4_isCrossing_w ⟨by decide, rfl⟩ (o_X4_k h) (sp_X4_isCrossing h) rfl rfl (Nat.le_of_ble_eq_true rfl) (by decide) rfl (Or.inl rfl) ?_
        refine r_if_eq (pc := 25) hX 31 dX4_countCrossed_25 (by decide) (fun c25 => ?_) (fun c25 => ?_)
        · replace c25 := b2i_0 c25
          refine r_iinc (pc := 31) hX 1 (L' := [_, _, _, _]) dX4_countCrossed_31 rfl (by decide) rfl rfl ?_
          refine r_goto (pc := 34) hX (tgt := 4) dX4_countCrossed_34 (by decide) ?_
          exact ih1 _ _  (cnt_nx hm1) (by refine Eq.trans (congrArg (loopN w1 (i1 + 1) (fun i c => if isCrossing_ I a p0 (at_ (I (a + 8)) 88 i) = false then c else c + 1)) ?_) (loopN_s.symm.trans hR1); exact (by first | with_reducible rfl | (simp only [countCrossed_, loopC, eq_false c9, eq_true c9d, c25, ↓reduceIte, if_true, if_false, decide_true, decide_false, eq_self, b2i_t, b2i_f, Bool.false_eq_true, and_true, true_and, and_false, false_and, or_true, true_or, or_false, false_or, not_true_eq_false, not_false_eq_true] <;> rfl) | simp [countCrossed_, loopC, eq_false c9, eq_true c9d, c25]))
        · replace c25 := b2i_1 c25
          refine r_iinc (pc := 28) hX 1 (L' := [_, _, _, _]) dX4_countCrossed_28 rfl (by decide) rfl rfl ?_
          refine r_iinc (pc := 31) hX 1 (L' := [_, _, _, _]) dX4_countCrossed_31 rfl (by decide) rfl rfl ?_
          refine r_goto (pc := 34) hX (tgt := 4) dX4_countCrossed_34 (by decide) ?_
          exact ih1 _ _  (cnt_nx hm1) (by refine Eq.trans (congrArg (loopN w1 (i1 + 1) (fun i c => if isCrossing_ I a p0 (at_ (I (a + 8)) 88 i) = false then c else c + 1)) ?_) (loopN_s.symm.trans hR1); exact (by first | with_reducible rfl | (simp only [countCrossed_, loopC, eq_false c9, eq_true c9d, c25, ↓reduceIte, if_true, if_false, decide_true, decide_false, eq_self, b2i_t, b2i_f, Bool.false_eq_true, and_true, true_and, and_false, false_and, or_true, true_or, or_false, false_or, not_true_eq_false, not_false_eq_true] <;> rfl) | simp [countCrossed_, loopC, eq_false c9, eq_true c9d, c25]))
  exact hL4 (cnt (0) (I a 2)) (0) (0)  rfl rfl
set_option maxRecDepth 100000 in
set_option maxHeartbeats 1000000 in
theorem sp_X4_mostAtOnce {l : Launch} {k : im_K} {S : im_S} {I : im_I} {a : Nat} {p0 : Int32} (h : o_X4 S a) (hp : p0 < 2147483647) : im_Runs l k 2 mX4_mostAtOnce [.ref a, .int p0] (S, I) (some (.int (mostAtOnce_ I a p0))) (S, I) := by
  refine im_run (by decide +kernel) ⟨Nat.le_refl _, Nat.le_refl _⟩ (Nat.le_of_ble_eq_true rfl) ?_
  intro X hl hX hxn hxz hxc hxs
  subst hl
  change im_E X k _ 0 [some (.ref a), some (.int p0), none, none, none, none] [] S I
  refine r_iconst (pc := 0) hX 0 dX4_mostAtOnce_0 (by decide) ?_
  refine r_istore_n (pc := 1) hX (L' := [_, _, _, _, _, _]) dX4_mostAtOnce_1 rfl rfl (Nat.le_of_ble_eq_true rfl) ?_
  refine r_iconst (pc := 2) hX 0 dX4_mostAtOnce_2 (by decide) ?_
  refine r_istore_n (pc := 3) hX (L' := [_, _, _, _, _, _]) dX4_mostAtOnce_3 rfl rfl (Nat.le_of_ble_eq_true rfl) ?_
  have hL4 : ∀ (w1 : Nat) (i1 : Int32) (J1 : Int32), cnt i1 (p0 + 1) = w1 → loopN w1 i1 (fun pt m => max_ m (livingAt_ I a pt)) J1 = loopN (cnt (0) (p0 + 1)) (0) (fun pt m => max_ m (livingAt_ I a pt)) (0) → im_E X k (im_Q X k (some (.int (mostAtOnce_ I a p0))) (S, I)) 4 [some (.ref a), some (.int p0), some (.int J1), some (.int i1), none, none] [] S I := by
    intro w1
    induction w1 with
    | zero =>
      intro i1 J1  hm1 hR1
      refine r_iload_n (pc := 4) hX dX4_mostAtOnce_4 rfl ?_
      refine r_iload_n (pc := 5) hX dX4_mostAtOnce_5 rfl ?_
      refine r_icmp_gt (pc := 6) hX 75 dX4_mostAtOnce_6 (by decide) (fun c6 => ?_) (fun c6 => ?_)
      · have c6d := Int32.not_le.mpr c6
        rw [loopN_0] at hR1
        subst hR1
        refine r_iload_n (pc := 75) hX dX4_mostAtOnce_75 rfl ?_
        exact r_ireturn (pc := 76) hX dX4_mostAtOnce_76 rfl rfl (by first | with_reducible rfl | (simp only [mostAtOnce_, livingAt_, loopC, eq_true c6, eq_false c6d, ↓reduceIte, if_true, if_false, decide_true, decide_false, eq_self, b2i_t, b2i_f, Bool.false_eq_true, and_true, true_and, and_false, false_and, or_true, true_or, or_false, false_or, not_true_eq_false, not_false_eq_true] <;> rfl) | simp [mostAtOnce_, livingAt_, loopC, eq_true c6, eq_false c6d]) rfl
      · have c6d := Int32.not_lt.mp c6
        exact (cntL_ex hm1 hp c6).elim
    | succ w1 ih1 =>
      intro i1 J1  hm1 hR1
      refine r_iload_n (pc := 4) hX dX4_mostAtOnce_4 rfl ?_
      refine r_iload_n (pc := 5) hX dX4_mostAtOnce_5 rfl ?_
      refine r_icmp_gt (pc := 6) hX 75 dX4_mostAtOnce_6 (by decide) (fun c6 => ?_) (fun c6 => ?_)
      · have c6d := Int32.not_le.mpr c6
        exact (cntL_go hm1 hp c6).elim
      · have c6d := Int32.not_lt.mp c6
        refine r_iconst (pc := 9) hX 0 dX4_mostAtOnce_9 (by decide) ?_
        refine r_istore (pc := 10) hX (L' := [_, _, _, _, _, _]) dX4_mostAtOnce_10 rfl rfl (Nat.le_of_ble_eq_true rfl) ?_
        refine r_iconst (pc := 12) hX 0 dX4_mostAtOnce_12 (by decide) ?_
        refine r_istore (pc := 13) hX (L' := [_, _, _, _, _, _]) dX4_mostAtOnce_13 rfl rfl (Nat.le_of_ble_eq_true rfl) ?_
        have hL15 : ∀ (w2 : Nat) (i2 : Int32) (J2 : Int32), cnt i2 (I a 0) = w2 → loopN w2 i2 (fun v c => if isLiving_ I a v = true ∧ firstOf_ I a v ≤ i1 ∧ i1 ≤ lastOf_ I a v then c + 1 else c) J2 = loopN (cnt (0) (I a 0)) (0) (fun v c => if isLiving_ I a v = true ∧ firstOf_ I a v ≤ i1 ∧ i1 ≤ lastOf_ I a v then c + 1 else c) (0) → im_E X k (im_Q X k (some (.int (mostAtOnce_ I a p0))) (S, I)) 15 [some (.ref a), some (.int p0), some (.int J1), some (.int i1), some (.int J2), some (.int i2)] [] S I := by
          intro w2
          induction w2 with
          | zero =>
            intro i2 J2  hm2 hR2
            refine r_iload (pc := 15) hX dX4_mostAtOnce_15 rfl ?_
            refine r_aload_n (pc := 17) hX dX4_mostAtOnce_17 rfl ?_
            refine r_geti (pc := 18) hX dX4_mostAtOnce_18 fl_X4_40 rfl (o_X4_k h) ?_
            refine r_icmp_ge (pc := 21) hX 62 dX4_mostAtOnce_21 (by decide) (fun c21 => ?_) (fun c21 => ?_)
            · have c21d := Int32.not_lt.mpr c21
              rw [loopN_0] at hR2
              subst hR2
              refine r_iload_n (pc := 62) hX dX4_mostAtOnce_62 rfl ?_
              refine r_iload (pc := 63) hX dX4_mostAtOnce_63 rfl ?_
              refine r_mmax (pc := 65) hX dX4_mostAtOnce_65 ml_X4_108 w_mmax (Nat.le_of_ble_eq_true rfl) (by decide) rfl ?_
              refine r_istore_n (pc := 68) hX (L' := [_, _, _, _, _, _]) dX4_mostAtOnce_68 rfl rfl (Nat.le_of_ble_eq_true rfl) ?_
              refine r_iinc (pc := 69) hX 1 (L' := [_, _, _, _, _, _]) dX4_mostAtOnce_69 rfl (by decide) rfl rfl ?_
              refine r_goto (pc := 72) hX (tgt := 4) dX4_mostAtOnce_72 (by decide) ?_
              refine r_weak (L' := [some _, some _, some _, some _, none, none]) (And.intro rfl (And.intro rfl (And.intro rfl (And.intro rfl trivial)))) ?_
              exact ih1 _ _  (cnt_nx hm1) (by refine Eq.trans (congrArg (loopN w1 (i1 + 1) (fun pt m => max_ m (livingAt_ I a pt))) ?_) (loopN_s.symm.trans hR1); exact (by first | with_reducible rfl | (simp only [mostAtOnce_, livingAt_, loopC, eq_false c6, eq_true c6d, eq_true c21, eq_false c21d, ↓reduceIte, if_true, if_false, decide_true, decide_false, eq_self, b2i_t, b2i_f, Bool.false_eq_true, and_true, true_and, and_false, false_and, or_true, true_or, or_false, false_or, not_true_eq_false, not_false_eq_true] <;> rfl) | simp [mostAtOnce_, livingAt_, loopC, eq_false c6, eq_true c6d, eq_true c21, eq_false c21d]))
            · have c21d := Int32.not_le.mp c21
              exact (cnt_ex hm2  c21).elim
          | succ w2 ih2 =>
            intro i2 J2  hm2 hR2
            refine r_iload (pc := 15) hX dX4_mostAtOnce_15 rfl ?_
            refine r_aload_n (pc := 17) hX dX4_mostAtOnce_17 rfl ?_
            refine r_geti (pc := 18) hX dX4_mostAtOnce_18 fl_X4_40 rfl (o_X4_k h) ?_
            refine r_icmp_ge (pc := 21) hX 62 dX4_mostAtOnce_21 (by decide) (fun c21 => ?_) (fun c21 => ?_)
            · have c21d := Int32.not_lt.mpr c21
              exact (cnt_go hm2  c21).elim
            · have c21d := Int32.not_le.mp c21
              refine r_aload_n (pc := 24) hX dX4_mostAtOnce_24 rfl ?_
              refine r_iload (pc := 25) hX dX4_mostAtOnce_25 rfl ?_
              refine r_callV (Z := mX4_isLiving) (t := 4) (pc := 27) hX dX4_mostAtOnce_27 ml_X4_63 mX4_isLiving_w ⟨by decide, rfl⟩ (o_X4_k h) (sp_X4_isLiving h) rfl rfl (Nat.le_of_ble_eq_true rfl) (by decide) rfl (Or.inl rfl) ?_
              refine r_if_eq (pc := 30) hX 56 dX4_mostAtOnce_30 (by decide) (fun c30 => ?_) (fun c30 => ?_)
              · replace c30 := b2i_0 c30
                refine r_iinc (pc := 56) hX 1 (L' := [_, _, _, _, _, _]) dX4_mostAtOnce_56 rfl (by decide) rfl rfl ?_
                refine r_goto (pc := 59) hX (tgt := 15) dX4_mostAtOnce_59 (by decide) ?_
                exact ih2 _ _  (cnt_nx hm2) (by refine Eq.trans (congrArg (loopN w2 (i2 + 1) (fun v c => if isLiving_ I a v = true ∧ firstOf_ I a v ≤ i1 ∧ i1 ≤ lastOf_ I a v then c + 1 else c)) ?_) (loopN_s.symm.trans hR2); exact (by first | with_reducible rfl | (simp only [mostAtOnce_, livingAt_, loopC, eq_false c6, eq_true c6d, eq_false c21, eq_true c21d, c30, ↓reduceIte, if_true, if_false, decide_true, decide_false, eq_self, b2i_t, b2i_f, Bool.false_eq_true, and_true, true_and, and_false, false_and, or_true, true_or, or_false, false_or, not_true_eq_false, not_false_eq_true] <;> rfl) | simp [mostAtOnce_, livingAt_, loopC, eq_false c6, eq_true c6d, eq_false c21, eq_true c21d, c30]))
              · replace c30 := b2i_1 c30
                refine r_aload_n (pc := 33) hX dX4_mostAtOnce_33 rfl ?_
                refine r_iload (pc := 34) hX dX4_mostAtOnce_34 rfl ?_
                refine r_callV (Z := mX4_firstOf) (t := 4) (pc := 36) hX dX4_mostAtOnce_36 ml_X4_123 mX4_firstOf_w ⟨by decide, rfl⟩ (o_X4_k h) (sp_X4_firstOf h) rfl rfl (Nat.le_of_ble_eq_true rfl) (by decide) rfl (Or.inl rfl) ?_
                refine r_iload_n (pc := 39) hX dX4_mostAtOnce_39 rfl ?_
                refine r_icmp_gt (pc := 40) hX 56 dX4_mostAtOnce_40 (by decide) (fun c40 => ?_) (fun c40 => ?_)
                · have c40d := Int32.not_le.mpr c40
                  refine r_iinc (pc := 56) hX 1 (L' := [_, _, _, _, _, _]) dX4_mostAtOnce_56 rfl (by decide) rfl rfl ?_
                  refine r_goto (pc := 59) hX (tgt := 15) dX4_mostAtOnce_59 (by decide) ?_
                  exact ih2 _ _  (cnt_nx hm2) (by refine Eq.trans (congrArg (loopN w2 (i2 + 1) (fun v c => if isLiving_ I a v = true ∧ firstOf_ I a v ≤ i1 ∧ i1 ≤ lastOf_ I a v then c + 1 else c)) ?_) (loopN_s.symm.trans hR2); exact (by first | with_reducible rfl | (simp only [mostAtOnce_, livingAt_, loopC, eq_false c6, eq_true c6d, eq_false c21, eq_true c21d, c30, eq_true c40, eq_false c40d, ↓reduceIte, if_true, if_false, decide_true, decide_false, eq_self, b2i_t, b2i_f, Bool.false_eq_true, and_true, true_and, and_false, false_and, or_true, true_or, or_false, false_or, not_true_eq_false, not_false_eq_true] <;> rfl) | simp [mostAtOnce_, livingAt_, loopC, eq_false c6, eq_true c6d, eq_false c21, eq_true c21d, c30, eq_true c40, eq_false c40d]))
                · have c40d := Int32.not_lt.mp c40
                  refine r_iload_n (pc := 43) hX dX4_mostAtOnce_43 rfl ?_
                  refine r_aload_n (pc := 44) hX dX4_mostAtOnce_44 rfl ?_
                  refine r_iload (pc := 45) hX dX4_mostAtOnce_45 rfl ?_
                  refine r_callV (Z := mX4_lastOf) (t := 4) (pc := 47) hX dX4_mostAtOnce_47 ml_X4_120 mX4_lastOf_w ⟨by decide, rfl⟩ (o_X4_k h) (sp_X4_lastOf h) rfl rfl (Nat.le_of_ble_eq_true rfl) (by decide) rfl (Or.inl rfl) ?_
                  refine r_icmp_gt (pc := 50) hX 56 dX4_mostAtOnce_50 (by decide) (fun c50 => ?_) (fun c50 => ?_)
                  · have c50d := Int32.not_le.mpr c50
                    refine r_iinc (pc := 56) hX 1 (L' := [_, _, _, _, _, _]) dX4_mostAtOnce_56 rfl (by decide) rfl rfl ?_
                    refine r_goto (pc := 59) hX (tgt := 15) dX4_mostAtOnce_59 (by decide) ?_
                    exact ih2 _ _  (cnt_nx hm2) (by refine Eq.trans (congrArg (loopN w2 (i2 + 1) (fun v c => if isLiving_ I a v = true ∧ firstOf_ I a v ≤ i1 ∧ i1 ≤ lastOf_ I a v then c + 1 else c)) ?_) (loopN_s.symm.trans hR2); exact (by first | with_reducible rfl | (simp only [mostAtOnce_, livingAt_, loopC, eq_false c6, eq_true c6d, eq_false c21, eq_true c21d, c30, eq_false c40, eq_true c40d, eq_true c50, eq_false c50d, ↓reduceIte, if_true, if_false, decide_true, decide_false, eq_self, b2i_t, b2i_f, Bool.false_eq_true, and_true, true_and, and_false, false_and, or_true, true_or, or_false, false_or, not_true_eq_false, not_false_eq_true] <;> rfl) | simp [mostAtOnce_, livingAt_, loopC, eq_false c6, eq_true c6d, eq_false c21, eq_true c21d, c30, eq_false c40, eq_true c40d, eq_true c50, eq_false c50d]))
                  · have c50d := Int32.not_lt.mp c50
                    refine r_iinc (pc := 53) hX 1 (L' := [_, _, _, _, _, _]) dX4_mostAtOnce_53 rfl (by decide) rfl rfl ?_
                    refine r_iinc (pc := 56) hX 1 (L' := [_, _, _, _, _, _]) dX4_mostAtOnce_56 rfl (by decide) rfl rfl ?_
                    refine r_goto (pc := 59) hX (tgt := 15) dX4_mostAtOnce_59 (by decide) ?_
                    exact ih2 _ _  (cnt_nx hm2) (by refine Eq.trans (congrArg (loopN w2 (i2 + 1) (fun v c => if isLiving_ I a v = true ∧ firstOf_ I a v ≤ i1 ∧ i1 ≤ lastOf_ I a v then c + 1 else c)) ?_) (loopN_s.symm.trans hR2); exact (by first | with_reducible rfl | (simp only [mostAtOnce_, livingAt_, loopC, eq_false c6, eq_true c6d, eq_false c21, eq_true c21d, c30, eq_false c40, eq_true c40d, eq_false c50, eq_true c50d, ↓reduceIte, if_true, if_false, decide_true, decide_false, eq_self, b2i_t, b2i_f, Bool.false_eq_true, and_true, true_and, and_false, false_and, or_true, true_or, or_false, false_or, not_true_eq_false, not_false_eq_true] <;> rfl) | simp [mostAtOnce_, livingAt_, loopC, eq_false c6, eq_true c6d, eq_false c21, eq_true c21d, c30, eq_false c40, eq_true c40d, eq_false c50, eq_true c50d]))
        exact hL15 (cnt (0) (I a 0)) (0) (0)  rfl rfl
  exact hL4 (cnt (0) (p0 + 1)) (0) (0)  rfl rfl
set_option maxRecDepth 100000 in
set_option maxHeartbeats 1000000 in
theorem sp_X4_touchValue {l : Launch} {k : im_K} {S : im_S} {I : im_I} {a : Nat} {p0 : Int32} {p1 : Int32} {p2 : Int32} (h : o_X4 S a) : im_Runs l k 1 mX4_touchValue [.ref a, .int p0, .int p1, .int p2] (S, I) (none) (S, touchValue_ I a p0 p1 p2) := by
  refine im_run (by decide +kernel) ⟨Nat.le_refl _, Nat.le_refl _⟩ (Nat.le_of_ble_eq_true rfl) ?_
  intro X hl hX hxn hxz hxc hxs
  subst hl
  change im_E X k _ 0 [some (.ref a), some (.int p0), some (.int p1), some (.int p2)] [] S I
  refine r_aload_n (pc := 0) hX dX4_touchValue_0 rfl ?_
  refine r_aload_n (pc := 1) hX dX4_touchValue_1 rfl ?_
  refine r_geti (pc := 2) hX dX4_touchValue_2 fl_X4_40 rfl (o_X4_k h) ?_
  refine r_iload_n (pc := 5) hX dX4_touchValue_5 rfl ?_
  refine r_iconst (pc := 6) hX 1 dX4_touchValue_6 (by decide) ?_
  refine r_iadd (pc := 7) hX dX4_touchValue_7 ?_
  refine r_mmax (pc := 8) hX dX4_touchValue_8 ml_X4_108 w_mmax (Nat.le_of_ble_eq_true rfl) (by decide) rfl ?_
  refine r_puti (pc := 11) hX dX4_touchValue_11 fl_X4_40 rfl rfl (o_X4_k h) ?_
  refine r_aload_n (pc := 14) hX dX4_touchValue_14 rfl ?_
  refine r_getr (pc := 15) hX dX4_touchValue_15 fl_X4_19 rfl (o_X4_k h) (o_X4_r5 h) ?_
  refine r_iload_n (pc := 18) hX dX4_touchValue_18 rfl ?_
  refine r_iload_n (pc := 19) hX dX4_touchValue_19 rfl ?_
  refine r_callSN (Z := mX11_put) (pc := 20) hX dX4_touchValue_20 mn_X4_71 mX11_put_w (sp_X11_put (o_X4_a5 h)) rfl rfl (Nat.le_of_ble_eq_true rfl) (by decide) rfl (Or.inl rfl) ?_
  refine r_aload_n (pc := 23) hX dX4_touchValue_23 rfl ?_
  refine r_getr (pc := 24) hX dX4_touchValue_24 fl_X4_22 rfl (o_X4_k h) (o_X4_r6 h) ?_
  refine r_iload_n (pc := 27) hX dX4_touchValue_27 rfl ?_
  refine r_aload_n (pc := 28) hX dX4_touchValue_28 rfl ?_
  refine r_getr (pc := 29) hX dX4_touchValue_29 fl_X4_22 rfl (o_X4_k h) (o_X4_r6 h) ?_
  refine r_iload_n (pc := 32) hX dX4_touchValue_32 rfl ?_
  refine r_callSN (Z := mX11_at) (pc := 33) hX dX4_touchValue_33 mn_X4_93 mX11_at_w (sp_X11_at (o_X4_a6 h)) rfl rfl (Nat.le_of_ble_eq_true rfl) (by decide) rfl (Or.inl rfl) ?_
  refine r_iload_n (pc := 36) hX dX4_touchValue_36 rfl ?_
  refine r_iadd (pc := 37) hX dX4_touchValue_37 ?_
  refine r_callSN (Z := mX11_put) (pc := 38) hX dX4_touchValue_38 mn_X4_71 mX11_put_w (sp_X11_put (o_X4_a6 h)) rfl rfl (Nat.le_of_ble_eq_true rfl) (by decide) rfl (Or.inl rfl) ?_
  exact r_return (pc := 41) hX dX4_touchValue_41 rfl rfl (by first | with_reducible rfl | (simp only [touchValue_, max_, ↓reduceIte, if_true, if_false, decide_true, decide_false, eq_self, b2i_t, b2i_f, Bool.false_eq_true, and_true, true_and, and_false, false_and, or_true, true_or, or_false, false_or, not_true_eq_false, not_false_eq_true] <;> rfl) | simp [touchValue_, max_])
set_option maxRecDepth 100000 in
set_option maxHeartbeats 1000000 in
theorem sp_X4_touch {l : Launch} {k : im_K} {S : im_S} {I : im_I} {a : Nat} {b0 : Nat} {p1 : Int32} (h : o_X4 S a) (hb0 : o_X3 S b0) : im_Runs l k 2 mX4_touch [.ref a, .ref b0, .int p1] (S, I) (none) (S, touch_ I a b0 p1) := by
  refine im_run (by decide +kernel) ⟨Nat.le_refl _, Nat.le_refl _⟩ (Nat.le_of_ble_eq_true rfl) ?_
  intro X hl hX hxn hxz hxc hxs
  subst hl
  change im_E X k _ 0 [some (.ref a), some (.ref b0), some (.int p1), none, none, none, none] [] S I
  refine r_aload_n (pc := 0) hX dX4_touch_0 rfl ?_
  refine r_getr (pc := 1) hX dX4_touch_1 fl_X4_9 rfl (o_X4_k h) (o_X4_r3 h) ?_
  refine r_aload_n (pc := 4) hX dX4_touch_4 rfl ?_
  refine r_iload_n (pc := 5) hX dX4_touch_5 rfl ?_
  refine r_callV (Z := mX3_blockOf) (t := 3) (pc := 6) hX dX4_touch_6 ml_X4_82 mX3_blockOf_w ⟨by decide, rfl⟩ (o_X3_k hb0) (sp_X3_blockOf hb0) rfl rfl (Nat.le_of_ble_eq_true rfl) (by decide) rfl (Or.inl rfl) ?_
  refine r_callV (Z := mX8_roundsOf) (t := 8) (pc := 9) hX dX4_touch_9 ml_X4_85 mX8_roundsOf_w ⟨by decide, rfl⟩ (o_X8_k (o_X4_o3 h)) (sp_X8_roundsOf (o_X4_o3 h)) rfl rfl (Nat.le_of_ble_eq_true rfl) (by decide) rfl (Or.inl rfl) ?_
  refine r_istore_n (pc := 12) hX (L' := [_, _, _, _, _, _, _]) dX4_touch_12 rfl rfl (Nat.le_of_ble_eq_true rfl) ?_
  refine r_aload_n (pc := 13) hX dX4_touch_13 rfl ?_
  refine r_iload_n (pc := 14) hX dX4_touch_14 rfl ?_
  refine r_callV (Z := mX3_writtenBy) (t := 3) (pc := 15) hX dX4_touch_15 ml_X4_90 mX3_writtenBy_w ⟨by decide, rfl⟩ (o_X3_k hb0) (sp_X3_writtenBy hb0) rfl rfl (Nat.le_of_ble_eq_true rfl) (by decide) rfl (Or.inl rfl) ?_
  refine r_istore (pc := 18) hX (L' := [_, _, _, _, _, _, _]) dX4_touch_18 rfl rfl (Nat.le_of_ble_eq_true rfl) ?_
  refine r_aload_n (pc := 20) hX dX4_touch_20 rfl ?_
  refine r_getr (pc := 21) hX dX4_touch_21 fl_X4_15 rfl (o_X4_k h) (o_X4_r4 h) ?_
  refine r_iload (pc := 24) hX dX4_touch_24 rfl ?_
  refine r_callSN (Z := mX11_at) (pc := 26) hX dX4_touch_26 mn_X4_93 mX11_at_w (sp_X11_at (o_X4_a4 h)) rfl rfl (Nat.le_of_ble_eq_true rfl) (by decide) rfl (Or.inl rfl) ?_
  refine r_iconst (pc := 29) hX (-1) dX4_touch_29 (by decide) ?_
  refine r_icmp_ne (pc := 30) hX 43 dX4_touch_30 (by decide) (fun c30 => ?_) (fun c30 => ?_)
  · refine r_aload_n (pc := 43) hX dX4_touch_43 rfl ?_
    refine r_getr (pc := 44) hX dX4_touch_44 fl_X4_28 rfl (o_X4_k h) (o_X4_r8 h) ?_
    refine r_iload (pc := 47) hX dX4_touch_47 rfl ?_
    refine r_aload_n (pc := 49) hX dX4_touch_49 rfl ?_
    refine r_getr (pc := 50) hX dX4_touch_50 fl_X4_28 rfl (o_X4_k h) (o_X4_r8 h) ?_
    refine r_iload (pc := 53) hX dX4_touch_53 rfl ?_
    refine r_callSN (Z := mX11_at) (pc := 55) hX dX4_touch_55 mn_X4_93 mX11_at_w (sp_X11_at (o_X4_a8 h)) rfl rfl (Nat.le_of_ble_eq_true rfl) (by decide) rfl (Or.inl rfl) ?_
    refine r_iconst (pc := 58) hX 1 dX4_touch_58 (by decide) ?_
    refine r_iadd (pc := 59) hX dX4_touch_59 ?_
    refine r_callSN (Z := mX11_put) (pc := 60) hX dX4_touch_60 mn_X4_71 mX11_put_w (sp_X11_put (o_X4_a8 h)) rfl rfl (Nat.le_of_ble_eq_true rfl) (by decide) rfl (Or.inl rfl) ?_
    refine r_aload_n (pc := 63) hX dX4_touch_63 rfl ?_
    refine r_iload (pc := 64) hX dX4_touch_64 rfl ?_
    refine r_iload_n (pc := 66) hX dX4_touch_66 rfl ?_
    refine r_iload_n (pc := 67) hX dX4_touch_67 rfl ?_
    refine r_callV (Z := mX4_touchValue) (t := 4) (pc := 68) hX dX4_touch_68 ml_X4_97 mX4_touchValue_w ⟨by decide, rfl⟩ (o_X4_k h) (sp_X4_touchValue h) rfl rfl (Nat.le_of_ble_eq_true rfl) (by decide) rfl (Or.inl rfl) ?_
    refine r_iconst (pc := 71) hX 0 dX4_touch_71 (by decide) ?_
    refine r_istore (pc := 72) hX (L' := [_, _, _, _, _, _, _]) dX4_touch_72 rfl rfl (Nat.le_of_ble_eq_true rfl) ?_
    have hL74 : ∀ (w1 : Nat) (i1 : Int32) (J1 : im_I), cnt i1 (3) = w1 → loopN w1 i1 (touchRead_ a b0 p1 (roundsOf_ I 3 (blockOf_ I b0 p1))) J1 = loopN (cnt (0) (3)) (0) (touchRead_ a b0 p1 (roundsOf_ I 3 (blockOf_ I b0 p1))) (touch2_ I a b0 p1) → im_E X k (im_Q X k (none) (S, touch_ I a b0 p1)) 74 [some (.ref a), some (.ref b0), some (.int p1), some (.int (roundsOf_ I 3 (blockOf_ I b0 p1))), some (.int (writtenBy_ I b0 p1)), some (.int i1), none] [] S J1 := by
      intro w1
      induction w1 with
      | zero =>
        intro i1 J1  hm1 hR1
        refine r_iload (pc := 74) hX dX4_touch_74 rfl ?_
        refine r_iconst (pc := 76) hX 3 dX4_touch_76 (by decide) ?_
        refine r_icmp_ge (pc := 77) hX 129 dX4_touch_77 (by decide) (fun c77 => ?_) (fun c77 => ?_)
        · have c77d := Int32.not_lt.mpr c77
          rw [loopN_0] at hR1
          subst hR1
          refine r_aload_n (pc := 129) hX dX4_touch_129 rfl ?_
          refine r_iload_n (pc := 130) hX dX4_touch_130 rfl ?_
          refine r_callV (Z := mX3_kindOf) (t := 3) (pc := 131) hX dX4_touch_131 ml_X4_105 mX3_kindOf_w ⟨by decide, rfl⟩ (o_X3_k hb0) (sp_X3_kindOf hb0) rfl rfl (Nat.le_of_ble_eq_true rfl) (by decide) rfl (Or.inl rfl) ?_
          refine r_bipush (pc := 134) hX 9 dX4_touch_134 (by decide) ?_
          refine r_icmp_ne (pc := 136) hX 161 dX4_touch_136 (by decide) (fun c136 => ?_) (fun c136 => ?_)
          · exact r_return (pc := 161) hX dX4_touch_161 rfl rfl (by first | with_reducible rfl | (simp only [touch_, loopC, eq_false c30, eq_true c77, eq_false c77d, eq_false c136, ↓reduceIte, if_true, if_false, decide_true, decide_false, eq_self, b2i_t, b2i_f, Bool.false_eq_true, and_true, true_and, and_false, false_and, or_true, true_or, or_false, false_or, not_true_eq_false, not_false_eq_true] <;> rfl) | simp [touch_, loopC, eq_false c30, eq_true c77, eq_false c77d, eq_false c136])
          · refine r_aload_n (pc := 139) hX dX4_touch_139 rfl ?_
            refine r_getr (pc := 140) hX dX4_touch_140 fl_X4_37 rfl (o_X4_k h) (o_X4_r11 h) ?_
            refine r_aload_n (pc := 143) hX dX4_touch_143 rfl ?_
            refine r_geti (pc := 144) hX dX4_touch_144 fl_X4_47 rfl (o_X4_k h) ?_
            refine r_iload_n (pc := 147) hX dX4_touch_147 rfl ?_
            refine r_callSN (Z := mX11_put) (pc := 148) hX dX4_touch_148 mn_X4_71 mX11_put_w (sp_X11_put (o_X4_a11 h)) rfl rfl (Nat.le_of_ble_eq_true rfl) (by decide) rfl (Or.inl rfl) ?_
            refine r_aload_n (pc := 151) hX dX4_touch_151 rfl ?_
            refine r_dup (pc := 152) hX dX4_touch_152 rfl ?_
            refine r_geti (pc := 153) hX dX4_touch_153 fl_X4_47 rfl (o_X4_k h) ?_
            refine r_iconst (pc := 156) hX 1 dX4_touch_156 (by decide) ?_
            refine r_iadd (pc := 157) hX dX4_touch_157 ?_
            refine r_puti (pc := 158) hX dX4_touch_158 fl_X4_47 rfl rfl (o_X4_k h) ?_
            exact r_return (pc := 161) hX dX4_touch_161 rfl rfl (by first | with_reducible rfl | (simp only [touch_, loopC, eq_false c30, eq_true c77, eq_false c77d, eq_true c136, ↓reduceIte, if_true, if_false, decide_true, decide_false, eq_self, b2i_t, b2i_f, Bool.false_eq_true, and_true, true_and, and_false, false_and, or_true, true_or, or_false, false_or, not_true_eq_false, not_false_eq_true] <;> rfl) | simp [touch_, loopC, eq_false c30, eq_true c77, eq_false c77d, eq_true c136])
        · have c77d := Int32.not_le.mp c77
          exact (cnt_ex hm1  c77).elim
      | succ w1 ih1 =>
        intro i1 J1  hm1 hR1
        refine r_iload (pc := 74) hX dX4_touch_74 rfl ?_
        refine r_iconst (pc := 76) hX 3 dX4_touch_76 (by decide) ?_
        refine r_icmp_ge (pc := 77) hX 129 dX4_touch_77 (by decide) (fun c77 => ?_) (fun c77 => ?_)
        · have c77d := Int32.not_lt.mpr c77
          exact (cnt_go hm1  c77).elim
        · have c77d := Int32.not_le.mp c77
          refine r_aload_n (pc := 80) hX dX4_touch_80 rfl ?_
          refine r_iload_n (pc := 81) hX dX4_touch_81 rfl ?_
          refine r_iload (pc := 82) hX dX4_touch_82 rfl ?_
          refine r_callV (Z := mX3_readBy) (t := 3) (pc := 84) hX dX4_touch_84 ml_X4_101 mX3_readBy_w ⟨by decide, rfl⟩ (o_X3_k hb0) (sp_X3_readBy hb0) rfl rfl (Nat.le_of_ble_eq_true rfl) (by decide) rfl (Or.inl rfl) ?_
          refine r_istore (pc := 87) hX (L' := [_, _, _, _, _, _, _]) dX4_touch_87 rfl rfl (Nat.le_of_ble_eq_true rfl) ?_
          refine r_iload (pc := 89) hX dX4_touch_89 rfl ?_
          refine r_iconst (pc := 91) hX (-1) dX4_touch_91 (by decide) ?_
          refine r_icmp_eq (pc := 92) hX 123 dX4_touch_92 (by decide) (fun c92 => ?_) (fun c92 => ?_)
          · refine r_iinc (pc := 123) hX 1 (L' := [_, _, _, _, _, _, _]) dX4_touch_123 rfl (by decide) rfl rfl ?_
            refine r_goto (pc := 126) hX (tgt := 74) dX4_touch_126 (by decide) ?_
            refine r_weak (L' := [some _, some _, some _, some _, some _, some _, none]) (And.intro rfl (And.intro rfl (And.intro rfl (And.intro rfl (And.intro rfl (And.intro rfl trivial)))))) ?_
            refine r_mem (I' := (touchRead_ a b0 p1 (roundsOf_ I 3 (blockOf_ I b0 p1))) i1 J1) (by first | with_reducible rfl | (simp only [touchRead_, eq_false c30, eq_false c77, eq_true c77d, eq_true c92, ↓reduceIte, if_true, if_false, decide_true, decide_false, eq_self, b2i_t, b2i_f, Bool.false_eq_true, and_true, true_and, and_false, false_and, or_true, true_or, or_false, false_or, not_true_eq_false, not_false_eq_true] <;> rfl) | simp [touchRead_, eq_false c30, eq_false c77, eq_true c77d, eq_true c92]) ?_
            exact ih1 _ _  (cnt_nx hm1) (loopN_s.symm.trans hR1)
          · refine r_aload_n (pc := 95) hX dX4_touch_95 rfl ?_
            refine r_getr (pc := 96) hX dX4_touch_96 fl_X4_31 rfl (o_X4_k h) (o_X4_r9 h) ?_
            refine r_iload (pc := 99) hX dX4_touch_99 rfl ?_
            refine r_aload_n (pc := 101) hX dX4_touch_101 rfl ?_
            refine r_getr (pc := 102) hX dX4_touch_102 fl_X4_31 rfl (o_X4_k h) (o_X4_r9 h) ?_
            refine r_iload (pc := 105) hX dX4_touch_105 rfl ?_
            refine r_callSN (Z := mX11_at) (pc := 107) hX dX4_touch_107 mn_X4_93 mX11_at_w (sp_X11_at (o_X4_a9 h)) rfl rfl (Nat.le_of_ble_eq_true rfl) (by decide) rfl (Or.inl rfl) ?_
            refine r_iconst (pc := 110) hX 1 dX4_touch_110 (by decide) ?_
            refine r_iadd (pc := 111) hX dX4_touch_111 ?_
            refine r_callSN (Z := mX11_put) (pc := 112) hX dX4_touch_112 mn_X4_71 mX11_put_w (sp_X11_put (o_X4_a9 h)) rfl rfl (Nat.le_of_ble_eq_true rfl) (by decide) rfl (Or.inl rfl) ?_
            refine r_aload_n (pc := 115) hX dX4_touch_115 rfl ?_
            refine r_iload (pc := 116) hX dX4_touch_116 rfl ?_
            refine r_iload_n (pc := 118) hX dX4_touch_118 rfl ?_
            refine r_iload_n (pc := 119) hX dX4_touch_119 rfl ?_
            refine r_callV (Z := mX4_touchValue) (t := 4) (pc := 120) hX dX4_touch_120 ml_X4_97 mX4_touchValue_w ⟨by decide, rfl⟩ (o_X4_k h) (sp_X4_touchValue h) rfl rfl (Nat.le_of_ble_eq_true rfl) (by decide) rfl (Or.inl rfl) ?_
            refine r_iinc (pc := 123) hX 1 (L' := [_, _, _, _, _, _, _]) dX4_touch_123 rfl (by decide) rfl rfl ?_
            refine r_goto (pc := 126) hX (tgt := 74) dX4_touch_126 (by decide) ?_
            refine r_weak (L' := [some _, some _, some _, some _, some _, some _, none]) (And.intro rfl (And.intro rfl (And.intro rfl (And.intro rfl (And.intro rfl (And.intro rfl trivial)))))) ?_
            refine r_mem (I' := (touchRead_ a b0 p1 (roundsOf_ I 3 (blockOf_ I b0 p1))) i1 J1) (by first | with_reducible rfl | (simp only [touchRead_, eq_false c30, eq_false c77, eq_true c77d, eq_false c92, ↓reduceIte, if_true, if_false, decide_true, decide_false, eq_self, b2i_t, b2i_f, Bool.false_eq_true, and_true, true_and, and_false, false_and, or_true, true_or, or_false, false_or, not_true_eq_false, not_false_eq_true] <;> rfl) | simp [touchRead_, eq_false c30, eq_false c77, eq_true c77d, eq_false c92]) ?_
            exact ih1 _ _  (cnt_nx hm1) (loopN_s.symm.trans hR1)
    refine r_mem (I' := touch2_ I a b0 p1) (by first | with_reducible rfl | (simp only [touch2_, touch1_, eq_false c30, ↓reduceIte, if_true, if_false, decide_true, decide_false, eq_self, b2i_t, b2i_f, Bool.false_eq_true, and_true, true_and, and_false, false_and, or_true, true_or, or_false, false_or, not_true_eq_false, not_false_eq_true] <;> rfl) | simp [touch2_, touch1_, eq_false c30]) ?_
    exact hL74 (cnt (0) (3)) (0) (touch2_ I a b0 p1)  rfl rfl
  · refine r_aload_n (pc := 33) hX dX4_touch_33 rfl ?_
    refine r_getr (pc := 34) hX dX4_touch_34 fl_X4_15 rfl (o_X4_k h) (o_X4_r4 h) ?_
    refine r_iload (pc := 37) hX dX4_touch_37 rfl ?_
    refine r_iload_n (pc := 39) hX dX4_touch_39 rfl ?_
    refine r_callSN (Z := mX11_put) (pc := 40) hX dX4_touch_40 mn_X4_71 mX11_put_w (sp_X11_put (o_X4_a4 h)) rfl rfl (Nat.le_of_ble_eq_true rfl) (by decide) rfl (Or.inl rfl) ?_
    refine r_aload_n (pc := 43) hX dX4_touch_43 rfl ?_
    refine r_getr (pc := 44) hX dX4_touch_44 fl_X4_28 rfl (o_X4_k h) (o_X4_r8 h) ?_
    refine r_iload (pc := 47) hX dX4_touch_47 rfl ?_
    refine r_aload_n (pc := 49) hX dX4_touch_49 rfl ?_
    refine r_getr (pc := 50) hX dX4_touch_50 fl_X4_28 rfl (o_X4_k h) (o_X4_r8 h) ?_
    refine r_iload (pc := 53) hX dX4_touch_53 rfl ?_
    refine r_callSN (Z := mX11_at) (pc := 55) hX dX4_touch_55 mn_X4_93 mX11_at_w (sp_X11_at (o_X4_a8 h)) rfl rfl (Nat.le_of_ble_eq_true rfl) (by decide) rfl (Or.inl rfl) ?_
    refine r_iconst (pc := 58) hX 1 dX4_touch_58 (by decide) ?_
    refine r_iadd (pc := 59) hX dX4_touch_59 ?_
    refine r_callSN (Z := mX11_put) (pc := 60) hX dX4_touch_60 mn_X4_71 mX11_put_w (sp_X11_put (o_X4_a8 h)) rfl rfl (Nat.le_of_ble_eq_true rfl) (by decide) rfl (Or.inl rfl) ?_
    refine r_aload_n (pc := 63) hX dX4_touch_63 rfl ?_
    refine r_iload (pc := 64) hX dX4_touch_64 rfl ?_
    refine r_iload_n (pc := 66) hX dX4_touch_66 rfl ?_
    refine r_iload_n (pc := 67) hX dX4_touch_67 rfl ?_
    refine r_callV (Z := mX4_touchValue) (t := 4) (pc := 68) hX dX4_touch_68 ml_X4_97 mX4_touchValue_w ⟨by decide, rfl⟩ (o_X4_k h) (sp_X4_touchValue h) rfl rfl (Nat.le_of_ble_eq_true rfl) (by decide) rfl (Or.inl rfl) ?_
    refine r_iconst (pc := 71) hX 0 dX4_touch_71 (by decide) ?_
    refine r_istore (pc := 72) hX (L' := [_, _, _, _, _, _, _]) dX4_touch_72 rfl rfl (Nat.le_of_ble_eq_true rfl) ?_
    have hL74 : ∀ (w1 : Nat) (i1 : Int32) (J1 : im_I), cnt i1 (3) = w1 → loopN w1 i1 (touchRead_ a b0 p1 (roundsOf_ I 3 (blockOf_ I b0 p1))) J1 = loopN (cnt (0) (3)) (0) (touchRead_ a b0 p1 (roundsOf_ I 3 (blockOf_ I b0 p1))) (touch2_ I a b0 p1) → im_E X k (im_Q X k (none) (S, touch_ I a b0 p1)) 74 [some (.ref a), some (.ref b0), some (.int p1), some (.int (roundsOf_ I 3 (blockOf_ I b0 p1))), some (.int (writtenBy_ I b0 p1)), some (.int i1), none] [] S J1 := by
      intro w1
      induction w1 with
      | zero =>
        intro i1 J1  hm1 hR1
        refine r_iload (pc := 74) hX dX4_touch_74 rfl ?_
        refine r_iconst (pc := 76) hX 3 dX4_touch_76 (by decide) ?_
        refine r_icmp_ge (pc := 77) hX 129 dX4_touch_77 (by decide) (fun c77 => ?_) (fun c77 => ?_)
        · have c77d := Int32.not_lt.mpr c77
          rw [loopN_0] at hR1
          subst hR1
          refine r_aload_n (pc := 129) hX dX4_touch_129 rfl ?_
          refine r_iload_n (pc := 130) hX dX4_touch_130 rfl ?_
          refine r_callV (Z := mX3_kindOf) (t := 3) (pc := 131) hX dX4_touch_131 ml_X4_105 mX3_kindOf_w ⟨by decide, rfl⟩ (o_X3_k hb0) (sp_X3_kindOf hb0) rfl rfl (Nat.le_of_ble_eq_true rfl) (by decide) rfl (Or.inl rfl) ?_
          refine r_bipush (pc := 134) hX 9 dX4_touch_134 (by decide) ?_
          refine r_icmp_ne (pc := 136) hX 161 dX4_touch_136 (by decide) (fun c136 => ?_) (fun c136 => ?_)
          · exact r_return (pc := 161) hX dX4_touch_161 rfl rfl (by first | with_reducible rfl | (simp only [touch_, loopC, eq_true c30, eq_true c77, eq_false c77d, eq_false c136, ↓reduceIte, if_true, if_false, decide_true, decide_false, eq_self, b2i_t, b2i_f, Bool.false_eq_true, and_true, true_and, and_false, false_and, or_true, true_or, or_false, false_or, not_true_eq_false, not_false_eq_true] <;> rfl) | simp [touch_, loopC, eq_true c30, eq_true c77, eq_false c77d, eq_false c136])
          · refine r_aload_n (pc := 139) hX dX4_touch_139 rfl ?_
            refine r_getr (pc := 140) hX dX4_touch_140 fl_X4_37 rfl (o_X4_k h) (o_X4_r11 h) ?_
            refine r_aload_n (pc := 143) hX dX4_touch_143 rfl ?_
            refine r_geti (pc := 144) hX dX4_touch_144 fl_X4_47 rfl (o_X4_k h) ?_
            refine r_iload_n (pc := 147) hX dX4_touch_147 rfl ?_
            refine r_callSN (Z := mX11_put) (pc := 148) hX dX4_touch_148 mn_X4_71 mX11_put_w (sp_X11_put (o_X4_a11 h)) rfl rfl (Nat.le_of_ble_eq_true rfl) (by decide) rfl (Or.inl rfl) ?_
            refine r_aload_n (pc := 151) hX dX4_touch_151 rfl ?_
            refine r_dup (pc := 152) hX dX4_touch_152 rfl ?_
            refine r_geti (pc := 153) hX dX4_touch_153 fl_X4_47 rfl (o_X4_k h) ?_
            refine r_iconst (pc := 156) hX 1 dX4_touch_156 (by decide) ?_
            refine r_iadd (pc := 157) hX dX4_touch_157 ?_
            refine r_puti (pc := 158) hX dX4_touch_158 fl_X4_47 rfl rfl (o_X4_k h) ?_
            exact r_return (pc := 161) hX dX4_touch_161 rfl rfl (by first | with_reducible rfl | (simp only [touch_, loopC, eq_true c30, eq_true c77, eq_false c77d, eq_true c136, ↓reduceIte, if_true, if_false, decide_true, decide_false, eq_self, b2i_t, b2i_f, Bool.false_eq_true, and_true, true_and, and_false, false_and, or_true, true_or, or_false, false_or, not_true_eq_false, not_false_eq_true] <;> rfl) | simp [touch_, loopC, eq_true c30, eq_true c77, eq_false c77d, eq_true c136])
        · have c77d := Int32.not_le.mp c77
          exact (cnt_ex hm1  c77).elim
      | succ w1 ih1 =>
        intro i1 J1  hm1 hR1
        refine r_iload (pc := 74) hX dX4_touch_74 rfl ?_
        refine r_iconst (pc := 76) hX 3 dX4_touch_76 (by decide) ?_
        refine r_icmp_ge (pc := 77) hX 129 dX4_touch_77 (by decide) (fun c77 => ?_) (fun c77 => ?_)
        · have c77d := Int32.not_lt.mpr c77
          exact (cnt_go hm1  c77).elim
        · have c77d := Int32.not_le.mp c77
          refine r_aload_n (pc := 80) hX dX4_touch_80 rfl ?_
          refine r_iload_n (pc := 81) hX dX4_touch_81 rfl ?_
          refine r_iload (pc := 82) hX dX4_touch_82 rfl ?_
          refine r_callV (Z := mX3_readBy) (t := 3) (pc := 84) hX dX4_touch_84 ml_X4_101 mX3_readBy_w ⟨by decide, rfl⟩ (o_X3_k hb0) (sp_X3_readBy hb0) rfl rfl (Nat.le_of_ble_eq_true rfl) (by decide) rfl (Or.inl rfl) ?_
          refine r_istore (pc := 87) hX (L' := [_, _, _, _, _, _, _]) dX4_touch_87 rfl rfl (Nat.le_of_ble_eq_true rfl) ?_
          refine r_iload (pc := 89) hX dX4_touch_89 rfl ?_
          refine r_iconst (pc := 91) hX (-1) dX4_touch_91 (by decide) ?_
          refine r_icmp_eq (pc := 92) hX 123 dX4_touch_92 (by decide) (fun c92 => ?_) (fun c92 => ?_)
          · refine r_iinc (pc := 123) hX 1 (L' := [_, _, _, _, _, _, _]) dX4_touch_123 rfl (by decide) rfl rfl ?_
            refine r_goto (pc := 126) hX (tgt := 74) dX4_touch_126 (by decide) ?_
            refine r_weak (L' := [some _, some _, some _, some _, some _, some _, none]) (And.intro rfl (And.intro rfl (And.intro rfl (And.intro rfl (And.intro rfl (And.intro rfl trivial)))))) ?_
            refine r_mem (I' := (touchRead_ a b0 p1 (roundsOf_ I 3 (blockOf_ I b0 p1))) i1 J1) (by first | with_reducible rfl | (simp only [touchRead_, eq_true c30, eq_false c77, eq_true c77d, eq_true c92, ↓reduceIte, if_true, if_false, decide_true, decide_false, eq_self, b2i_t, b2i_f, Bool.false_eq_true, and_true, true_and, and_false, false_and, or_true, true_or, or_false, false_or, not_true_eq_false, not_false_eq_true] <;> rfl) | simp [touchRead_, eq_true c30, eq_false c77, eq_true c77d, eq_true c92]) ?_
            exact ih1 _ _  (cnt_nx hm1) (loopN_s.symm.trans hR1)
          · refine r_aload_n (pc := 95) hX dX4_touch_95 rfl ?_
            refine r_getr (pc := 96) hX dX4_touch_96 fl_X4_31 rfl (o_X4_k h) (o_X4_r9 h) ?_
            refine r_iload (pc := 99) hX dX4_touch_99 rfl ?_
            refine r_aload_n (pc := 101) hX dX4_touch_101 rfl ?_
            refine r_getr (pc := 102) hX dX4_touch_102 fl_X4_31 rfl (o_X4_k h) (o_X4_r9 h) ?_
            refine r_iload (pc := 105) hX dX4_touch_105 rfl ?_
            refine r_callSN (Z := mX11_at) (pc := 107) hX dX4_touch_107 mn_X4_93 mX11_at_w (sp_X11_at (o_X4_a9 h)) rfl rfl (Nat.le_of_ble_eq_true rfl) (by decide) rfl (Or.inl rfl) ?_
            refine r_iconst (pc := 110) hX 1 dX4_touch_110 (by decide) ?_
            refine r_iadd (pc := 111) hX dX4_touch_111 ?_
            refine r_callSN (Z := mX11_put) (pc := 112) hX dX4_touch_112 mn_X4_71 mX11_put_w (sp_X11_put (o_X4_a9 h)) rfl rfl (Nat.le_of_ble_eq_true rfl) (by decide) rfl (Or.inl rfl) ?_
            refine r_aload_n (pc := 115) hX dX4_touch_115 rfl ?_
            refine r_iload (pc := 116) hX dX4_touch_116 rfl ?_
            refine r_iload_n (pc := 118) hX dX4_touch_118 rfl ?_
            refine r_iload_n (pc := 119) hX dX4_touch_119 rfl ?_
            refine r_callV (Z := mX4_touchValue) (t := 4) (pc := 120) hX dX4_touch_120 ml_X4_97 mX4_touchValue_w ⟨by decide, rfl⟩ (o_X4_k h) (sp_X4_touchValue h) rfl rfl (Nat.le_of_ble_eq_true rfl) (by decide) rfl (Or.inl rfl) ?_
            refine r_iinc (pc := 123) hX 1 (L' := [_, _, _, _, _, _, _]) dX4_touch_123 rfl (by decide) rfl rfl ?_
            refine r_goto (pc := 126) hX (tgt := 74) dX4_touch_126 (by decide) ?_
            refine r_weak (L' := [some _, some _, some _, some _, some _, some _, none]) (And.intro rfl (And.intro rfl (And.intro rfl (And.intro rfl (And.intro rfl (And.intro rfl trivial)))))) ?_
            refine r_mem (I' := (touchRead_ a b0 p1 (roundsOf_ I 3 (blockOf_ I b0 p1))) i1 J1) (by first | with_reducible rfl | (simp only [touchRead_, eq_true c30, eq_false c77, eq_true c77d, eq_false c92, ↓reduceIte, if_true, if_false, decide_true, decide_false, eq_self, b2i_t, b2i_f, Bool.false_eq_true, and_true, true_and, and_false, false_and, or_true, true_or, or_false, false_or, not_true_eq_false, not_false_eq_true] <;> rfl) | simp [touchRead_, eq_true c30, eq_false c77, eq_true c77d, eq_false c92]) ?_
            exact ih1 _ _  (cnt_nx hm1) (loopN_s.symm.trans hR1)
    refine r_mem (I' := touch2_ I a b0 p1) (by first | with_reducible rfl | (simp only [touch2_, touch1_, eq_true c30, ↓reduceIte, if_true, if_false, decide_true, decide_false, eq_self, b2i_t, b2i_f, Bool.false_eq_true, and_true, true_and, and_false, false_and, or_true, true_or, or_false, false_or, not_true_eq_false, not_false_eq_true] <;> rfl) | simp [touch2_, touch1_, eq_true c30]) ?_
    exact hL74 (cnt (0) (3)) (0) (touch2_ I a b0 p1)  rfl rfl
