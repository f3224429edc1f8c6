/-! walks, by program out of spec4.py -/
set_option maxRecDepth 100000 in
set_option maxHeartbeats 1000000 in
theorem sp_X0_coverAll {l : Launch} {k : im_K} {S : im_S} {I : im_I} {a m : Nat} (h : o_X0 S a m) (ha : 11 < a) : im_Runs l k 3 mX0_coverAll [.ref a] (S, I) (none) (S, coverAll_ I a m) := by
  refine im_run (by decide +kernel) ⟨Nat.le_refl _, Nat.le_refl _⟩ (Nat.le_of_ble_eq_true rfl) ?_
  intro X hl hX hxn hxz hxc hxs
  subst hl
  change im_E X k _ 0 [some (.ref a), none, none] [] S I
  refine r_aload_n (pc := 0) hX dX0_coverAll_0 rfl ?_
  refine r_bipush (pc := 1) hX 8 dX0_coverAll_1 (by decide) ?_
  refine r_puti (pc := 3) hX dX0_coverAll_3 fl_X0_44 rfl rfl (o_X0_k h) ?_
  refine r_iconst (pc := 6) hX 0 dX0_coverAll_6 (by decide) ?_
  refine r_istore_n (pc := 7) hX (L' := [_, _, _]) dX0_coverAll_7 rfl rfl (Nat.le_of_ble_eq_true rfl) ?_
  have hL8 : ∀ (w1 : Nat) (i1 : Int32) (J1 : im_I), J1 3 0 = I 3 0 → cnt i1 (I 3 0) = w1 → loopN w1 i1 (coverOne_ a m) J1 = loopN (cnt (0) (I 3 0)) (0) (coverOne_ a m) (im_up I a 11 8) → im_E X k (im_Q X k (none) (S, coverAll_ I a m)) 8 [some (.ref a), some (.int i1), none] [] S J1 := by
    intro w1
    induction w1 with
    | zero =>
      intro i1 J1 hf1 hm1 hR1
      refine r_iload_n (pc := 8) hX dX0_coverAll_8 rfl ?_
      refine r_aload_n (pc := 9) hX dX0_coverAll_9 rfl ?_
      refine r_getr (pc := 10) hX dX0_coverAll_10 fl_X0_9 rfl (o_X0_k h) (o_X0_r1 h) ?_
      refine r_geti (pc := 13) hX dX0_coverAll_13 fl_X0_48 rfl (o_X8_k (o_X0_o1 h)) ?_
      refine r_icmp_ge (pc := 16) hX 88 dX0_coverAll_16 (by decide) (fun c16 => ?_) (fun c16 => ?_)
      · have c16d := Int32.not_lt.mpr c16
        rw [loopN_0] at hR1
        subst hR1
        exact r_return (pc := 88) hX dX0_coverAll_88 rfl rfl (by first | with_reducible rfl | (simp only [coverAll_, coverOne_, loopC, eq_true c16, eq_false c16d, ↓reduceIte, if_true, if_false, decide_true, decide_false, eq_self, b2i_t, b2i_f, Bool.false_eq_true, and_true, true_and, and_false, false_and, or_true, true_or, or_false, false_or, not_true_eq_false, not_false_eq_true] <;> rfl) | simp [coverAll_, coverOne_, loopC, eq_true c16, eq_false c16d])
      · have c16d := Int32.not_le.mp c16
        rw [hf1] at c16; exact (cnt_ex hm1  c16).elim
    | succ w1 ih1 =>
      intro i1 J1 hf1 hm1 hR1
      refine r_iload_n (pc := 8) hX dX0_coverAll_8 rfl ?_
      refine r_aload_n (pc := 9) hX dX0_coverAll_9 rfl ?_
      refine r_getr (pc := 10) hX dX0_coverAll_10 fl_X0_9 rfl (o_X0_k h) (o_X0_r1 h) ?_
      refine r_geti (pc := 13) hX dX0_coverAll_13 fl_X0_48 rfl (o_X8_k (o_X0_o1 h)) ?_
      refine r_icmp_ge (pc := 16) hX 88 dX0_coverAll_16 (by decide) (fun c16 => ?_) (fun c16 => ?_)
      · have c16d := Int32.not_lt.mpr c16
        rw [hf1] at c16; exact (cnt_go hm1  c16).elim
      · have c16d := Int32.not_le.mp c16
        refine r_aload_n (pc := 19) hX dX0_coverAll_19 rfl ?_
        refine r_getr (pc := 20) hX dX0_coverAll_20 fl_X0_9 rfl (o_X0_k h) (o_X0_r1 h) ?_
        refine r_getr (pc := 23) hX dX0_coverAll_23 fl_X0_53 rfl (o_X8_k (o_X0_o1 h)) (o_X8_r4 (o_X0_o1 h)) ?_
        refine r_iload_n (pc := 26) hX dX0_coverAll_26 rfl ?_
        refine r_callSN (Z := mX11_at) (pc := 27) hX dX0_coverAll_27 mn_X0_54 mX11_at_w (sp_X11_at (o_X8_a4 (o_X0_o1 h))) rfl rfl (Nat.le_of_ble_eq_true rfl) (by decide) rfl (Or.inl rfl) ?_
        refine r_istore_n (pc := 30) hX (L' := [_, _, _]) dX0_coverAll_30 rfl rfl (Nat.le_of_ble_eq_true rfl) ?_
        refine r_aload_n (pc := 31) hX dX0_coverAll_31 rfl ?_
        refine r_getr (pc := 32) hX dX0_coverAll_32 fl_X0_26 rfl (o_X0_k h) (o_X0_r4 h) ?_
        refine r_iload_n (pc := 35) hX dX0_coverAll_35 rfl ?_
        refine r_iconst (pc := 36) hX 0 dX0_coverAll_36 (by decide) ?_
        refine r_callSN (Z := mX11_put) (pc := 37) hX dX0_coverAll_37 mn_X0_58 mX11_put_w (sp_X11_put (o_X0_a4 h)) rfl rfl (Nat.le_of_ble_eq_true rfl) (by decide) rfl (Or.inl rfl) ?_
        refine r_iload_n (pc := 40) hX dX0_coverAll_40 rfl ?_
        refine r_iconst (pc := 41) hX 2 dX0_coverAll_41 (by decide) ?_
        refine r_icmp_ge (pc := 42) hX 54 dX0_coverAll_42 (by decide) (fun c42 => ?_) (fun c42 => ?_)
        · have c42d := Int32.not_lt.mpr c42
          refine r_aload_n (pc := 54) hX dX0_coverAll_54 rfl ?_
          refine r_iload_n (pc := 55) hX dX0_coverAll_55 rfl ?_
          refine r_iload_n (pc := 56) hX dX0_coverAll_56 rfl ?_
          refine r_iconst (pc := 57) hX 5 dX0_coverAll_57 (by decide) ?_
          refine r_icmp_ne (pc := 58) hX 66 dX0_coverAll_58 (by decide) (fun c58 => ?_) (fun c58 => ?_)
          · refine r_iload_n (pc := 66) hX dX0_coverAll_66 rfl ?_
            refine r_callV (Z := mX0_coverPlain) (t := 0) (pc := 67) hX dX0_coverAll_67 ml_X0_66 mX0_coverPlain_w ⟨by decide, rfl⟩ (o_X0_k h) (sp_X0_coverPlain h) rfl rfl (Nat.le_of_ble_eq_true rfl) (by decide) rfl (Or.inl rfl) ?_
            refine r_aload_n (pc := 70) hX dX0_coverAll_70 rfl ?_
            refine r_iload_n (pc := 71) hX dX0_coverAll_71 rfl ?_
            refine r_iload_n (pc := 72) hX dX0_coverAll_72 rfl ?_
            refine r_callV (Z := mX0_coverSmall) (t := 0) (pc := 73) hX dX0_coverAll_73 ml_X0_69 mX0_coverSmall_w ⟨by decide, rfl⟩ (o_X0_k h) (sp_X0_coverSmall h) rfl rfl (Nat.le_of_ble_eq_true rfl) (by decide) rfl (Or.inl rfl) ?_
            refine r_aload_n (pc := 76) hX dX0_coverAll_76 rfl ?_
            refine r_iload_n (pc := 77) hX dX0_coverAll_77 rfl ?_
            refine r_iload_n (pc := 78) hX dX0_coverAll_78 rfl ?_
            refine r_callV (Z := mX0_coverFused) (t := 0) (pc := 79) hX dX0_coverAll_79 ml_X0_72 mX0_coverFused_w ⟨by decide, rfl⟩ (o_X0_k h) (sp_X0_coverFused h) rfl rfl (Nat.le_of_ble_eq_true rfl) (by decide) rfl (Or.inl rfl) ?_
            refine r_iinc (pc := 82) hX 1 (L' := [_, _, _]) dX0_coverAll_82 rfl (by decide) rfl rfl ?_
            refine r_goto (pc := 85) hX (tgt := 8) dX0_coverAll_85 (by decide) ?_
            refine r_weak (L' := [some _, some _, none]) (And.intro rfl (And.intro rfl trivial)) ?_
            refine r_mem (I' := (coverOne_ a m) i1 J1) (by first | with_reducible rfl | (simp only [coverAll_, coverOne_, loopC, eq_false c16, eq_true c16d, eq_true c42, eq_false c42d, eq_false c58, ↓reduceIte, if_true, if_false, decide_true, decide_false, eq_self, b2i_t, b2i_f, Bool.false_eq_true, and_true, true_and, and_false, false_and, or_true, true_or, or_false, false_or, not_true_eq_false, not_false_eq_true] <;> rfl) | simp [coverAll_, coverOne_, loopC, eq_false c16, eq_true c16d, eq_true c42, eq_false c42d, eq_false c58]) ?_
            exact ih1 _ _ ((congrFun (coverOne_fr ha) 0).trans hf1) (cnt_nx hm1) (loopN_s.symm.trans hR1)
          · refine r_bipush (pc := 61) hX 9 dX0_coverAll_61 (by decide) ?_
            refine r_goto (pc := 63) hX (tgt := 67) dX0_coverAll_63 (by decide) ?_
            refine r_callV (Z := mX0_coverPlain) (t := 0) (pc := 67) hX dX0_coverAll_67 ml_X0_66 mX0_coverPlain_w ⟨by decide, rfl⟩ (o_X0_k h) (sp_X0_coverPlain h) rfl rfl (Nat.le_of_ble_eq_true rfl) (by decide) rfl (Or.inl rfl) ?_
            refine r_aload_n (pc := 70) hX dX0_coverAll_70 rfl ?_
            refine r_iload_n (pc := 71) hX dX0_coverAll_71 rfl ?_
            refine r_iload_n (pc := 72) hX dX0_coverAll_72 rfl ?_
            refine r_callV (Z := mX0_coverSmall) (t := 0) (pc := 73) hX dX0_coverAll_73 ml_X0_69 mX0_coverSmall_w ⟨by decide, rfl⟩ (o_X0_k h) (sp_X0_coverSmall h) rfl rfl (Nat.le_of_ble_eq_true rfl) (by decide) rfl (Or.inl rfl) ?_
            refine r_aload_n (pc := 76) hX dX0_coverAll_76 rfl ?_
            refine r_iload_n (pc := 77) hX dX0_coverAll_77 rfl ?_
            refine r_iload_n (pc := 78) hX dX0_coverAll_78 rfl ?_
            refine r_callV (Z := mX0_coverFused) (t := 0) (pc := 79) hX dX0_coverAll_79 ml_X0_72 mX0_coverFused_w ⟨by decide, rfl⟩ (o_X0_k h) (sp_X0_coverFused h) rfl rfl (Nat.le_of_ble_eq_true rfl) (by decide) rfl (Or.inl rfl) ?_
            refine r_iinc (pc := 82) hX 1 (L' := [_, _, _]) dX0_coverAll_82 rfl (by decide) rfl rfl ?_
            refine r_goto (pc := 85) hX (tgt := 8) dX0_coverAll_85 (by decide) ?_
            refine r_weak (L' := [some _, some _, none]) (And.intro rfl (And.intro rfl trivial)) ?_
            refine r_mem (I' := (coverOne_ a m) i1 J1) (by first | with_reducible rfl | (simp only [coverAll_, coverOne_, loopC, eq_false c16, eq_true c16d, eq_true c42, eq_false c42d, eq_true c58, ↓reduceIte, if_true, if_false, decide_true, decide_false, eq_self, b2i_t, b2i_f, Bool.false_eq_true, and_true, true_and, and_false, false_and, or_true, true_or, or_false, false_or, not_true_eq_false, not_false_eq_true] <;> rfl) | simp [coverAll_, coverOne_, loopC, eq_false c16, eq_true c16d, eq_true c42, eq_false c42d, eq_true c58]) ?_
            exact ih1 _ _ ((congrFun (coverOne_fr ha) 0).trans hf1) (cnt_nx hm1) (loopN_s.symm.trans hR1)
        · have c42d := Int32.not_le.mp c42
          refine r_aload_n (pc := 45) hX dX0_coverAll_45 rfl ?_
          refine r_iload_n (pc := 46) hX dX0_coverAll_46 rfl ?_
          refine r_iload_n (pc := 47) hX dX0_coverAll_47 rfl ?_
          refine r_callV (Z := mX0_coverLeaf) (t := 0) (pc := 48) hX dX0_coverAll_48 ml_X0_62 mX0_coverLeaf_w ⟨by decide, rfl⟩ (o_X0_k h) (sp_X0_coverLeaf h) rfl rfl (Nat.le_of_ble_eq_true rfl) (by decide) rfl (Or.inl rfl) ?_
          refine r_goto (pc := 51) hX (tgt := 82) dX0_coverAll_51 (by decide) ?_
          refine r_iinc (pc := 82) hX 1 (L' := [_, _, _]) dX0_coverAll_82 rfl (by decide) rfl rfl ?_
          refine r_goto (pc := 85) hX (tgt := 8) dX0_coverAll_85 (by decide) ?_
          refine r_weak (L' := [some _, some _, none]) (And.intro rfl (And.intro rfl trivial)) ?_
          refine r_mem (I' := (coverOne_ a m) i1 J1) (by first | with_reducible rfl | (simp only [coverAll_, coverOne_, loopC, eq_false c16, eq_true c16d, eq_false c42, eq_true c42d, ↓reduceIte, if_true, if_false, decide_true, decide_false, eq_self, b2i_t, b2i_f, Bool.false_eq_true, and_true, true_and, and_false, false_and, or_true, true_or, or_false, false_or, not_true_eq_false, not_false_eq_true] <;> rfl) | simp [coverAll_, coverOne_, loopC, eq_false c16, eq_true c16d, eq_false c42, eq_true c42d]) ?_
          exact ih1 _ _ ((congrFun (coverOne_fr ha) 0).trans hf1) (cnt_nx hm1) (loopN_s.symm.trans hR1)
  exact hL8 (cnt (0) (I 3 0)) (0) (im_up I a 11 8) (by simp only [im_up]; rw [if_neg (by omega)]) rfl rfl
set_option maxRecDepth 100000 in
set_option maxHeartbeats 1000000 in
theorem sp_X7_variableBit {l : Launch} {k : im_K} {S : im_S} {I : im_I} {p0 : Int32}  : im_Runs l k 1 mX7_variableBit [.int p0] (S, I) (some (.int (variableBit_ p0))) (S, I) := by
  refine im_run (by decide +kernel) ⟨Nat.le_refl _, Nat.le_refl _⟩ (Nat.le_of_ble_eq_true rfl) ?_
  intro X hl hX hxn hxz hxc hxs
  subst hl
  change im_E X k _ 0 [some (.int p0)] [] S I
  refine r_iload_n (pc := 0) hX dX7_variableBit_0 rfl ?_
  refine r_bipush (pc := 1) hX 8 dX7_variableBit_1 (by decide) ?_
  refine r_callSN (Z := mX11_isBelow) (pc := 3) hX dX7_variableBit_3 mn_X7_133 mX11_isBelow_w (sp_X11_isBelow) rfl rfl (Nat.le_of_ble_eq_true rfl) (by decide) rfl (Or.inl rfl) ?_
  refine r_if_eq (pc := 6) hX 16 dX7_variableBit_6 (by decide) (fun c6 => ?_) (fun c6 => ?_)
  · replace c6 := b2i_0 c6
    refine r_iconst (pc := 16) hX 0 dX7_variableBit_16 (by decide) ?_
    exact r_ireturn (pc := 17) hX dX7_variableBit_17 rfl rfl (by first | with_reducible rfl | (simp only [variableBit_, c6, ↓reduceIte, if_true, if_false, decide_true, decide_false, eq_self, b2i_t, b2i_f, Bool.false_eq_true, and_true, true_and, and_false, false_and, or_true, true_or, or_false, false_or, not_true_eq_false, not_false_eq_true] <;> rfl) | simp [variableBit_, c6]) rfl
  · replace c6 := b2i_1 c6
    refine r_iload_n (pc := 9) hX dX7_variableBit_9 rfl ?_
    refine r_callSN (Z := mX11_bit) (pc := 10) hX dX7_variableBit_10 mn_X7_136 mX11_bit_w (sp_X11_bit) rfl rfl (Nat.le_of_ble_eq_true rfl) (by decide) rfl (Or.inl rfl) ?_
    refine r_goto (pc := 13) hX (tgt := 17) dX7_variableBit_13 (by decide) ?_
    exact r_ireturn (pc := 17) hX dX7_variableBit_17 rfl rfl (by first | with_reducible rfl | (simp only [variableBit_, c6, ↓reduceIte, if_true, if_false, decide_true, decide_false, eq_self, b2i_t, b2i_f, Bool.false_eq_true, and_true, true_and, and_false, false_and, or_true, true_or, or_false, false_or, not_true_eq_false, not_false_eq_true] <;> rfl) | simp [variableBit_, c6]) rfl
set_option maxRecDepth 100000 in
set_option maxHeartbeats 1000000 in
theorem sp_X7_isNeeding {l : Launch} {k : im_K} {S : im_S} {I : im_I} {a m : Nat} {p0 : Int32} {p1 : Int32} (h : o_X7 S a m) : im_Runs l k 2 mX7_isNeeding [.ref a, .int p0, .int p1] (S, I) (some (.int (b2i (isNeeding_ I (a + 27) p0 p1)))) (S, I) := by
  refine im_run (by decide +kernel) ⟨Nat.le_refl _, Nat.le_refl _⟩ (Nat.le_of_ble_eq_true rfl) ?_
  intro X hl hX hxn hxz hxc hxs
  subst hl
  change im_E X k _ 0 [some (.ref a), some (.int p0), some (.int p1)] [] S I
  refine r_aload_n (pc := 0) hX dX7_isNeeding_0 rfl ?_
  refine r_getr (pc := 1) hX dX7_isNeeding_1 fl_X7_48 rfl (o_X7_k h) (o_X7_r6 h) ?_
  refine r_iload_n (pc := 4) hX dX7_isNeeding_4 rfl ?_
  refine r_aload_n (pc := 5) hX dX7_isNeeding_5 rfl ?_
  refine r_getr (pc := 6) hX dX7_isNeeding_6 fl_X7_48 rfl (o_X7_k h) (o_X7_r6 h) ?_
  refine r_iload_n (pc := 9) hX dX7_isNeeding_9 rfl ?_
  refine r_callV (Z := mX3_writtenBy) (t := 3) (pc := 10) hX dX7_isNeeding_10 ml_X7_127 mX3_writtenBy_w ⟨by decide, rfl⟩ (o_X3_k (o_X7_o6 h)) (sp_X3_writtenBy (o_X7_o6 h)) rfl rfl (Nat.le_of_ble_eq_true rfl) (by decide) rfl (Or.inl rfl) ?_
  refine r_callV (Z := mX3_isReading) (t := 3) (pc := 13) hX dX7_isNeeding_13 ml_X7_139 mX3_isReading_w ⟨by decide, rfl⟩ (o_X3_k (o_X7_o6 h)) (sp_X3_isReading (o_X7_o6 h)) rfl rfl (Nat.le_of_ble_eq_true rfl) (by decide) rfl (Or.inl rfl) ?_
  refine r_if_ne (pc := 16) hX 83 dX7_isNeeding_16 (by decide) (fun c16 => ?_) (fun c16 => ?_)
  · replace c16 := b2i_1 c16
    refine r_iconst (pc := 83) hX 1 dX7_isNeeding_83 (by decide) ?_
    refine r_goto (pc := 84) hX (tgt := 88) dX7_isNeeding_84 (by decide) ?_
    exact r_ireturn (pc := 88) hX dX7_isNeeding_88 rfl rfl (by first | with_reducible rfl | (simp only [isNeeding_, b2i, c16, ↓reduceIte, if_true, if_false, decide_true, decide_false, eq_self, b2i_t, b2i_f, Bool.false_eq_true, and_true, true_and, and_false, false_and, or_true, true_or, or_false, false_or, not_true_eq_false, not_false_eq_true] <;> rfl) | simp [isNeeding_, b2i, c16]) rfl
  · replace c16 := b2i_0 c16
    refine r_aload_n (pc := 19) hX dX7_isNeeding_19 rfl ?_
    refine r_getr (pc := 20) hX dX7_isNeeding_20 fl_X7_48 rfl (o_X7_k h) (o_X7_r6 h) ?_
    refine r_iload_n (pc := 23) hX dX7_isNeeding_23 rfl ?_
    refine r_aload_n (pc := 24) hX dX7_isNeeding_24 rfl ?_
    refine r_getr (pc := 25) hX dX7_isNeeding_25 fl_X7_48 rfl (o_X7_k h) (o_X7_r6 h) ?_
    refine r_iload_n (pc := 28) hX dX7_isNeeding_28 rfl ?_
    refine r_callV (Z := mX3_writtenBy) (t := 3) (pc := 29) hX dX7_isNeeding_29 ml_X7_127 mX3_writtenBy_w ⟨by decide, rfl⟩ (o_X3_k (o_X7_o6 h)) (sp_X3_writtenBy (o_X7_o6 h)) rfl rfl (Nat.le_of_ble_eq_true rfl) (by decide) rfl (Or.inl rfl) ?_
    refine r_callV (Z := mX3_isReading) (t := 3) (pc := 32) hX dX7_isNeeding_32 ml_X7_139 mX3_isReading_w ⟨by decide, rfl⟩ (o_X3_k (o_X7_o6 h)) (sp_X3_isReading (o_X7_o6 h)) rfl rfl (Nat.le_of_ble_eq_true rfl) (by decide) rfl (Or.inl rfl) ?_
    refine r_if_ne (pc := 35) hX 83 dX7_isNeeding_35 (by decide) (fun c35 => ?_) (fun c35 => ?_)
    · replace c35 := b2i_1 c35
      refine r_iconst (pc := 83) hX 1 dX7_isNeeding_83 (by decide) ?_
      refine r_goto (pc := 84) hX (tgt := 88) dX7_isNeeding_84 (by decide) ?_
      exact r_ireturn (pc := 88) hX dX7_isNeeding_88 rfl rfl (by first | with_reducible rfl | (simp only [isNeeding_, b2i, c16, c35, ↓reduceIte, if_true, if_false, decide_true, decide_false, eq_self, b2i_t, b2i_f, Bool.false_eq_true, and_true, true_and, and_false, false_and, or_true, true_or, or_false, false_or, not_true_eq_false, not_false_eq_true] <;> rfl) | simp [isNeeding_, b2i, c16, c35]) rfl
    · replace c35 := b2i_0 c35
      refine r_aload_n (pc := 38) hX dX7_isNeeding_38 rfl ?_
      refine r_getr (pc := 39) hX dX7_isNeeding_39 fl_X7_48 rfl (o_X7_k h) (o_X7_r6 h) ?_
      refine r_iload_n (pc := 42) hX dX7_isNeeding_42 rfl ?_
      refine r_callV (Z := mX3_writtenBy) (t := 3) (pc := 43) hX dX7_isNeeding_43 ml_X7_127 mX3_writtenBy_w ⟨by decide, rfl⟩ (o_X3_k (o_X7_o6 h)) (sp_X3_writtenBy (o_X7_o6 h)) rfl rfl (Nat.le_of_ble_eq_true rfl) (by decide) rfl (Or.inl rfl) ?_
      refine r_aload_n (pc := 46) hX dX7_isNeeding_46 rfl ?_
      refine r_getr (pc := 47) hX dX7_isNeeding_47 fl_X7_48 rfl (o_X7_k h) (o_X7_r6 h) ?_
      refine r_iload_n (pc := 50) hX dX7_isNeeding_50 rfl ?_
      refine r_callV (Z := mX3_writtenBy) (t := 3) (pc := 51) hX dX7_isNeeding_51 ml_X7_127 mX3_writtenBy_w ⟨by decide, rfl⟩ (o_X3_k (o_X7_o6 h)) (sp_X3_writtenBy (o_X7_o6 h)) rfl rfl (Nat.le_of_ble_eq_true rfl) (by decide) rfl (Or.inl rfl) ?_
      refine r_icmp_eq (pc := 54) hX 83 dX7_isNeeding_54 (by decide) (fun c54 => ?_) (fun c54 => ?_)
      · refine r_iconst (pc := 83) hX 1 dX7_isNeeding_83 (by decide) ?_
        refine r_goto (pc := 84) hX (tgt := 88) dX7_isNeeding_84 (by decide) ?_
        exact r_ireturn (pc := 88) hX dX7_isNeeding_88 rfl rfl (by first | with_reducible rfl | (simp only [isNeeding_, b2i, c16, c35, eq_true c54, ↓reduceIte, if_true, if_false, decide_true, decide_false, eq_self, b2i_t, b2i_f, Bool.false_eq_true, and_true, true_and, and_false, false_and, or_true, true_or, or_false, false_or, not_true_eq_false, not_false_eq_true] <;> rfl) | simp [isNeeding_, b2i, c16, c35, eq_true c54]) rfl
      · refine r_aload_n (pc := 57) hX dX7_isNeeding_57 rfl ?_
        refine r_getr (pc := 58) hX dX7_isNeeding_58 fl_X7_48 rfl (o_X7_k h) (o_X7_r6 h) ?_
        refine r_iload_n (pc := 61) hX dX7_isNeeding_61 rfl ?_
        refine r_callV (Z := mX3_kindOf) (t := 3) (pc := 62) hX dX7_isNeeding_62 ml_X7_142 mX3_kindOf_w ⟨by decide, rfl⟩ (o_X3_k (o_X7_o6 h)) (sp_X3_kindOf (o_X7_o6 h)) rfl rfl (Nat.le_of_ble_eq_true rfl) (by decide) rfl (Or.inl rfl) ?_
        refine r_bipush (pc := 65) hX 9 dX7_isNeeding_65 (by decide) ?_
        refine r_icmp_ne (pc := 67) hX 87 dX7_isNeeding_67 (by decide) (fun c67 => ?_) (fun c67 => ?_)
        · refine r_iconst (pc := 87) hX 0 dX7_isNeeding_87 (by decide) ?_
          exact r_ireturn (pc := 88) hX dX7_isNeeding_88 rfl rfl (by first | with_reducible rfl | (simp only [isNeeding_, b2i, c16, c35, eq_false c54, eq_false c67, ↓reduceIte, if_true, if_false, decide_true, decide_false, eq_self, b2i_t, b2i_f, Bool.false_eq_true, and_true, true_and, and_false, false_and, or_true, true_or, or_false, false_or, not_true_eq_false, not_false_eq_true] <;> rfl) | simp [isNeeding_, b2i, c16, c35, eq_false c54, eq_false c67]) rfl
        · refine r_aload_n (pc := 70) hX dX7_isNeeding_70 rfl ?_
          refine r_getr (pc := 71) hX dX7_isNeeding_71 fl_X7_48 rfl (o_X7_k h) (o_X7_r6 h) ?_
          refine r_iload_n (pc := 74) hX dX7_isNeeding_74 rfl ?_
          refine r_callV (Z := mX3_kindOf) (t := 3) (pc := 75) hX dX7_isNeeding_75 ml_X7_142 mX3_kindOf_w ⟨by decide, rfl⟩ (o_X3_k (o_X7_o6 h)) (sp_X3_kindOf (o_X7_o6 h)) rfl rfl (Nat.le_of_ble_eq_true rfl) (by decide) rfl (Or.inl rfl) ?_
          refine r_bipush (pc := 78) hX 9 dX7_isNeeding_78 (by decide) ?_
          refine r_icmp_ne (pc := 80) hX 87 dX7_isNeeding_80 (by decide) (fun c80 => ?_) (fun c80 => ?_)
          · refine r_iconst (pc := 87) hX 0 dX7_isNeeding_87 (by decide) ?_
            exact r_ireturn (pc := 88) hX dX7_isNeeding_88 rfl rfl (by first | with_reducible rfl | (simp only [isNeeding_, b2i, c16, c35, eq_false c54, eq_true c67, eq_false c80, ↓reduceIte, if_true, if_false, decide_true, decide_false, eq_self, b2i_t, b2i_f, Bool.false_eq_true, and_true, true_and, and_false, false_and, or_true, true_or, or_false, false_or, not_true_eq_false, not_false_eq_true] <;> rfl) | simp [isNeeding_, b2i, c16, c35, eq_false c54, eq_true c67, eq_false c80]) rfl
          · refine r_iconst (pc := 83) hX 1 dX7_isNeeding_83 (by decide) ?_
            refine r_goto (pc := 84) hX (tgt := 88) dX7_isNeeding_84 (by decide) ?_
            exact r_ireturn (pc := 88) hX dX7_isNeeding_88 rfl rfl (by first | with_reducible rfl | (simp only [isNeeding_, b2i, c16, c35, eq_false c54, eq_true c67, eq_true c80, ↓reduceIte, if_true, if_false, decide_true, decide_false, eq_self, b2i_t, b2i_f, Bool.false_eq_true, and_true, true_and, and_false, false_and, or_true, true_or, or_false, false_or, not_true_eq_false, not_false_eq_true] <;> rfl) | simp [isNeeding_, b2i, c16, c35, eq_false c54, eq_true c67, eq_true c80]) rfl
set_option maxRecDepth 100000 in
set_option maxHeartbeats 1000000 in
theorem sp_X7_chooseAll {l : Launch} {k : im_K} {S : im_S} {I : im_I} {a m : Nat} (h : o_X7 S a m) : im_Runs l k 4 mX7_chooseAll [.ref a] (S, I) (none) (S, chooseAll_ I a) := by
  refine im_run (by decide +kernel) ⟨Nat.le_refl _, Nat.le_refl _⟩ (Nat.le_of_ble_eq_true rfl) ?_
  intro X hl hX hxn hxz hxc hxs
  subst hl
  change im_E X k _ 0 [some (.ref a), none, none, none] [] S I
  refine r_aload_n (pc := 0) hX dX7_chooseAll_0 rfl ?_
  refine r_getr (pc := 1) hX dX7_chooseAll_1 fl_X7_48 rfl (o_X7_k h) (o_X7_r6 h) ?_
  refine r_callV (Z := mX3_clear) (t := 3) (pc := 4) hX dX7_chooseAll_4 ml_X7_63 mX3_clear_w ⟨by decide, rfl⟩ (o_X3_k (o_X7_o6 h)) (sp_X3_clear (o_X7_o6 h)) rfl rfl (Nat.le_of_ble_eq_true rfl) (by decide) rfl (Or.inl rfl) ?_
  refine r_iconst (pc := 7) hX 0 dX7_chooseAll_7 (by decide) ?_
  refine r_istore_n (pc := 8) hX (L' := [_, _, _, _]) dX7_chooseAll_8 rfl rfl (Nat.le_of_ble_eq_true rfl) ?_
  have hL9 : ∀ (w1 : Nat) (i1 : Int32) (J1 : im_I), cnt i1 (4) = w1 → loopN w1 i1 (chooseBlock_ a) J1 = loopN (cnt (0) (4)) (0) (chooseBlock_ a) (im_up I (a + 27) 0 0) → im_E X k (im_Q X k (none) (S, chooseAll_ I a)) 9 [some (.ref a), some (.int i1), none, none] [] S J1 := by
    intro w1
    induction w1 with
    | zero =>
      intro i1 J1  hm1 hR1
      refine r_iload_n (pc := 9) hX dX7_chooseAll_9 rfl ?_
      refine r_iconst (pc := 10) hX 4 dX7_chooseAll_10 (by decide) ?_
      refine r_icmp_ge (pc := 11) hX 70 dX7_chooseAll_11 (by decide) (fun c11 => ?_) (fun c11 => ?_)
      · have c11d := Int32.not_lt.mpr c11
        rw [loopN_0] at hR1
        subst hR1
        refine r_aload_n (pc := 70) hX dX7_chooseAll_70 rfl ?_
        refine r_getr (pc := 71) hX dX7_chooseAll_71 fl_X7_51 rfl (o_X7_k h) (o_X7_r7 h) ?_
        refine r_iconst (pc := 74) hX 4 dX7_chooseAll_74 (by decide) ?_
        refine r_aload_n (pc := 75) hX dX7_chooseAll_75 rfl ?_
        refine r_getr (pc := 76) hX dX7_chooseAll_76 fl_X7_48 rfl (o_X7_k h) (o_X7_r6 h) ?_
        refine r_geti (pc := 79) hX dX7_chooseAll_79 fl_X7_73 rfl (o_X3_k (o_X7_o6 h)) ?_
        refine r_callSN (Z := mX11_put) (pc := 82) hX dX7_chooseAll_82 mn_X7_77 mX11_put_w (sp_X11_put (o_X7_a7 h)) rfl rfl (Nat.le_of_ble_eq_true rfl) (by decide) rfl (Or.inl rfl) ?_
        exact r_return (pc := 85) hX dX7_chooseAll_85 rfl rfl (by first | with_reducible rfl | (simp only [chooseAll_, chooseBlock_, loopC, eq_true c11, eq_false c11d, ↓reduceIte, if_true, if_false, decide_true, decide_false, eq_self, b2i_t, b2i_f, Bool.false_eq_true, and_true, true_and, and_false, false_and, or_true, true_or, or_false, false_or, not_true_eq_false, not_false_eq_true] <;> rfl) | simp [chooseAll_, chooseBlock_, loopC, eq_true c11, eq_false c11d])
      · have c11d := Int32.not_le.mp c11
        exact (cnt_ex hm1  c11).elim
    | succ w1 ih1 =>
      intro i1 J1  hm1 hR1
      refine r_iload_n (pc := 9) hX dX7_chooseAll_9 rfl ?_
      refine r_iconst (pc := 10) hX 4 dX7_chooseAll_10 (by decide) ?_
      refine r_icmp_ge (pc := 11) hX 70 dX7_chooseAll_11 (by decide) (fun c11 => ?_) (fun c11 => ?_)
      · have c11d := Int32.not_lt.mpr c11
        exact (cnt_go hm1  c11).elim
      · have c11d := Int32.not_le.mp c11
        refine r_aload_n (pc := 14) hX dX7_chooseAll_14 rfl ?_
        refine r_getr (pc := 15) hX dX7_chooseAll_15 fl_X7_51 rfl (o_X7_k h) (o_X7_r7 h) ?_
        refine r_iload_n (pc := 18) hX dX7_chooseAll_18 rfl ?_
        refine r_aload_n (pc := 19) hX dX7_chooseAll_19 rfl ?_
        refine r_getr (pc := 20) hX dX7_chooseAll_20 fl_X7_48 rfl (o_X7_k h) (o_X7_r6 h) ?_
        refine r_geti (pc := 23) hX dX7_chooseAll_23 fl_X7_73 rfl (o_X3_k (o_X7_o6 h)) ?_
        refine r_callSN (Z := mX11_put) (pc := 26) hX dX7_chooseAll_26 mn_X7_77 mX11_put_w (sp_X11_put (o_X7_a7 h)) rfl rfl (Nat.le_of_ble_eq_true rfl) (by decide) rfl (Or.inl rfl) ?_
        refine r_aload_n (pc := 29) hX dX7_chooseAll_29 rfl ?_
        refine r_getr (pc := 30) hX dX7_chooseAll_30 fl_X7_9 rfl (o_X7_k h) (o_X7_r4 h) ?_
        refine r_iload_n (pc := 33) hX dX7_chooseAll_33 rfl ?_
        refine r_callV (Z := mX8_statementsIn) (t := 8) (pc := 34) hX dX7_chooseAll_34 ml_X7_95 mX8_statementsIn_w ⟨by decide, rfl⟩ (o_X8_k (o_X7_o4 h)) (sp_X8_statementsIn (o_X7_o4 h)) rfl rfl (Nat.le_of_ble_eq_true rfl) (by decide) rfl (Or.inl rfl) ?_
        refine r_istore_n (pc := 37) hX (L' := [_, _, _, _]) dX7_chooseAll_37 rfl rfl (Nat.le_of_ble_eq_true rfl) ?_
        refine r_iconst (pc := 38) hX 0 dX7_chooseAll_38 (by decide) ?_
        refine r_istore_n (pc := 39) hX (L' := [_, _, _, _]) dX7_chooseAll_39 rfl rfl (Nat.le_of_ble_eq_true rfl) ?_
        have hL40 : ∀ (w2 : Nat) (i2 : Int32) (J2 : im_I), cnt i2 (statementsIn_ (put_ J1 (a + 34) 5 i1 (J1 (a + 27) 0)) 3 i1) = w2 → loopN w2 i2 (fun j J => chooseStatement_ J (a + 1) (a + 27) i1 j) J2 = loopN (cnt (0) (statementsIn_ (put_ J1 (a + 34) 5 i1 (J1 (a + 27) 0)) 3 i1)) (0) (fun j J => chooseStatement_ J (a + 1) (a + 27) i1 j) (put_ J1 (a + 34) 5 i1 (J1 (a + 27) 0)) → im_E X k (im_Q X k (none) (S, chooseAll_ I a)) 40 [some (.ref a), some (.int i1), some (.int (statementsIn_ (put_ J1 (a + 34) 5 i1 (J1 (a + 27) 0)) 3 i1)), some (.int i2)] [] S J2 := by
          intro w2
          induction w2 with
          | zero =>
            intro i2 J2  hm2 hR2
            refine r_iload_n (pc := 40) hX dX7_chooseAll_40 rfl ?_
            refine r_iload_n (pc := 41) hX dX7_chooseAll_41 rfl ?_
            refine r_icmp_ge (pc := 42) hX 64 dX7_chooseAll_42 (by decide) (fun c42 => ?_) (fun c42 => ?_)
            · have c42d := Int32.not_lt.mpr c42
              rw [loopN_0] at hR2
              subst hR2
              refine r_iinc (pc := 64) hX 1 (L' := [_, _, _, _]) dX7_chooseAll_64 rfl (by decide) rfl rfl ?_
              refine r_goto (pc := 67) hX (tgt := 9) dX7_chooseAll_67 (by decide) ?_
              refine r_weak (L' := [some _, some _, none, none]) (And.intro rfl (And.intro rfl trivial)) ?_
              refine r_mem (I' := (chooseBlock_ a) i1 J1) (by first | with_reducible rfl | (simp only [chooseAll_, chooseBlock_, loopC, eq_false c11, eq_true c11d, eq_true c42, eq_false c42d, ↓reduceIte, if_true, if_false, decide_true, decide_false, eq_self, b2i_t, b2i_f, Bool.false_eq_true, and_true, true_and, and_false, false_and, or_true, true_or, or_false, false_or, not_true_eq_false, not_false_eq_true] <;> rfl) | simp [chooseAll_, chooseBlock_, loopC, eq_false c11, eq_true c11d, eq_true c42, eq_false c42d]) ?_
              exact ih1 _ _  (cnt_nx hm1) (loopN_s.symm.trans hR1)
            · have c42d := Int32.not_le.mp c42
              exact (cnt_ex hm2  c42).elim
          | succ w2 ih2 =>
            intro i2 J2  hm2 hR2
            refine r_iload_n (pc := 40) hX dX7_chooseAll_40 rfl ?_
            refine r_iload_n (pc := 41) hX dX7_chooseAll_41 rfl ?_
            refine r_icmp_ge (pc := 42) hX 64 dX7_chooseAll_42 (by decide) (fun c42 => ?_) (fun c42 => ?_)
            · have c42d := Int32.not_lt.mpr c42
              exact (cnt_go hm2  c42).elim
            · have c42d := Int32.not_le.mp c42
              refine r_aload_n (pc := 45) hX dX7_chooseAll_45 rfl ?_
              refine r_getr (pc := 46) hX dX7_chooseAll_46 fl_X7_24 rfl (o_X7_k h) (o_X7_r0 h) ?_
              refine r_aload_n (pc := 49) hX dX7_chooseAll_49 rfl ?_
              refine r_getr (pc := 50) hX dX7_chooseAll_50 fl_X7_48 rfl (o_X7_k h) (o_X7_r6 h) ?_
              refine r_iload_n (pc := 53) hX dX7_chooseAll_53 rfl ?_
              refine r_iload_n (pc := 54) hX dX7_chooseAll_54 rfl ?_
              refine r_callV (Z := mX0_chooseStatement) (t := 0) (pc := 55) hX dX7_chooseAll_55 ml_X7_101 mX0_chooseStatement_w ⟨by decide, rfl⟩ (o_X0_k (o_X7_o0 h)) (sp_X0_chooseStatement (o_X7_o0 h) (o_X7_o6 h)) rfl rfl (Nat.le_of_ble_eq_true rfl) (by decide) rfl (Or.inl rfl) ?_
              refine r_iinc (pc := 58) hX 1 (L' := [_, _, _, _]) dX7_chooseAll_58 rfl (by decide) rfl rfl ?_
              refine r_goto (pc := 61) hX (tgt := 40) dX7_chooseAll_61 (by decide) ?_
              refine r_mem (I' := (fun j J => chooseStatement_ J (a + 1) (a + 27) i1 j) i2 J2) (by first | with_reducible rfl | (simp only [chooseAll_, chooseBlock_, loopC, eq_false c11, eq_true c11d, eq_false c42, eq_true c42d, ↓reduceIte, if_true, if_false, decide_true, decide_false, eq_self, b2i_t, b2i_f, Bool.false_eq_true, and_true, true_and, and_false, false_and, or_true, true_or, or_false, false_or, not_true_eq_false, not_false_eq_true] <;> rfl) | simp [chooseAll_, chooseBlock_, loopC, eq_false c11, eq_true c11d, eq_false c42, eq_true c42d]) ?_
              exact ih2 _ _  (cnt_nx hm2) (loopN_s.symm.trans hR2)
        exact hL40 (cnt (0) (statementsIn_ (put_ J1 (a + 34) 5 i1 (J1 (a + 27) 0)) 3 i1)) (0) (put_ J1 (a + 34) 5 i1 (J1 (a + 27) 0))  rfl rfl
  exact hL9 (cnt (0) (4)) (0) (im_up I (a + 27) 0 0)  rfl rfl
set_option maxRecDepth 100000 in
set_option maxHeartbeats 1000000 in
theorem sp_X7_earlyVariables {l : Launch} {k : im_K} {S : im_S} {I : im_I} {a m : Nat} (h : o_X7 S a m) : im_Runs l k 2 mX7_earlyVariables [.ref a] (S, I) (some (.int (earlyVariables_ I a))) (S, I) := by
  refine im_run (by decide +kernel) ⟨Nat.le_refl _, Nat.le_refl _⟩ (Nat.le_of_ble_eq_true rfl) ?_
  intro X hl hX hxn hxz hxc hxs
  subst hl
  change im_E X k _ 0 [some (.ref a), none, none, none, none] [] S I
  refine r_iconst (pc := 0) hX 0 dX7_earlyVariables_0 (by decide) ?_
  refine r_istore_n (pc := 1) hX (L' := [_, _, _, _, _]) dX7_earlyVariables_1 rfl rfl (Nat.le_of_ble_eq_true rfl) ?_
  refine r_iconst (pc := 2) hX 0 dX7_earlyVariables_2 (by decide) ?_
  refine r_istore_n (pc := 3) hX (L' := [_, _, _, _, _]) dX7_earlyVariables_3 rfl rfl (Nat.le_of_ble_eq_true rfl) ?_
  refine r_iconst (pc := 4) hX 0 dX7_earlyVariables_4 (by decide) ?_
  refine r_istore_n (pc := 5) hX (L' := [_, _, _, _, _]) dX7_earlyVariables_5 rfl rfl (Nat.le_of_ble_eq_true rfl) ?_
  have hL6 : ∀ (w1 : Nat) (i1 : Int32) (J1 : Int32 × Int32), cnt i1 (I (a + 27) 0) = w1 → loopN w1 i1 (earlyOne_ I (a + 27)) J1 = loopN (cnt (0) (I (a + 27) 0)) (0) (earlyOne_ I (a + 27)) ((0, 0)) → im_E X k (im_Q X k (some (.int (earlyVariables_ I a))) (S, I)) 6 [some (.ref a), some (.int J1.1), some (.int J1.2), some (.int i1), none] [] S I := by
    intro w1
    induction w1 with
    | zero =>
      intro i1 J1  hm1 hR1
      refine r_iload_n (pc := 6) hX dX7_earlyVariables_6 rfl ?_
      refine r_aload_n (pc := 7) hX dX7_earlyVariables_7 rfl ?_
      refine r_getr (pc := 8) hX dX7_earlyVariables_8 fl_X7_48 rfl (o_X7_k h) (o_X7_r6 h) ?_
      refine r_geti (pc := 11) hX dX7_earlyVariables_11 fl_X7_73 rfl (o_X3_k (o_X7_o6 h)) ?_
      refine r_icmp_ge (pc := 14) hX 72 dX7_earlyVariables_14 (by decide) (fun c14 => ?_) (fun c14 => ?_)
      · have c14d := Int32.not_lt.mpr c14
        rw [loopN_0] at hR1
        subst hR1
        refine r_iload_n (pc := 72) hX dX7_earlyVariables_72 rfl ?_
        refine r_aload_n (pc := 73) hX dX7_earlyVariables_73 rfl ?_
        refine r_getr (pc := 74) hX dX7_earlyVariables_74 fl_X7_9 rfl (o_X7_k h) (o_X7_r4 h) ?_
        refine r_geti (pc := 77) hX dX7_earlyVariables_77 fl_X7_130 rfl (o_X8_k (o_X7_o4 h)) ?_
        refine r_iload_n (pc := 80) hX dX7_earlyVariables_80 rfl ?_
        refine r_iconst (pc := 81) hX (-1) dX7_earlyVariables_81 (by decide) ?_
        refine r_ixor (pc := 82) hX dX7_earlyVariables_82 ?_
        refine r_iand (pc := 83) hX dX7_earlyVariables_83 ?_
        refine r_ior (pc := 84) hX dX7_earlyVariables_84 ?_
        exact r_ireturn (pc := 85) hX dX7_earlyVariables_85 rfl rfl (by first | with_reducible rfl | (simp only [earlyVariables_, earlyOne_, loopC, eq_true c14, eq_false c14d, ↓reduceIte, if_true, if_false, decide_true, decide_false, eq_self, b2i_t, b2i_f, Bool.false_eq_true, and_true, true_and, and_false, false_and, or_true, true_or, or_false, false_or, not_true_eq_false, not_false_eq_true] <;> rfl) | simp [earlyVariables_, earlyOne_, loopC, eq_true c14, eq_false c14d]) rfl
      · have c14d := Int32.not_le.mp c14
        exact (cnt_ex hm1  c14).elim
    | succ w1 ih1 =>
      intro i1 J1  hm1 hR1
      refine r_iload_n (pc := 6) hX dX7_earlyVariables_6 rfl ?_
      refine r_aload_n (pc := 7) hX dX7_earlyVariables_7 rfl ?_
      refine r_getr (pc := 8) hX dX7_earlyVariables_8 fl_X7_48 rfl (o_X7_k h) (o_X7_r6 h) ?_
      refine r_geti (pc := 11) hX dX7_earlyVariables_11 fl_X7_73 rfl (o_X3_k (o_X7_o6 h)) ?_
      refine r_icmp_ge (pc := 14) hX 72 dX7_earlyVariables_14 (by decide) (fun c14 => ?_) (fun c14 => ?_)
      · have c14d := Int32.not_lt.mpr c14
        exact (cnt_go hm1  c14).elim
      · have c14d := Int32.not_le.mp c14
        refine r_iconst (pc := 17) hX 0 dX7_earlyVariables_17 (by decide) ?_
        refine r_istore (pc := 18) hX (L' := [_, _, _, _, _]) dX7_earlyVariables_18 rfl rfl (Nat.le_of_ble_eq_true rfl) ?_
        have hL20 : ∀ (w2 : Nat) (i2 : Int32) (J2 : Int32), cnt i2 (3) = w2 → loopN w2 i2 (fun j e => e ||| (variableBit_ (readBy_ I (a + 27) i1 j) &&& (J1.2 ^^^ -1))) J2 = loopN (cnt (0) (3)) (0) (fun j e => e ||| (variableBit_ (readBy_ I (a + 27) i1 j) &&& (J1.2 ^^^ -1))) (J1.1) → im_E X k (im_Q X k (some (.int (earlyVariables_ I a))) (S, I)) 20 [some (.ref a), some (.int J2), some (.int J1.2), some (.int i1), some (.int i2)] [] S I := by
          intro w2
          induction w2 with
          | zero =>
            intro i2 J2  hm2 hR2
            refine r_iload (pc := 20) hX dX7_earlyVariables_20 rfl ?_
            refine r_iconst (pc := 22) hX 3 dX7_earlyVariables_22 (by decide) ?_
            refine r_icmp_ge (pc := 23) hX 52 dX7_earlyVariables_23 (by decide) (fun c23 => ?_) (fun c23 => ?_)
            · have c23d := Int32.not_lt.mpr c23
              rw [loopN_0] at hR2
              subst hR2
              refine r_iload_n (pc := 52) hX dX7_earlyVariables_52 rfl ?_
              refine r_aload_n (pc := 53) hX dX7_earlyVariables_53 rfl ?_
              refine r_getr (pc := 54) hX dX7_earlyVariables_54 fl_X7_48 rfl (o_X7_k h) (o_X7_r6 h) ?_
              refine r_iload_n (pc := 57) hX dX7_earlyVariables_57 rfl ?_
              refine r_callV (Z := mX3_writtenBy) (t := 3) (pc := 58) hX dX7_earlyVariables_58 ml_X7_127 mX3_writtenBy_w ⟨by decide, rfl⟩ (o_X3_k (o_X7_o6 h)) (sp_X3_writtenBy (o_X7_o6 h)) rfl rfl (Nat.le_of_ble_eq_true rfl) (by decide) rfl (Or.inl rfl) ?_
              refine r_callS (Z := mX7_variableBit) (pc := 61) hX dX7_earlyVariables_61 ml_X7_124 mX7_variableBit_w (sp_X7_variableBit) rfl rfl (Nat.le_of_ble_eq_true rfl) (by decide) rfl (Or.inl rfl) ?_
              refine r_ior (pc := 64) hX dX7_earlyVariables_64 ?_
              refine r_istore_n (pc := 65) hX (L' := [_, _, _, _, _]) dX7_earlyVariables_65 rfl rfl (Nat.le_of_ble_eq_true rfl) ?_
              refine r_iinc (pc := 66) hX 1 (L' := [_, _, _, _, _]) dX7_earlyVariables_66 rfl (by decide) rfl rfl ?_
              refine r_goto (pc := 69) hX (tgt := 6) dX7_earlyVariables_69 (by decide) ?_
              refine r_weak (L' := [some _, some _, some _, some _, none]) (And.intro rfl (And.intro rfl (And.intro rfl (And.intro rfl trivial)))) ?_
              exact ih1 _ (earlyOne_ I (a + 27) i1 J1)  (cnt_nx hm1) (by refine Eq.trans (congrArg (loopN w1 (i1 + 1) (earlyOne_ I (a + 27))) ?_) (loopN_s.symm.trans hR1); exact (by first | with_reducible rfl | (simp only [earlyVariables_, earlyOne_, loopC, eq_false c14, eq_true c14d, eq_true c23, eq_false c23d, ↓reduceIte, if_true, if_false, decide_true, decide_false, eq_self, b2i_t, b2i_f, Bool.false_eq_true, and_true, true_and, and_false, false_and, or_true, true_or, or_false, false_or, not_true_eq_false, not_false_eq_true] <;> rfl) | simp [earlyVariables_, earlyOne_, loopC, eq_false c14, eq_true c14d, eq_true c23, eq_false c23d]))
            · have c23d := Int32.not_le.mp c23
              exact (cnt_ex hm2  c23).elim
          | succ w2 ih2 =>
            intro i2 J2  hm2 hR2
            refine r_iload (pc := 20) hX dX7_earlyVariables_20 rfl ?_
            refine r_iconst (pc := 22) hX 3 dX7_earlyVariables_22 (by decide) ?_
            refine r_icmp_ge (pc := 23) hX 52 dX7_earlyVariables_23 (by decide) (fun c23 => ?_) (fun c23 => ?_)
            · have c23d := Int32.not_lt.mpr c23
              exact (cnt_go hm2  c23).elim
            · have c23d := Int32.not_le.mp c23
              refine r_iload_n (pc := 26) hX dX7_earlyVariables_26 rfl ?_
              refine r_aload_n (pc := 27) hX dX7_earlyVariables_27 rfl ?_
              refine r_getr (pc := 28) hX dX7_earlyVariables_28 fl_X7_48 rfl (o_X7_k h) (o_X7_r6 h) ?_
              refine r_iload_n (pc := 31) hX dX7_earlyVariables_31 rfl ?_
              refine r_iload (pc := 32) hX dX7_earlyVariables_32 rfl ?_
              refine r_callV (Z := mX3_readBy) (t := 3) (pc := 34) hX dX7_earlyVariables_34 ml_X7_120 mX3_readBy_w ⟨by decide, rfl⟩ (o_X3_k (o_X7_o6 h)) (sp_X3_readBy (o_X7_o6 h)) rfl rfl (Nat.le_of_ble_eq_true rfl) (by decide) rfl (Or.inl rfl) ?_
              refine r_callS (Z := mX7_variableBit) (pc := 37) hX dX7_earlyVariables_37 ml_X7_124 mX7_variableBit_w (sp_X7_variableBit) rfl rfl (Nat.le_of_ble_eq_true rfl) (by decide) rfl (Or.inl rfl) ?_
              refine r_iload_n (pc := 40) hX dX7_earlyVariables_40 rfl ?_
              refine r_iconst (pc := 41) hX (-1) dX7_earlyVariables_41 (by decide) ?_
              refine r_ixor (pc := 42) hX dX7_earlyVariables_42 ?_
              refine r_iand (pc := 43) hX dX7_earlyVariables_43 ?_
              refine r_ior (pc := 44) hX dX7_earlyVariables_44 ?_
              refine r_istore_n (pc := 45) hX (L' := [_, _, _, _, _]) dX7_earlyVariables_45 rfl rfl (Nat.le_of_ble_eq_true rfl) ?_
              refine r_iinc (pc := 46) hX 1 (L' := [_, _, _, _, _]) dX7_earlyVariables_46 rfl (by decide) rfl rfl ?_
              refine r_goto (pc := 49) hX (tgt := 20) dX7_earlyVariables_49 (by decide) ?_
              exact ih2 _ _  (cnt_nx hm2) (by refine Eq.trans (congrArg (loopN w2 (i2 + 1) (fun j e => e ||| (variableBit_ (readBy_ I (a + 27) i1 j) &&& (J1.2 ^^^ -1)))) ?_) (loopN_s.symm.trans hR2); exact (by first | with_reducible rfl | (simp only [earlyVariables_, earlyOne_, loopC, eq_false c14, eq_true c14d, eq_false c23, eq_true c23d, ↓reduceIte, if_true, if_false, decide_true, decide_false, eq_self, b2i_t, b2i_f, Bool.false_eq_true, and_true, true_and, and_false, false_and, or_true, true_or, or_false, false_or, not_true_eq_false, not_false_eq_true] <;> rfl) | simp [earlyVariables_, earlyOne_, loopC, eq_false c14, eq_true c14d, eq_false c23, eq_true c23d]))
        exact hL20 (cnt (0) (3)) (0) (J1.1)  rfl rfl
  exact hL6 (cnt (0) (I (a + 27) 0)) (0) ((0, 0))  rfl rfl
set_option maxRecDepth 100000 in
set_option maxHeartbeats 1000000 in
theorem sp_X7_addEntry {l : Launch} {k : im_K} {S : im_S} {I : im_I} {a m : Nat} (h : o_X7 S a m) : im_Runs l k 3 mX7_addEntry [.ref a] (S, I) (none) (S, addEntry_ I a) := by
  refine im_run (by decide +kernel) ⟨Nat.le_refl _, Nat.le_refl _⟩ (Nat.le_of_ble_eq_true rfl) ?_
  intro X hl hX hxn hxz hxc hxs
  subst hl
  change im_E X k _ 0 [some (.ref a), none, none] [] S I
  refine r_aload_n (pc := 0) hX dX7_addEntry_0 rfl ?_
  refine r_callV (Z := mX7_earlyVariables) (t := 7) (pc := 1) hX dX7_addEntry_1 ml_X7_105 mX7_earlyVariables_w ⟨by decide, rfl⟩ (o_X7_k h) (sp_X7_earlyVariables h) rfl rfl (Nat.le_of_ble_eq_true rfl) (by decide) rfl (Or.inl rfl) ?_
  refine r_istore_n (pc := 4) hX (L' := [_, _, _]) dX7_addEntry_4 rfl rfl (Nat.le_of_ble_eq_true rfl) ?_
  refine r_iconst (pc := 5) hX 0 dX7_addEntry_5 (by decide) ?_
  refine r_istore_n (pc := 6) hX (L' := [_, _, _]) dX7_addEntry_6 rfl rfl (Nat.le_of_ble_eq_true rfl) ?_
  have hL7 : ∀ (w1 : Nat) (i1 : Int32) (J1 : im_I), cnt i1 (8) = w1 → loopN w1 i1 (addEntryOne_ a (earlyVariables_ I a)) J1 = loopN (cnt (0) (8)) (0) (addEntryOne_ a (earlyVariables_ I a)) (I) → im_E X k (im_Q X k (none) (S, addEntry_ I a)) 7 [some (.ref a), some (.int (earlyVariables_ I a)), some (.int i1)] [] S J1 := by
    intro w1
    induction w1 with
    | zero =>
      intro i1 J1  hm1 hR1
      refine r_iload_n (pc := 7) hX dX7_addEntry_7 rfl ?_
      refine r_bipush (pc := 8) hX 8 dX7_addEntry_8 (by decide) ?_
      refine r_icmp_ge (pc := 10) hX 47 dX7_addEntry_10 (by decide) (fun c10 => ?_) (fun c10 => ?_)
      · have c10d := Int32.not_lt.mpr c10
        rw [loopN_0] at hR1
        subst hR1
        exact r_return (pc := 47) hX dX7_addEntry_47 rfl rfl (by first | with_reducible rfl | (simp only [addEntry_, addEntryOne_, loopC, eq_true c10, eq_false c10d, ↓reduceIte, if_true, if_false, decide_true, decide_false, eq_self, b2i_t, b2i_f, Bool.false_eq_true, and_true, true_and, and_false, false_and, or_true, true_or, or_false, false_or, not_true_eq_false, not_false_eq_true] <;> rfl) | simp [addEntry_, addEntryOne_, loopC, eq_true c10, eq_false c10d])
      · have c10d := Int32.not_le.mp c10
        exact (cnt_ex hm1  c10).elim
    | succ w1 ih1 =>
      intro i1 J1  hm1 hR1
      refine r_iload_n (pc := 7) hX dX7_addEntry_7 rfl ?_
      refine r_bipush (pc := 8) hX 8 dX7_addEntry_8 (by decide) ?_
      refine r_icmp_ge (pc := 10) hX 47 dX7_addEntry_10 (by decide) (fun c10 => ?_) (fun c10 => ?_)
      · have c10d := Int32.not_lt.mpr c10
        exact (cnt_go hm1  c10).elim
      · have c10d := Int32.not_le.mp c10
        refine r_iload_n (pc := 13) hX dX7_addEntry_13 rfl ?_
        refine r_iload_n (pc := 14) hX dX7_addEntry_14 rfl ?_
        refine r_callSN (Z := mX11_hasBit) (pc := 15) hX dX7_addEntry_15 mn_X7_109 mX11_hasBit_w (sp_X11_hasBit) rfl rfl (Nat.le_of_ble_eq_true rfl) (by decide) rfl (Or.inl rfl) ?_
        refine r_if_eq (pc := 18) hX 41 dX7_addEntry_18 (by decide) (fun c18 => ?_) (fun c18 => ?_)
        · replace c18 := b2i_0 c18
          refine r_iinc (pc := 41) hX 1 (L' := [_, _, _]) dX7_addEntry_41 rfl (by decide) rfl rfl ?_
          refine r_goto (pc := 44) hX (tgt := 7) dX7_addEntry_44 (by decide) ?_
          refine r_mem (I' := (addEntryOne_ a (earlyVariables_ I a)) i1 J1) (by first | with_reducible rfl | (simp only [addEntry_, addEntryOne_, loopC, eq_false c10, eq_true c10d, c18, ↓reduceIte, if_true, if_false, decide_true, decide_false, eq_self, b2i_t, b2i_f, Bool.false_eq_true, and_true, true_and, and_false, false_and, or_true, true_or, or_false, false_or, not_true_eq_false, not_false_eq_true] <;> rfl) | simp [addEntry_, addEntryOne_, loopC, eq_false c10, eq_true c10d, c18]) ?_
          exact ih1 _ _  (cnt_nx hm1) (loopN_s.symm.trans hR1)
        · replace c18 := b2i_1 c18
          refine r_aload_n (pc := 21) hX dX7_addEntry_21 rfl ?_
          refine r_getr (pc := 22) hX dX7_addEntry_22 fl_X7_31 rfl (o_X7_k h) (o_X7_r1 h) ?_
          refine r_iconst (pc := 25) hX 0 dX7_addEntry_25 (by decide) ?_
          refine r_iload_n (pc := 26) hX dX7_addEntry_26 rfl ?_
          refine r_iconst (pc := 27) hX (-1) dX7_addEntry_27 (by decide) ?_
          refine r_callV (Z := mX3_add) (t := 3) (pc := 28) hX dX7_addEntry_28 ml_X7_113 mX3_add_w ⟨by decide, rfl⟩ (o_X3_k (o_X7_o1 h)) (sp_X3_add (o_X7_o1 h)) rfl rfl (Nat.le_of_ble_eq_true rfl) (by decide) rfl (Or.inl rfl) ?_
          refine r_aload_n (pc := 31) hX dX7_addEntry_31 rfl ?_
          refine r_getr (pc := 32) hX dX7_addEntry_32 fl_X7_31 rfl (o_X7_k h) (o_X7_r1 h) ?_
          refine r_iconst (pc := 35) hX (-1) dX7_addEntry_35 (by decide) ?_
          refine r_iconst (pc := 36) hX (-1) dX7_addEntry_36 (by decide) ?_
          refine r_iconst (pc := 37) hX (-1) dX7_addEntry_37 (by decide) ?_
          refine r_callV (Z := mX3_setReads) (t := 3) (pc := 38) hX dX7_addEntry_38 ml_X7_117 mX3_setReads_w ⟨by decide, rfl⟩ (o_X3_k (o_X7_o1 h)) (sp_X3_setReads (o_X7_o1 h)) rfl rfl (Nat.le_of_ble_eq_true rfl) (by decide) rfl (Or.inl rfl) ?_
          refine r_iinc (pc := 41) hX 1 (L' := [_, _, _]) dX7_addEntry_41 rfl (by decide) rfl rfl ?_
          refine r_goto (pc := 44) hX (tgt := 7) dX7_addEntry_44 (by decide) ?_
          refine r_mem (I' := (addEntryOne_ a (earlyVariables_ I a)) i1 J1) (by first | with_reducible rfl | (simp only [addEntry_, addEntryOne_, loopC, eq_false c10, eq_true c10d, c18, ↓reduceIte, if_true, if_false, decide_true, decide_false, eq_self, b2i_t, b2i_f, Bool.false_eq_true, and_true, true_and, and_false, false_and, or_true, true_or, or_false, false_or, not_true_eq_false, not_false_eq_true] <;> rfl) | simp [addEntry_, addEntryOne_, loopC, eq_false c10, eq_true c10d, c18]) ?_
          exact ih1 _ _  (cnt_nx hm1) (loopN_s.symm.trans hR1)
  exact hL7 (cnt (0) (8)) (0) (I)  rfl rfl
set_option maxRecDepth 100000 in
set_option maxHeartbeats 1000000 in
theorem sp_X7_measureHeights {l : Launch} {k : im_K} {S : im_S} {I : im_I} {a m : Nat} {p0 : Int32} {p1 : Int32} (h : o_X7 S a m) (hp : -2147483648 < p0) : im_Runs l k 3 mX7_measureHeights [.ref a, .int p0, .int p1] (S, I) (none) (S, measureHeights_ I a m p0 p1) := by
  refine im_run (by decide +kernel) ⟨Nat.le_refl _, Nat.le_refl _⟩ (Nat.le_of_ble_eq_true rfl) ?_
  intro X hl hX hxn hxz hxc hxs
  subst hl
  change im_E X k _ 0 [some (.ref a), some (.int p0), some (.int p1), none, none, none] [] S I
  refine r_iload_n (pc := 0) hX dX7_measureHeights_0 rfl ?_
  refine r_iconst (pc := 1) hX 1 dX7_measureHeights_1 (by decide) ?_
  refine r_isub (pc := 2) hX dX7_measureHeights_2 ?_
  refine r_istore_n (pc := 3) hX (L' := [_, _, _, _, _, _]) dX7_measureHeights_3 rfl rfl (Nat.le_of_ble_eq_true rfl) ?_
  have hL4 : ∀ (w1 : Nat) (i1 : Int32) (J1 : im_I), cntD i1 (p0) = w1 → downN w1 i1 (heightOne_ a m p1) J1 = downN (cntD (p1 - 1) (p0)) (p1 - 1) (heightOne_ a m p1) (I) → im_E X k (im_Q X k (none) (S, measureHeights_ I a m p0 p1)) 4 [some (.ref a), some (.int p0), some (.int p1), some (.int i1), none, none] [] S J1 := by
    intro w1
    induction w1 with
    | zero =>
      intro i1 J1  hm1 hR1
      refine r_iload_n (pc := 4) hX dX7_measureHeights_4 rfl ?_
      refine r_iload_n (pc := 5) hX dX7_measureHeights_5 rfl ?_
      refine r_icmp_lt (pc := 6) hX 96 dX7_measureHeights_6 (by decide) (fun c6 => ?_) (fun c6 => ?_)
      · have c6d := Int32.not_le.mpr c6
        rw [downN_0] at hR1
        subst hR1
        exact r_return (pc := 96) hX dX7_measureHeights_96 rfl rfl (by first | with_reducible rfl | (simp only [measureHeights_, heightOne_, aboveOf_, downC, loopC, eq_true c6, eq_false c6d, ↓reduceIte, if_true, if_false, decide_true, decide_false, eq_self, b2i_t, b2i_f, Bool.false_eq_true, and_true, true_and, and_false, false_and, or_true, true_or, or_false, false_or, not_true_eq_false, not_false_eq_true] <;> rfl) | simp [measureHeights_, heightOne_, aboveOf_, downC, loopC, eq_true c6, eq_false c6d])
      · have c6d := Int32.not_lt.mp c6
        exact (cntD_ex hm1  c6).elim
    | succ w1 ih1 =>
      intro i1 J1  hm1 hR1
      refine r_iload_n (pc := 4) hX dX7_measureHeights_4 rfl ?_
      refine r_iload_n (pc := 5) hX dX7_measureHeights_5 rfl ?_
      refine r_icmp_lt (pc := 6) hX 96 dX7_measureHeights_6 (by decide) (fun c6 => ?_) (fun c6 => ?_)
      · have c6d := Int32.not_le.mpr c6
        exact (cntD_go hm1  c6).elim
      · have c6d := Int32.not_lt.mp c6
        refine r_iconst (pc := 9) hX 0 dX7_measureHeights_9 (by decide) ?_
        refine r_istore (pc := 10) hX (L' := [_, _, _, _, _, _]) dX7_measureHeights_10 rfl rfl (Nat.le_of_ble_eq_true rfl) ?_
        refine r_iload_n (pc := 12) hX dX7_measureHeights_12 rfl ?_
        refine r_iconst (pc := 13) hX 1 dX7_measureHeights_13 (by decide) ?_
        refine r_iadd (pc := 14) hX dX7_measureHeights_14 ?_
        refine r_istore (pc := 15) hX (L' := [_, _, _, _, _, _]) dX7_measureHeights_15 rfl rfl (Nat.le_of_ble_eq_true rfl) ?_
        have hL17 : ∀ (w2 : Nat) (i2 : Int32) (J2 : Int32), cnt i2 (p1) = w2 → loopN w2 i2 (fun j ab => if heightOf_ J1 (a + 27) j ≤ ab then ab else if isNeeding_ J1 (a + 27) j i1 = false then ab else heightOf_ J1 (a + 27) j) J2 = loopN (cnt (i1 + 1) (p1)) (i1 + 1) (fun j ab => if heightOf_ J1 (a + 27) j ≤ ab then ab else if isNeeding_ J1 (a + 27) j i1 = false then ab else heightOf_ J1 (a + 27) j) (0) → im_E X k (im_Q X k (none) (S, measureHeights_ I a m p0 p1)) 17 [some (.ref a), some (.int p0), some (.int p1), some (.int i1), some (.int J2), some (.int i2)] [] S J1 := by
          intro w2
          induction w2 with
          | zero =>
            intro i2 J2  hm2 hR2
            refine r_iload (pc := 17) hX dX7_measureHeights_17 rfl ?_
            refine r_iload_n (pc := 19) hX dX7_measureHeights_19 rfl ?_
            refine r_icmp_ge (pc := 20) hX 64 dX7_measureHeights_20 (by decide) (fun c20 => ?_) (fun c20 => ?_)
            · have c20d := Int32.not_lt.mpr c20
              rw [loopN_0] at hR2
              subst hR2
              refine r_aload_n (pc := 64) hX dX7_measureHeights_64 rfl ?_
              refine r_getr (pc := 65) hX dX7_measureHeights_65 fl_X7_48 rfl (o_X7_k h) (o_X7_r6 h) ?_
              refine r_iload_n (pc := 68) hX dX7_measureHeights_68 rfl ?_
              refine r_aload_n (pc := 69) hX dX7_measureHeights_69 rfl ?_
              refine r_getr (pc := 70) hX dX7_measureHeights_70 fl_X7_15 rfl (o_X7_k h) (o_X7_r5 h) ?_
              refine r_aload_n (pc := 73) hX dX7_measureHeights_73 rfl ?_
              refine r_getr (pc := 74) hX dX7_measureHeights_74 fl_X7_48 rfl (o_X7_k h) (o_X7_r6 h) ?_
              refine r_iload_n (pc := 77) hX dX7_measureHeights_77 rfl ?_
              refine r_callV (Z := mX3_kindOf) (t := 3) (pc := 78) hX dX7_measureHeights_78 ml_X7_142 mX3_kindOf_w ⟨by decide, rfl⟩ (o_X3_k (o_X7_o6 h)) (sp_X3_kindOf (o_X7_o6 h)) rfl rfl (Nat.le_of_ble_eq_true rfl) (by decide) rfl (Or.inl rfl) ?_
              refine r_callV (Z := mX5_cyclesOf) (t := 5) (pc := 81) hX dX7_measureHeights_81 ml_X7_151 mX5_cyclesOf_w ⟨by decide, rfl⟩ (o_X5_k (o_X7_o5 h)) (sp_X5_cyclesOf (o_X7_o5 h)) rfl rfl (Nat.le_of_ble_eq_true rfl) (by decide) rfl (Or.inl rfl) ?_
              refine r_iload (pc := 84) hX dX7_measureHeights_84 rfl ?_
              refine r_iadd (pc := 86) hX dX7_measureHeights_86 ?_
              refine r_callV (Z := mX3_setHeight) (t := 3) (pc := 87) hX dX7_measureHeights_87 ml_X7_156 mX3_setHeight_w ⟨by decide, rfl⟩ (o_X3_k (o_X7_o6 h)) (sp_X3_setHeight (o_X7_o6 h)) rfl rfl (Nat.le_of_ble_eq_true rfl) (by decide) rfl (Or.inl rfl) ?_
              refine r_iinc (pc := 90) hX (-1) (L' := [_, _, _, _, _, _]) dX7_measureHeights_90 rfl (by decide) rfl rfl ?_
              refine r_goto (pc := 93) hX (tgt := 4) dX7_measureHeights_93 (by decide) ?_
              refine r_weak (L' := [some _, some _, some _, some _, none, none]) (And.intro rfl (And.intro rfl (And.intro rfl (And.intro rfl trivial)))) ?_
              refine r_mem (I' := (heightOne_ a m p1) i1 J1) (by first | with_reducible rfl | (simp only [measureHeights_, heightOne_, aboveOf_, downC, loopC, eq_false c6, eq_true c6d, eq_true c20, eq_false c20d, ↓reduceIte, if_true, if_false, decide_true, decide_false, eq_self, b2i_t, b2i_f, Bool.false_eq_true, and_true, true_and, and_false, false_and, or_true, true_or, or_false, false_or, not_true_eq_false, not_false_eq_true] <;> rfl) | simp [measureHeights_, heightOne_, aboveOf_, downC, loopC, eq_false c6, eq_true c6d, eq_true c20, eq_false c20d]) ?_
              exact ih1 _ _  (cntD_nx (by first | decide | assumption) hm1) (downN_s.symm.trans hR1)
            · have c20d := Int32.not_le.mp c20
              exact (cnt_ex hm2  c20).elim
          | succ w2 ih2 =>
            intro i2 J2  hm2 hR2
            refine r_iload (pc := 17) hX dX7_measureHeights_17 rfl ?_
            refine r_iload_n (pc := 19) hX dX7_measureHeights_19 rfl ?_
            refine r_icmp_ge (pc := 20) hX 64 dX7_measureHeights_20 (by decide) (fun c20 => ?_) (fun c20 => ?_)
            · have c20d := Int32.not_lt.mpr c20
              exact (cnt_go hm2  c20).elim
            · have c20d := Int32.not_le.mp c20
              refine r_aload_n (pc := 23) hX dX7_measureHeights_23 rfl ?_
              refine r_getr (pc := 24) hX dX7_measureHeights_24 fl_X7_48 rfl (o_X7_k h) (o_X7_r6 h) ?_
              refine r_iload (pc := 27) hX dX7_measureHeights_27 rfl ?_
              refine r_callV (Z := mX3_heightOf) (t := 3) (pc := 29) hX dX7_measureHeights_29 ml_X7_145 mX3_heightOf_w ⟨by decide, rfl⟩ (o_X3_k (o_X7_o6 h)) (sp_X3_heightOf (o_X7_o6 h)) rfl rfl (Nat.le_of_ble_eq_true rfl) (by decide) rfl (Or.inl rfl) ?_
              refine r_iload (pc := 32) hX dX7_measureHeights_32 rfl ?_
              refine r_icmp_le (pc := 34) hX 58 dX7_measureHeights_34 (by decide) (fun c34 => ?_) (fun c34 => ?_)
              · have c34d := Int32.not_lt.mpr c34
                refine r_iinc (pc := 58) hX 1 (L' := [_, _, _, _, _, _]) dX7_measureHeights_58 rfl (by decide) rfl rfl ?_
                refine r_goto (pc := 61) hX (tgt := 17) dX7_measureHeights_61 (by decide) ?_
                exact ih2 _ _  (cnt_nx hm2) (by refine Eq.trans (congrArg (loopN w2 (i2 + 1) (fun j ab => if heightOf_ J1 (a + 27) j ≤ ab then ab else if isNeeding_ J1 (a + 27) j i1 = false then ab else heightOf_ J1 (a + 27) j)) ?_) (loopN_s.symm.trans hR2); exact (by first | with_reducible rfl | (simp only [measureHeights_, heightOne_, aboveOf_, downC, loopC, eq_false c6, eq_true c6d, eq_false c20, eq_true c20d, eq_true c34, eq_false c34d, ↓reduceIte, if_true, if_false, decide_true, decide_false, eq_self, b2i_t, b2i_f, Bool.false_eq_true, and_true, true_and, and_false, false_and, or_true, true_or, or_false, false_or, not_true_eq_false, not_false_eq_true] <;> rfl) | simp [measureHeights_, heightOne_, aboveOf_, downC, loopC, eq_false c6, eq_true c6d, eq_false c20, eq_true c20d, eq_true c34, eq_false c34d]))
              · have c34d := Int32.not_le.mp c34
                refine r_aload_n (pc := 37) hX dX7_measureHeights_37 rfl ?_
                refine r_iload (pc := 38) hX dX7_measureHeights_38 rfl ?_
                refine r_iload_n (pc := 40) hX dX7_measureHeights_40 rfl ?_
                refine r_callV (Z := mX7_isNeeding) (t := 7) (pc := 41) hX dX7_measureHeights_41 ml_X7_148 mX7_isNeeding_w ⟨by decide, rfl⟩ (o_X7_k h) (sp_X7_isNeeding h) rfl rfl (Nat.le_of_ble_eq_true rfl) (by decide) rfl (Or.inl rfl) ?_
                refine r_if_eq (pc := 44) hX 58 dX7_measureHeights_44 (by decide) (fun c44 => ?_) (fun c44 => ?_)
                · replace c44 := b2i_0 c44
                  refine r_iinc (pc := 58) hX 1 (L' := [_, _, _, _, _, _]) dX7_measureHeights_58 rfl (by decide) rfl rfl ?_
                  refine r_goto (pc := 61) hX (tgt := 17) dX7_measureHeights_61 (by decide) ?_
                  exact ih2 _ _  (cnt_nx hm2) (by refine Eq.trans (congrArg (loopN w2 (i2 + 1) (fun j ab => if heightOf_ J1 (a + 27) j ≤ ab then ab else if isNeeding_ J1 (a + 27) j i1 = false then ab else heightOf_ J1 (a + 27) j)) ?_) (loopN_s.symm.trans hR2); exact (by first | with_reducible rfl | (simp only [measureHeights_, heightOne_, aboveOf_, downC, loopC, eq_false c6, eq_true c6d, eq_false c20, eq_true c20d, eq_false c34, eq_true c34d, c44, ↓reduceIte, if_true, if_false, decide_true, decide_false, eq_self, b2i_t, b2i_f, Bool.false_eq_true, and_true, true_and, and_false, false_and, or_true, true_or, or_false, false_or, not_true_eq_false, not_false_eq_true] <;> rfl) | simp [measureHeights_, heightOne_, aboveOf_, downC, loopC, eq_false c6, eq_true c6d, eq_false c20, eq_true c20d, eq_false c34, eq_true c34d, c44]))
                · replace c44 := b2i_1 c44
                  refine r_aload_n (pc := 47) hX dX7_measureHeights_47 rfl ?_
                  refine r_getr (pc := 48) hX dX7_measureHeights_48 fl_X7_48 rfl (o_X7_k h) (o_X7_r6 h) ?_
                  refine r_iload (pc := 51) hX dX7_measureHeights_51 rfl ?_
                  refine r_callV (Z := mX3_heightOf) (t := 3) (pc := 53) hX dX7_measureHeights_53 ml_X7_145 mX3_heightOf_w ⟨by decide, rfl⟩ (o_X3_k (o_X7_o6 h)) (sp_X3_heightOf (o_X7_o6 h)) rfl rfl (Nat.le_of_ble_eq_true rfl) (by decide) rfl (Or.inl rfl) ?_
                  refine r_istore (pc := 56) hX (L' := [_, _, _, _, _, _]) dX7_measureHeights_56 rfl rfl (Nat.le_of_ble_eq_true rfl) ?_
                  refine r_iinc (pc := 58) hX 1 (L' := [_, _, _, _, _, _]) dX7_measureHeights_58 rfl (by decide) rfl rfl ?_
                  refine r_goto (pc := 61) hX (tgt := 17) dX7_measureHeights_61 (by decide) ?_
                  exact ih2 _ _  (cnt_nx hm2) (by refine Eq.trans (congrArg (loopN w2 (i2 + 1) (fun j ab => if heightOf_ J1 (a + 27) j ≤ ab then ab else if isNeeding_ J1 (a + 27) j i1 = false then ab else heightOf_ J1 (a + 27) j)) ?_) (loopN_s.symm.trans hR2); exact (by first | with_reducible rfl | (simp only [measureHeights_, heightOne_, aboveOf_, downC, loopC, eq_false c6, eq_true c6d, eq_false c20, eq_true c20d, eq_false c34, eq_true c34d, c44, ↓reduceIte, if_true, if_false, decide_true, decide_false, eq_self, b2i_t, b2i_f, Bool.false_eq_true, and_true, true_and, and_false, false_and, or_true, true_or, or_false, false_or, not_true_eq_false, not_false_eq_true] <;> rfl) | simp [measureHeights_, heightOne_, aboveOf_, downC, loopC, eq_false c6, eq_true c6d, eq_false c20, eq_true c20d, eq_false c34, eq_true c34d, c44]))
        exact hL17 (cnt (i1 + 1) (p1)) (i1 + 1) (0)  rfl rfl
  exact hL4 (cntD (p1 - 1) (p0)) (p1 - 1) (I)  rfl rfl
set_option maxRecDepth 100000 in
set_option maxHeartbeats 1000000 in
theorem sp_X7_placeAsChosen {l : Launch} {k : im_K} {S : im_S} {I : im_I} {a m : Nat} {p0 : Int32} {p1 : Int32} (h : o_X7 S a m) : im_Runs l k 3 mX7_placeAsChosen [.ref a, .int p0, .int p1] (S, I) (none) (S, placeAsChosen_ I a p0 p1) := by
  refine im_run (by decide +kernel) ⟨Nat.le_refl _, Nat.le_refl _⟩ (Nat.le_of_ble_eq_true rfl) ?_
  intro X hl hX hxn hxz hxc hxs
  subst hl
  change im_E X k _ 0 [some (.ref a), some (.int p0), some (.int p1), none] [] S I
  refine r_iload_n (pc := 0) hX dX7_placeAsChosen_0 rfl ?_
  refine r_istore_n (pc := 1) hX (L' := [_, _, _, _]) dX7_placeAsChosen_1 rfl rfl (Nat.le_of_ble_eq_true rfl) ?_
  have hL2 : ∀ (w1 : Nat) (i1 : Int32) (J1 : im_I), cnt i1 (p1) = w1 → loopN w1 i1 (fun i J => addCopy_ J (a + 10) (a + 27) i) J1 = loopN (cnt (p0) (p1)) (p0) (fun i J => addCopy_ J (a + 10) (a + 27) i) (I) → im_E X k (im_Q X k (none) (S, placeAsChosen_ I a p0 p1)) 2 [some (.ref a), some (.int p0), some (.int p1), some (.int i1)] [] S J1 := by
    intro w1
    induction w1 with
    | zero =>
      intro i1 J1  hm1 hR1
      refine r_iload_n (pc := 2) hX dX7_placeAsChosen_2 rfl ?_
      refine r_iload_n (pc := 3) hX dX7_placeAsChosen_3 rfl ?_
      refine r_icmp_ge (pc := 4) hX 25 dX7_placeAsChosen_4 (by decide) (fun c4 => ?_) (fun c4 => ?_)
      · have c4d := Int32.not_lt.mpr c4
        rw [loopN_0] at hR1
        subst hR1
        exact r_return (pc := 25) hX dX7_placeAsChosen_25 rfl rfl (by first | with_reducible rfl | (simp only [placeAsChosen_, loopC, eq_true c4, eq_false c4d, ↓reduceIte, if_true, if_false, decide_true, decide_false, eq_self, b2i_t, b2i_f, Bool.false_eq_true, and_true, true_and, and_false, false_and, or_true, true_or, or_false, false_or, not_true_eq_false, not_false_eq_true] <;> rfl) | simp [placeAsChosen_, loopC, eq_true c4, eq_false c4d])
      · have c4d := Int32.not_le.mp c4
        exact (cnt_ex hm1  c4).elim
    | succ w1 ih1 =>
      intro i1 J1  hm1 hR1
      refine r_iload_n (pc := 2) hX dX7_placeAsChosen_2 rfl ?_
      refine r_iload_n (pc := 3) hX dX7_placeAsChosen_3 rfl ?_
      refine r_icmp_ge (pc := 4) hX 25 dX7_placeAsChosen_4 (by decide) (fun c4 => ?_) (fun c4 => ?_)
      · have c4d := Int32.not_lt.mpr c4
        exact (cnt_go hm1  c4).elim
      · have c4d := Int32.not_le.mp c4
        refine r_aload_n (pc := 7) hX dX7_placeAsChosen_7 rfl ?_
        refine r_getr (pc := 8) hX dX7_placeAsChosen_8 fl_X7_31 rfl (o_X7_k h) (o_X7_r1 h) ?_
        refine r_aload_n (pc := 11) hX dX7_placeAsChosen_11 rfl ?_
        refine r_getr (pc := 12) hX dX7_placeAsChosen_12 fl_X7_48 rfl (o_X7_k h) (o_X7_r6 h) ?_
        refine r_iload_n (pc := 15) hX dX7_placeAsChosen_15 rfl ?_
        refine r_callV (Z := mX3_addCopy) (t := 3) (pc := 16) hX dX7_placeAsChosen_16 ml_X7_159 mX3_addCopy_w ⟨by decide, rfl⟩ (o_X3_k (o_X7_o1 h)) (sp_X3_addCopy (o_X7_o1 h) (o_X7_o6 h)) rfl rfl (Nat.le_of_ble_eq_true rfl) (by decide) rfl (Or.inl rfl) ?_
        refine r_iinc (pc := 19) hX 1 (L' := [_, _, _, _]) dX7_placeAsChosen_19 rfl (by decide) rfl rfl ?_
        refine r_goto (pc := 22) hX (tgt := 2) dX7_placeAsChosen_22 (by decide) ?_
        refine r_mem (I' := (fun i J => addCopy_ J (a + 10) (a + 27) i) i1 J1) (by first | with_reducible rfl | (simp only [placeAsChosen_, loopC, eq_false c4, eq_true c4d, ↓reduceIte, if_true, if_false, decide_true, decide_false, eq_self, b2i_t, b2i_f, Bool.false_eq_true, and_true, true_and, and_false, false_and, or_true, true_or, or_false, false_or, not_true_eq_false, not_false_eq_true] <;> rfl) | simp [placeAsChosen_, loopC, eq_false c4, eq_true c4d]) ?_
        exact ih1 _ _  (cnt_nx hm1) (loopN_s.symm.trans hR1)
  exact hL2 (cnt (p0) (p1)) (p0) (I)  rfl rfl
set_option maxRecDepth 100000 in
set_option maxHeartbeats 1000000 in
theorem sp_X7_countMissing {l : Launch} {k : im_K} {S : im_S} {I : im_I} {a m : Nat} {p0 : Int32} {p1 : Int32} (h : o_X7 S a m) : im_Runs l k 3 mX7_countMissing [.ref a, .int p0, .int p1] (S, I) (none) (S, countMissing_ I a p0 p1) := by
  refine im_run (by decide +kernel) ⟨Nat.le_refl _, Nat.le_refl _⟩ (Nat.le_of_ble_eq_true rfl) ?_
  intro X hl hX hxn hxz hxc hxs
  subst hl
  change im_E X k _ 0 [some (.ref a), some (.int p0), some (.int p1), none, none, none] [] S I
  refine r_iload_n (pc := 0) hX dX7_countMissing_0 rfl ?_
  refine r_istore_n (pc := 1) hX (L' := [_, _, _, _, _, _]) dX7_countMissing_1 rfl rfl (Nat.le_of_ble_eq_true rfl) ?_
  have hL2 : ∀ (w1 : Nat) (i1 : Int32) (J1 : im_I), cnt i1 (p1) = w1 → loopN w1 i1 (fun j J => put_ J (a + 35) 88 j (neededOf_ J (a + 27) p0 j)) J1 = loopN (cnt (p0) (p1)) (p0) (fun j J => put_ J (a + 35) 88 j (neededOf_ J (a + 27) p0 j)) (I) → im_E X k (im_Q X k (none) (S, countMissing_ I a p0 p1)) 2 [some (.ref a), some (.int p0), some (.int p1), some (.int i1), none, none] [] S J1 := by
    intro w1
    induction w1 with
    | zero =>
      intro i1 J1  hm1 hR1
      refine r_iload_n (pc := 2) hX dX7_countMissing_2 rfl ?_
      refine r_iload_n (pc := 3) hX dX7_countMissing_3 rfl ?_
      refine r_icmp_ge (pc := 4) hX 54 dX7_countMissing_4 (by decide) (fun c4 => ?_) (fun c4 => ?_)
      · have c4d := Int32.not_lt.mpr c4
        rw [loopN_0] at hR1
        subst hR1
        exact r_return (pc := 54) hX dX7_countMissing_54 rfl rfl (by first | with_reducible rfl | (simp only [countMissing_, neededOf_, loopC, eq_true c4, eq_false c4d, ↓reduceIte, if_true, if_false, decide_true, decide_false, eq_self, b2i_t, b2i_f, Bool.false_eq_true, and_true, true_and, and_false, false_and, or_true, true_or, or_false, false_or, not_true_eq_false, not_false_eq_true] <;> rfl) | simp [countMissing_, neededOf_, loopC, eq_true c4, eq_false c4d])
      · have c4d := Int32.not_le.mp c4
        exact (cnt_ex hm1  c4).elim
    | succ w1 ih1 =>
      intro i1 J1  hm1 hR1
      refine r_iload_n (pc := 2) hX dX7_countMissing_2 rfl ?_
      refine r_iload_n (pc := 3) hX dX7_countMissing_3 rfl ?_
      refine r_icmp_ge (pc := 4) hX 54 dX7_countMissing_4 (by decide) (fun c4 => ?_) (fun c4 => ?_)
      · have c4d := Int32.not_lt.mpr c4
        exact (cnt_go hm1  c4).elim
      · have c4d := Int32.not_le.mp c4
        refine r_iconst (pc := 7) hX 0 dX7_countMissing_7 (by decide) ?_
        refine r_istore (pc := 8) hX (L' := [_, _, _, _, _, _]) dX7_countMissing_8 rfl rfl (Nat.le_of_ble_eq_true rfl) ?_
        refine r_iload_n (pc := 10) hX dX7_countMissing_10 rfl ?_
        refine r_istore (pc := 11) hX (L' := [_, _, _, _, _, _]) dX7_countMissing_11 rfl rfl (Nat.le_of_ble_eq_true rfl) ?_
        have hL13 : ∀ (w2 : Nat) (i2 : Int32) (J2 : Int32), cnt i2 (i1) = w2 → loopN w2 i2 (fun i c => if isNeeding_ J1 (a + 27) i1 i = false then c else c + 1) J2 = loopN (cnt (p0) (i1)) (p0) (fun i c => if isNeeding_ J1 (a + 27) i1 i = false then c else c + 1) (0) → im_E X k (im_Q X k (none) (S, countMissing_ I a p0 p1)) 13 [some (.ref a), some (.int p0), some (.int p1), some (.int i1), some (.int J2), some (.int i2)] [] S J1 := by
          intro w2
          induction w2 with
          | zero =>
            intro i2 J2  hm2 hR2
            refine r_iload (pc := 13) hX dX7_countMissing_13 rfl ?_
            refine r_iload_n (pc := 15) hX dX7_countMissing_15 rfl ?_
            refine r_icmp_ge (pc := 16) hX 38 dX7_countMissing_16 (by decide) (fun c16 => ?_) (fun c16 => ?_)
            · have c16d := Int32.not_lt.mpr c16
              rw [loopN_0] at hR2
              subst hR2
              refine r_aload_n (pc := 38) hX dX7_countMissing_38 rfl ?_
              refine r_getr (pc := 39) hX dX7_countMissing_39 fl_X7_54 rfl (o_X7_k h) (o_X7_r8 h) ?_
              refine r_iload_n (pc := 42) hX dX7_countMissing_42 rfl ?_
              refine r_iload (pc := 43) hX dX7_countMissing_43 rfl ?_
              refine r_callSN (Z := mX11_put) (pc := 45) hX dX7_countMissing_45 mn_X7_77 mX11_put_w (sp_X11_put (o_X7_a8 h)) rfl rfl (Nat.le_of_ble_eq_true rfl) (by decide) rfl (Or.inl rfl) ?_
              refine r_iinc (pc := 48) hX 1 (L' := [_, _, _, _, _, _]) dX7_countMissing_48 rfl (by decide) rfl rfl ?_
              refine r_goto (pc := 51) hX (tgt := 2) dX7_countMissing_51 (by decide) ?_
              refine r_weak (L' := [some _, some _, some _, some _, none, none]) (And.intro rfl (And.intro rfl (And.intro rfl (And.intro rfl trivial)))) ?_
              refine r_mem (I' := (fun j J => put_ J (a + 35) 88 j (neededOf_ J (a + 27) p0 j)) i1 J1) (by first | with_reducible rfl | (simp only [countMissing_, neededOf_, loopC, eq_false c4, eq_true c4d, eq_true c16, eq_false c16d, ↓reduceIte, if_true, if_false, decide_true, decide_false, eq_self, b2i_t, b2i_f, Bool.false_eq_true, and_true, true_and, and_false, false_and, or_true, true_or, or_false, false_or, not_true_eq_false, not_false_eq_true] <;> rfl) | simp [countMissing_, neededOf_, loopC, eq_false c4, eq_true c4d, eq_true c16, eq_false c16d]) ?_
              exact ih1 _ _  (cnt_nx hm1) (loopN_s.symm.trans hR1)
            · have c16d := Int32.not_le.mp c16
              exact (cnt_ex hm2  c16).elim
          | succ w2 ih2 =>
            intro i2 J2  hm2 hR2
            refine r_iload (pc := 13) hX dX7_countMissing_13 rfl ?_
            refine r_iload_n (pc := 15) hX dX7_countMissing_15 rfl ?_
            refine r_icmp_ge (pc := 16) hX 38 dX7_countMissing_16 (by decide) (fun c16 => ?_) (fun c16 => ?_)
            · have c16d := Int32.not_lt.mpr c16
              exact (cnt_go hm2  c16).elim
            · have c16d := Int32.not_le.mp c16
              refine r_aload_n (pc := 19) hX dX7_countMissing_19 rfl ?_
              refine r_iload_n (pc := 20) hX dX7_countMissing_20 rfl ?_
              refine r_iload (pc := 21) hX dX7_countMissing_21 rfl ?_
              refine r_callV (Z := mX7_isNeeding) (t := 7) (pc := 23) hX dX7_countMissing_23 ml_X7_148 mX7_isNeeding_w ⟨by decide, rfl⟩ (o_X7_k h) (sp_X7_isNeeding h) rfl rfl (Nat.le_of_ble_eq_true rfl) (by decide) rfl (Or.inl rfl) ?_
              refine r_if_eq (pc := 26) hX 32 dX7_countMissing_26 (by decide) (fun c26 => ?_) (fun c26 => ?_)
              · replace c26 := b2i_0 c26
                refine r_iinc (pc := 32) hX 1 (L' := [_, _, _, _, _, _]) dX7_countMissing_32 rfl (by decide) rfl rfl ?_
                refine r_goto (pc := 35) hX (tgt := 13) dX7_countMissing_35 (by decide) ?_
                exact ih2 _ _  (cnt_nx hm2) (by refine Eq.trans (congrArg (loopN w2 (i2 + 1) (fun i c => if isNeeding_ J1 (a + 27) i1 i = false then c else c + 1)) ?_) (loopN_s.symm.trans hR2); exact (by first | with_reducible rfl | (simp only [countMissing_, neededOf_, loopC, eq_false c4, eq_true c4d, eq_false c16, eq_true c16d, c26, ↓reduceIte, if_true, if_false, decide_true, decide_false, eq_self, b2i_t, b2i_f, Bool.false_eq_true, and_true, true_and, and_false, false_and, or_true, true_or, or_false, false_or, not_true_eq_false, not_false_eq_true] <;> rfl) | simp [countMissing_, neededOf_, loopC, eq_false c4, eq_true c4d, eq_false c16, eq_true c16d, c26]))
              · replace c26 := b2i_1 c26
                refine r_iinc (pc := 29) hX 1 (L' := [_, _, _, _, _, _]) dX7_countMissing_29 rfl (by decide) rfl rfl ?_
                refine r_iinc (pc := 32) hX 1 (L' := [_, _, _, _, _, _]) dX7_countMissing_32 rfl (by decide) rfl rfl ?_
                refine r_goto (pc := 35) hX (tgt := 13) dX7_countMissing_35 (by decide) ?_
                exact ih2 _ _  (cnt_nx hm2) (by refine Eq.trans (congrArg (loopN w2 (i2 + 1) (fun i c => if isNeeding_ J1 (a + 27) i1 i = false then c else c + 1)) ?_) (loopN_s.symm.trans hR2); exact (by first | with_reducible rfl | (simp only [countMissing_, neededOf_, loopC, eq_false c4, eq_true c4d, eq_false c16, eq_true c16d, c26, ↓reduceIte, if_true, if_false, decide_true, decide_false, eq_self, b2i_t, b2i_f, Bool.false_eq_true, and_true, true_and, and_false, false_and, or_true, true_or, or_false, false_or, not_true_eq_false, not_false_eq_true] <;> rfl) | simp [countMissing_, neededOf_, loopC, eq_false c4, eq_true c4d, eq_false c16, eq_true c16d, c26]))
        exact hL13 (cnt (p0) (i1)) (p0) (0)  rfl rfl
  exact hL2 (cnt (p0) (p1)) (p0) (I)  rfl rfl
set_option maxRecDepth 100000 in
set_option maxHeartbeats 1000000 in
theorem sp_X7_highestReady {l : Launch} {k : im_K} {S : im_S} {I : im_I} {a m : Nat} {p0 : Int32} {p1 : Int32} (h : o_X7 S a m) : im_Runs l k 2 mX7_highestReady [.ref a, .int p0, .int p1] (S, I) (some (.int (highestReady_ I a p0 p1))) (S, I) := by
  refine im_run (by decide +kernel) ⟨Nat.le_refl _, Nat.le_refl _⟩ (Nat.le_of_ble_eq_true rfl) ?_
  intro X hl hX hxn hxz hxc hxs
  subst hl
  change im_E X k _ 0 [some (.ref a), some (.int p0), some (.int p1), none, none] [] S I
  refine r_iconst (pc := 0) hX (-1) dX7_highestReady_0 (by decide) ?_
  refine r_istore_n (pc := 1) hX (L' := [_, _, _, _, _]) dX7_highestReady_1 rfl rfl (Nat.le_of_ble_eq_true rfl) ?_
  refine r_iload_n (pc := 2) hX dX7_highestReady_2 rfl ?_
  refine r_istore (pc := 3) hX (L' := [_, _, _, _, _]) dX7_highestReady_3 rfl rfl (Nat.le_of_ble_eq_true rfl) ?_
  have hL5 : ∀ (w1 : Nat) (i1 : Int32) (J1 : Int32), cnt i1 (p1) = w1 → loopN w1 i1 (fun i b => if ¬ at_ (I (a + 35)) 88 i = 0 then b else if b = -1 then i else if heightOf_ I (a + 27) i ≤ heightOf_ I (a + 27) b then b else i) J1 = loopN (cnt (p0) (p1)) (p0) (fun i b => if ¬ at_ (I (a + 35)) 88 i = 0 then b else if b = -1 then i else if heightOf_ I (a + 27) i ≤ heightOf_ I (a + 27) b then b else i) (-1) → im_E X k (im_Q X k (some (.int (highestReady_ I a p0 p1))) (S, I)) 5 [some (.ref a), some (.int p0), some (.int p1), some (.int J1), some (.int i1)] [] S I := by
    intro w1
    induction w1 with
    | zero =>
      intro i1 J1  hm1 hR1
      refine r_iload (pc := 5) hX dX7_highestReady_5 rfl ?_
      refine r_iload_n (pc := 7) hX dX7_highestReady_7 rfl ?_
      refine r_icmp_ge (pc := 8) hX 57 dX7_highestReady_8 (by decide) (fun c8 => ?_) (fun c8 => ?_)
      · have c8d := Int32.not_lt.mpr c8
        rw [loopN_0] at hR1
        subst hR1
        refine r_iload_n (pc := 57) hX dX7_highestReady_57 rfl ?_
        exact r_ireturn (pc := 58) hX dX7_highestReady_58 rfl rfl (by first | with_reducible rfl | (simp only [highestReady_, loopC, eq_true c8, eq_false c8d, ↓reduceIte, if_true, if_false, decide_true, decide_false, eq_self, b2i_t, b2i_f, Bool.false_eq_true, and_true, true_and, and_false, false_and, or_true, true_or, or_false, false_or, not_true_eq_false, not_false_eq_true] <;> rfl) | simp [highestReady_, loopC, eq_true c8, eq_false c8d]) rfl
      · have c8d := Int32.not_le.mp c8
        exact (cnt_ex hm1  c8).elim
    | succ w1 ih1 =>
      intro i1 J1  hm1 hR1
      refine r_iload (pc := 5) hX dX7_highestReady_5 rfl ?_
      refine r_iload_n (pc := 7) hX dX7_highestReady_7 rfl ?_
      refine r_icmp_ge (pc := 8) hX 57 dX7_highestReady_8 (by decide) (fun c8 => ?_) (fun c8 => ?_)
      · have c8d := Int32.not_lt.mpr c8
        exact (cnt_go hm1  c8).elim
      · have c8d := Int32.not_le.mp c8
        refine r_aload_n (pc := 11) hX dX7_highestReady_11 rfl ?_
        refine r_getr (pc := 12) hX dX7_highestReady_12 fl_X7_54 rfl (o_X7_k h) (o_X7_r8 h) ?_
        refine r_iload (pc := 15) hX dX7_highestReady_15 rfl ?_
        refine r_callSN (Z := mX11_at) (pc := 17) hX dX7_highestReady_17 mn_X7_69 mX11_at_w (sp_X11_at (o_X7_a8 h)) rfl rfl (Nat.le_of_ble_eq_true rfl) (by decide) rfl (Or.inl rfl) ?_
        refine r_if_ne (pc := 20) hX 51 dX7_highestReady_20 (by decide) (fun c20 => ?_) (fun c20 => ?_)
        · refine r_iinc (pc := 51) hX 1 (L' := [_, _, _, _, _]) dX7_highestReady_51 rfl (by decide) rfl rfl ?_
          refine r_goto (pc := 54) hX (tgt := 5) dX7_highestReady_54 (by decide) ?_
          exact ih1 _ _  (cnt_nx hm1) (by refine Eq.trans (congrArg (loopN w1 (i1 + 1) (fun i b => if ¬ at_ (I (a + 35)) 88 i = 0 then b else if b = -1 then i else if heightOf_ I (a + 27) i ≤ heightOf_ I (a + 27) b then b else i)) ?_) (loopN_s.symm.trans hR1); exact (by first | with_reducible rfl | (simp only [highestReady_, loopC, eq_false c8, eq_true c8d, eq_false c20, ↓reduceIte, if_true, if_false, decide_true, decide_false, eq_self, b2i_t, b2i_f, Bool.false_eq_true, and_true, true_and, and_false, false_and, or_true, true_or, or_false, false_or, not_true_eq_false, not_false_eq_true] <;> rfl) | simp [highestReady_, loopC, eq_false c8, eq_true c8d, eq_false c20]))
        · refine r_iload_n (pc := 23) hX dX7_highestReady_23 rfl ?_
          refine r_iconst (pc := 24) hX (-1) dX7_highestReady_24 (by decide) ?_
          refine r_icmp_eq (pc := 25) hX 48 dX7_highestReady_25 (by decide) (fun c25 => ?_) (fun c25 => ?_)
          · refine r_iload (pc := 48) hX dX7_highestReady_48 rfl ?_
            refine r_istore_n (pc := 50) hX (L' := [_, _, _, _, _]) dX7_highestReady_50 rfl rfl (Nat.le_of_ble_eq_true rfl) ?_
            refine r_iinc (pc := 51) hX 1 (L' := [_, _, _, _, _]) dX7_highestReady_51 rfl (by decide) rfl rfl ?_
            refine r_goto (pc := 54) hX (tgt := 5) dX7_highestReady_54 (by decide) ?_
            exact ih1 _ _  (cnt_nx hm1) (by refine Eq.trans (congrArg (loopN w1 (i1 + 1) (fun i b => if ¬ at_ (I (a + 35)) 88 i = 0 then b else if b = -1 then i else if heightOf_ I (a + 27) i ≤ heightOf_ I (a + 27) b then b else i)) ?_) (loopN_s.symm.trans hR1); exact (by first | with_reducible rfl | (simp only [highestReady_, loopC, eq_false c8, eq_true c8d, eq_true c20, eq_true c25, ↓reduceIte, if_true, if_false, decide_true, decide_false, eq_self, b2i_t, b2i_f, Bool.false_eq_true, and_true, true_and, and_false, false_and, or_true, true_or, or_false, false_or, not_true_eq_false, not_false_eq_true] <;> rfl) | simp [highestReady_, loopC, eq_false c8, eq_true c8d, eq_true c20, eq_true c25]))
          · refine r_aload_n (pc := 28) hX dX7_highestReady_28 rfl ?_
            refine r_getr (pc := 29) hX dX7_highestReady_29 fl_X7_48 rfl (o_X7_k h) (o_X7_r6 h) ?_
            refine r_iload (pc := 32) hX dX7_highestReady_32 rfl ?_
            refine r_callV (Z := mX3_heightOf) (t := 3) (pc := 34) hX dX7_highestReady_34 ml_X7_145 mX3_heightOf_w ⟨by decide, rfl⟩ (o_X3_k (o_X7_o6 h)) (sp_X3_heightOf (o_X7_o6 h)) rfl rfl (Nat.le_of_ble_eq_true rfl) (by decide) rfl (Or.inl rfl) ?_
            refine r_aload_n (pc := 37) hX dX7_highestReady_37 rfl ?_
            refine r_getr (pc := 38) hX dX7_highestReady_38 fl_X7_48 rfl (o_X7_k h) (o_X7_r6 h) ?_
            refine r_iload_n (pc := 41) hX dX7_highestReady_41 rfl ?_
            refine r_callV (Z := mX3_heightOf) (t := 3) (pc := 42) hX dX7_highestReady_42 ml_X7_145 mX3_heightOf_w ⟨by decide, rfl⟩ (o_X3_k (o_X7_o6 h)) (sp_X3_heightOf (o_X7_o6 h)) rfl rfl (Nat.le_of_ble_eq_true rfl) (by decide) rfl (Or.inl rfl) ?_
            refine r_icmp_le (pc := 45) hX 51 dX7_highestReady_45 (by decide) (fun c45 => ?_) (fun c45 => ?_)
            · have c45d := Int32.not_lt.mpr c45
              refine r_iinc (pc := 51) hX 1 (L' := [_, _, _, _, _]) dX7_highestReady_51 rfl (by decide) rfl rfl ?_
              refine r_goto (pc := 54) hX (tgt := 5) dX7_highestReady_54 (by decide) ?_
              exact ih1 _ _  (cnt_nx hm1) (by refine Eq.trans (congrArg (loopN w1 (i1 + 1) (fun i b => if ¬ at_ (I (a + 35)) 88 i = 0 then b else if b = -1 then i else if heightOf_ I (a + 27) i ≤ heightOf_ I (a + 27) b then b else i)) ?_) (loopN_s.symm.trans hR1); exact (by first | with_reducible rfl | (simp only [highestReady_, loopC, eq_false c8, eq_true c8d, eq_true c20, eq_false c25, eq_true c45, eq_false c45d, ↓reduceIte, if_true, if_false, decide_true, decide_false, eq_self, b2i_t, b2i_f, Bool.false_eq_true, and_true, true_and, and_false, false_and, or_true, true_or, or_false, false_or, not_true_eq_false, not_false_eq_true] <;> rfl) | simp [highestReady_, loopC, eq_false c8, eq_true c8d, eq_true c20, eq_false c25, eq_true c45, eq_false c45d]))
            · have c45d := Int32.not_le.mp c45
              refine r_iload (pc := 48) hX dX7_highestReady_48 rfl ?_
              refine r_istore_n (pc := 50) hX (L' := [_, _, _, _, _]) dX7_highestReady_50 rfl rfl (Nat.le_of_ble_eq_true rfl) ?_
              refine r_iinc (pc := 51) hX 1 (L' := [_, _, _, _, _]) dX7_highestReady_51 rfl (by decide) rfl rfl ?_
              refine r_goto (pc := 54) hX (tgt := 5) dX7_highestReady_54 (by decide) ?_
              exact ih1 _ _  (cnt_nx hm1) (by refine Eq.trans (congrArg (loopN w1 (i1 + 1) (fun i b => if ¬ at_ (I (a + 35)) 88 i = 0 then b else if b = -1 then i else if heightOf_ I (a + 27) i ≤ heightOf_ I (a + 27) b then b else i)) ?_) (loopN_s.symm.trans hR1); exact (by first | with_reducible rfl | (simp only [highestReady_, loopC, eq_false c8, eq_true c8d, eq_true c20, eq_false c25, eq_false c45, eq_true c45d, ↓reduceIte, if_true, if_false, decide_true, decide_false, eq_self, b2i_t, b2i_f, Bool.false_eq_true, and_true, true_and, and_false, false_and, or_true, true_or, or_false, false_or, not_true_eq_false, not_false_eq_true] <;> rfl) | simp [highestReady_, loopC, eq_false c8, eq_true c8d, eq_true c20, eq_false c25, eq_false c45, eq_true c45d]))
  exact hL5 (cnt (p0) (p1)) (p0) (-1)  rfl rfl
set_option maxRecDepth 100000 in
set_option maxHeartbeats 1000000 in
theorem sp_X7_placeByHeight {l : Launch} {k : im_K} {S : im_S} {I : im_I} {a m : Nat} {p0 : Int32} {p1 : Int32} (h : o_X7 S a m) : im_Runs l k 4 mX7_placeByHeight [.ref a, .int p0, .int p1] (S, I) (none) (S, placeByHeight_ I a p0 p1) := by
  refine im_run (by decide +kernel) ⟨Nat.le_refl _, Nat.le_refl _⟩ (Nat.le_of_ble_eq_true rfl) ?_
  intro X hl hX hxn hxz hxc hxs
  subst hl
  change im_E X k _ 0 [some (.ref a), some (.int p0), some (.int p1), none, none, none] [] S I
  refine r_aload_n (pc := 0) hX dX7_placeByHeight_0 rfl ?_
  refine r_iload_n (pc := 1) hX dX7_placeByHeight_1 rfl ?_
  refine r_iload_n (pc := 2) hX dX7_placeByHeight_2 rfl ?_
  refine r_callV (Z := mX7_countMissing) (t := 7) (pc := 3) hX dX7_placeByHeight_3 ml_X7_163 mX7_countMissing_w ⟨by decide, rfl⟩ (o_X7_k h) (sp_X7_countMissing h) rfl rfl (Nat.le_of_ble_eq_true rfl) (by decide) rfl (Or.inl rfl) ?_
  refine r_iload_n (pc := 6) hX dX7_placeByHeight_6 rfl ?_
  refine r_istore_n (pc := 7) hX (L' := [_, _, _, _, _, _]) dX7_placeByHeight_7 rfl rfl (Nat.le_of_ble_eq_true rfl) ?_
  have hL8 : ∀ (w1 : Nat) (i1 : Int32) (J1 : im_I), cnt i1 p1 = w1 → placeN_ a p0 p1 w1 i1 J1 = placeByHeight_ I a p0 p1 → im_E X k (im_Q X k (none) (S, placeByHeight_ I a p0 p1)) 8 [some (.ref a), some (.int p0), some (.int p1), some (.int i1), none, none] [] S J1 := by
    intro w1
    induction w1 with
    | zero =>
      intro i1 J1 hm1 hR1
      refine r_iload_n (pc := 8) hX dX7_placeByHeight_8 rfl ?_
      refine r_iload_n (pc := 9) hX dX7_placeByHeight_9 rfl ?_
      refine r_icmp_ge (pc := 10) hX 106 dX7_placeByHeight_10 (by decide) (fun c10 => ?_) (fun c10 => ?_)
      · have c10d := Int32.not_lt.mpr c10
        rw [placeN_0] at hR1
        exact r_return (pc := 106) hX dX7_placeByHeight_106 rfl rfl (by rw [← hR1])
      · have c10d := Int32.not_le.mp c10
        exact (cnt_ex hm1 c10).elim
    | succ w1 ih1 =>
      intro i1 J1 hm1 hR1
      refine r_iload_n (pc := 8) hX dX7_placeByHeight_8 rfl ?_
      refine r_iload_n (pc := 9) hX dX7_placeByHeight_9 rfl ?_
      refine r_icmp_ge (pc := 10) hX 106 dX7_placeByHeight_10 (by decide) (fun c10 => ?_) (fun c10 => ?_)
      · have c10d := Int32.not_lt.mpr c10
        exact (cnt_go hm1 c10).elim
      · have c10d := Int32.not_le.mp c10
        refine r_aload_n (pc := 13) hX dX7_placeByHeight_13 rfl ?_
        refine r_iload_n (pc := 14) hX dX7_placeByHeight_14 rfl ?_
        refine r_iload_n (pc := 15) hX dX7_placeByHeight_15 rfl ?_
        refine r_callV (Z := mX7_highestReady) (t := 7) (pc := 16) hX dX7_placeByHeight_16 ml_X7_166 mX7_highestReady_w ⟨by decide, rfl⟩ (o_X7_k h) (sp_X7_highestReady h) rfl rfl (Nat.le_of_ble_eq_true rfl) (by decide) rfl (Or.inl rfl) ?_
        refine r_istore (pc := 19) hX (L' := [_, _, _, _, _, _]) dX7_placeByHeight_19 rfl rfl (Nat.le_of_ble_eq_true rfl) ?_
        refine r_iload (pc := 21) hX dX7_placeByHeight_21 rfl ?_
        refine r_iconst (pc := 23) hX (-1) dX7_placeByHeight_23 (by decide) ?_
        refine r_icmp_ne (pc := 24) hX 28 dX7_placeByHeight_24 (by decide) (fun c24 => ?_) (fun c24 => ?_)
        · refine r_aload_n (pc := 28) hX dX7_placeByHeight_28 rfl ?_
          refine r_getr (pc := 29) hX dX7_placeByHeight_29 fl_X7_31 rfl (o_X7_k h) (o_X7_r1 h) ?_
          refine r_aload_n (pc := 32) hX dX7_placeByHeight_32 rfl ?_
          refine r_getr (pc := 33) hX dX7_placeByHeight_33 fl_X7_48 rfl (o_X7_k h) (o_X7_r6 h) ?_
          refine r_iload (pc := 36) hX dX7_placeByHeight_36 rfl ?_
          refine r_callV (Z := mX3_addCopy) (t := 3) (pc := 38) hX dX7_placeByHeight_38 ml_X7_159 mX3_addCopy_w ⟨by decide, rfl⟩ (o_X3_k (o_X7_o1 h)) (sp_X3_addCopy (o_X7_o1 h) (o_X7_o6 h)) rfl rfl (Nat.le_of_ble_eq_true rfl) (by decide) rfl (Or.inl rfl) ?_
          refine r_aload_n (pc := 41) hX dX7_placeByHeight_41 rfl ?_
          refine r_getr (pc := 42) hX dX7_placeByHeight_42 fl_X7_54 rfl (o_X7_k h) (o_X7_r8 h) ?_
          refine r_iload (pc := 45) hX dX7_placeByHeight_45 rfl ?_
          refine r_iconst (pc := 47) hX (-1) dX7_placeByHeight_47 (by decide) ?_
          refine r_callSN (Z := mX11_put) (pc := 48) hX dX7_placeByHeight_48 mn_X7_77 mX11_put_w (sp_X11_put (o_X7_a8 h)) rfl rfl (Nat.le_of_ble_eq_true rfl) (by decide) rfl (Or.inl rfl) ?_
          refine r_iload (pc := 51) hX dX7_placeByHeight_51 rfl ?_
          refine r_iconst (pc := 53) hX 1 dX7_placeByHeight_53 (by decide) ?_
          refine r_iadd (pc := 54) hX dX7_placeByHeight_54 ?_
          refine r_istore (pc := 55) hX (L' := [_, _, _, _, _, _]) dX7_placeByHeight_55 rfl rfl (Nat.le_of_ble_eq_true rfl) ?_
          have hL57 : ∀ (w2 : Nat) (i2 : Int32) (J2 : im_I), cnt i2 (p1) = w2 → loopN w2 i2 (lessOne_ a (highestReady_ J1 a p0 p1)) J2 = loopN (cnt (highestReady_ J1 a p0 p1 + 1) (p1)) (highestReady_ J1 a p0 p1 + 1) (lessOne_ a (highestReady_ J1 a p0 p1)) (put_ (addCopy_ J1 (a + 10) (a + 27) (highestReady_ J1 a p0 p1)) (a + 35) 88 (highestReady_ J1 a p0 p1) (-1)) → im_E X k (im_Q X k (none) (S, placeByHeight_ I a p0 p1)) 57 [some (.ref a), some (.int p0), some (.int p1), some (.int i1), some (.int (highestReady_ J1 a p0 p1)), some (.int i2)] [] S J2 := by
            intro w2
            induction w2 with
            | zero =>
              intro i2 J2  hm2 hR2
              refine r_iload (pc := 57) hX dX7_placeByHeight_57 rfl ?_
              refine r_iload_n (pc := 59) hX dX7_placeByHeight_59 rfl ?_
              refine r_icmp_ge (pc := 60) hX 100 dX7_placeByHeight_60 (by decide) (fun c60 => ?_) (fun c60 => ?_)
              · have c60d := Int32.not_lt.mpr c60
                rw [loopN_0] at hR2
                subst hR2
                refine r_iinc (pc := 100) hX 1 (L' := [_, _, _, _, _, _]) dX7_placeByHeight_100 rfl (by decide) rfl rfl ?_
                refine r_goto (pc := 103) hX (tgt := 8) dX7_placeByHeight_103 (by decide) ?_
                refine r_weak (L' := [some _, some _, some _, some _, none, none]) (And.intro rfl (And.intro rfl (And.intro rfl (And.intro rfl trivial)))) ?_
                refine r_mem (I' := loopC (highestReady_ J1 a p0 p1 + 1) p1 (lessOne_ a (highestReady_ J1 a p0 p1)) (put_ (addCopy_ J1 (a + 10) (a + 27) (highestReady_ J1 a p0 p1)) (a + 35) 88 (highestReady_ J1 a p0 p1) (-1))) (by first | with_reducible rfl | (simp only [placeByHeight_, lessOne_, loopC, eq_false c10, eq_true c10d, eq_false c24, eq_true c60, eq_false c60d, ↓reduceIte, if_true, if_false, decide_true, decide_false, eq_self, b2i_t, b2i_f, Bool.false_eq_true, and_true, true_and, and_false, false_and, or_true, true_or, or_false, false_or, not_true_eq_false, not_false_eq_true] <;> rfl) | simp [placeByHeight_, lessOne_, loopC, eq_false c10, eq_true c10d, eq_false c24, eq_true c60, eq_false c60d]) ?_
                exact ih1 _ _ (cnt_nx hm1) (by rw [placeN_s, if_neg c24] at hR1; exact hR1)
              · have c60d := Int32.not_le.mp c60
                exact (cnt_ex hm2  c60).elim
            | succ w2 ih2 =>
              intro i2 J2  hm2 hR2
              refine r_iload (pc := 57) hX dX7_placeByHeight_57 rfl ?_
              refine r_iload_n (pc := 59) hX dX7_placeByHeight_59 rfl ?_
              refine r_icmp_ge (pc := 60) hX 100 dX7_placeByHeight_60 (by decide) (fun c60 => ?_) (fun c60 => ?_)
              · have c60d := Int32.not_lt.mpr c60
                exact (cnt_go hm2  c60).elim
              · have c60d := Int32.not_le.mp c60
                refine r_aload_n (pc := 63) hX dX7_placeByHeight_63 rfl ?_
                refine r_iload (pc := 64) hX dX7_placeByHeight_64 rfl ?_
                refine r_iload (pc := 66) hX dX7_placeByHeight_66 rfl ?_
                refine r_callV (Z := mX7_isNeeding) (t := 7) (pc := 68) hX dX7_placeByHeight_68 ml_X7_148 mX7_isNeeding_w ⟨by decide, rfl⟩ (o_X7_k h) (sp_X7_isNeeding h) rfl rfl (Nat.le_of_ble_eq_true rfl) (by decide) rfl (Or.inl rfl) ?_
                refine r_if_eq (pc := 71) hX 94 dX7_placeByHeight_71 (by decide) (fun c71 => ?_) (fun c71 => ?_)
                · replace c71 := b2i_0 c71
                  refine r_iinc (pc := 94) hX 1 (L' := [_, _, _, _, _, _]) dX7_placeByHeight_94 rfl (by decide) rfl rfl ?_
                  refine r_goto (pc := 97) hX (tgt := 57) dX7_placeByHeight_97 (by decide) ?_
                  refine r_mem (I' := (lessOne_ a (highestReady_ J1 a p0 p1)) i2 J2) (by first | with_reducible rfl | (simp only [placeByHeight_, lessOne_, loopC, eq_false c10, eq_true c10d, eq_false c24, eq_false c60, eq_true c60d, c71, ↓reduceIte, if_true, if_false, decide_true, decide_false, eq_self, b2i_t, b2i_f, Bool.false_eq_true, and_true, true_and, and_false, false_and, or_true, true_or, or_false, false_or, not_true_eq_false, not_false_eq_true] <;> rfl) | simp [placeByHeight_, lessOne_, loopC, eq_false c10, eq_true c10d, eq_false c24, eq_false c60, eq_true c60d, c71]) ?_
                  exact ih2 _ _  (cnt_nx hm2) (loopN_s.symm.trans hR2)
                · replace c71 := b2i_1 c71
                  refine r_aload_n (pc := 74) hX dX7_placeByHeight_74 rfl ?_
                  refine r_getr (pc := 75) hX dX7_placeByHeight_75 fl_X7_54 rfl (o_X7_k h) (o_X7_r8 h) ?_
                  refine r_iload (pc := 78) hX dX7_placeByHeight_78 rfl ?_
                  refine r_aload_n (pc := 80) hX dX7_placeByHeight_80 rfl ?_
                  refine r_getr (pc := 81) hX dX7_placeByHeight_81 fl_X7_54 rfl (o_X7_k h) (o_X7_r8 h) ?_
                  refine r_iload (pc := 84) hX dX7_placeByHeight_84 rfl ?_
                  refine r_callSN (Z := mX11_at) (pc := 86) hX dX7_placeByHeight_86 mn_X7_69 mX11_at_w (sp_X11_at (o_X7_a8 h)) rfl rfl (Nat.le_of_ble_eq_true rfl) (by decide) rfl (Or.inl rfl) ?_
                  refine r_iconst (pc := 89) hX 1 dX7_placeByHeight_89 (by decide) ?_
                  refine r_isub (pc := 90) hX dX7_placeByHeight_90 ?_
                  refine r_callSN (Z := mX11_put) (pc := 91) hX dX7_placeByHeight_91 mn_X7_77 mX11_put_w (sp_X11_put (o_X7_a8 h)) rfl rfl (Nat.le_of_ble_eq_true rfl) (by decide) rfl (Or.inl rfl) ?_
                  refine r_iinc (pc := 94) hX 1 (L' := [_, _, _, _, _, _]) dX7_placeByHeight_94 rfl (by decide) rfl rfl ?_
                  refine r_goto (pc := 97) hX (tgt := 57) dX7_placeByHeight_97 (by decide) ?_
                  refine r_mem (I' := (lessOne_ a (highestReady_ J1 a p0 p1)) i2 J2) (by first | with_reducible rfl | (simp only [placeByHeight_, lessOne_, loopC, eq_false c10, eq_true c10d, eq_false c24, eq_false c60, eq_true c60d, c71, ↓reduceIte, if_true, if_false, decide_true, decide_false, eq_self, b2i_t, b2i_f, Bool.false_eq_true, and_true, true_and, and_false, false_and, or_true, true_or, or_false, false_or, not_true_eq_false, not_false_eq_true] <;> rfl) | simp [placeByHeight_, lessOne_, loopC, eq_false c10, eq_true c10d, eq_false c24, eq_false c60, eq_true c60d, c71]) ?_
                  exact ih2 _ _  (cnt_nx hm2) (loopN_s.symm.trans hR2)
          exact hL57 (cnt (highestReady_ J1 a p0 p1 + 1) (p1)) (highestReady_ J1 a p0 p1 + 1) (put_ (addCopy_ J1 (a + 10) (a + 27) (highestReady_ J1 a p0 p1)) (a + 35) 88 (highestReady_ J1 a p0 p1) (-1))  rfl rfl
        · rw [placeN_s, if_pos c24] at hR1
          exact r_return (pc := 27) hX dX7_placeByHeight_27 rfl rfl (by rw [← hR1])
  exact hL8 _ _ _ rfl rfl
