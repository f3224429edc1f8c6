/-! walks, by program out of spec6.py -/
set_option maxRecDepth 100000 in
set_option maxHeartbeats 1000000 in
theorem sp_X4_measure {l : Launch} {k : im_K} {S : im_S} {I : im_I} {a : Nat} {b0 : Nat} {x1 n1 : Nat} (h : o_X4 S a) (hb0 : o_X3 S b0) (hx1 : im_k S x1 = (20, n1)) (hn : n1 < 2 ^ 31 := by first | decide | assumption) (hb : b0 < a ∨ a + 8 < b0) : im_Runs l k 4 mX4_measure [.ref a, .ref b0, .ref x1] (S, I) (none) (S, measure_ I a b0 x1 n1) := by
  refine im_run (by decide +kernel) ⟨Nat.le_refl _, Nat.le_refl _⟩ (Nat.le_of_ble_eq_true rfl) ?_
  intro X hl hX hxn hxz hxc hxs
  subst hl
  change im_E X k _ 0 [some (.ref a), some (.ref b0), some (.ref x1), none] [] S I
  refine r_aload_n (pc := 0) hX dX4_measure_0 rfl ?_
  refine r_iconst (pc := 1) hX 0 dX4_measure_1 (by decide) ?_
  refine r_puti (pc := 2) hX dX4_measure_2 fl_X4_40 rfl rfl (o_X4_k h) ?_
  refine r_aload_n (pc := 5) hX dX4_measure_5 rfl ?_
  refine r_iconst (pc := 6) hX 0 dX4_measure_6 (by decide) ?_
  refine r_puti (pc := 7) hX dX4_measure_7 fl_X4_44 rfl rfl (o_X4_k h) ?_
  refine r_aload_n (pc := 10) hX dX4_measure_10 rfl ?_
  refine r_iconst (pc := 11) hX 0 dX4_measure_11 (by decide) ?_
  refine r_puti (pc := 12) hX dX4_measure_12 fl_X4_47 rfl rfl (o_X4_k h) ?_
  refine r_aload_n (pc := 15) hX dX4_measure_15 rfl ?_
  refine r_getr (pc := 16) hX dX4_measure_16 fl_X4_15 rfl (o_X4_k h) (o_X4_r4 h) ?_
  refine r_iconst (pc := 19) hX (-1) dX4_measure_19 (by decide) ?_
  refine r_callSN (Z := mX11_fill) (pc := 20) hX dX4_measure_20 mn_X4_50 mX11_fill_w (sp_X11_fill (o_X4_a4 h)) rfl rfl (Nat.le_of_ble_eq_true rfl) (by decide) rfl (Or.inl rfl) ?_
  refine r_aload_n (pc := 23) hX dX4_measure_23 rfl ?_
  refine r_getr (pc := 24) hX dX4_measure_24 fl_X4_22 rfl (o_X4_k h) (o_X4_r6 h) ?_
  refine r_iconst (pc := 27) hX 0 dX4_measure_27 (by decide) ?_
  refine r_callSN (Z := mX11_fill) (pc := 28) hX dX4_measure_28 mn_X4_50 mX11_fill_w (sp_X11_fill (o_X4_a6 h)) rfl rfl (Nat.le_of_ble_eq_true rfl) (by decide) rfl (Or.inl rfl) ?_
  refine r_aload_n (pc := 31) hX dX4_measure_31 rfl ?_
  refine r_getr (pc := 32) hX dX4_measure_32 fl_X4_28 rfl (o_X4_k h) (o_X4_r8 h) ?_
  refine r_iconst (pc := 35) hX 0 dX4_measure_35 (by decide) ?_
  refine r_callSN (Z := mX11_fill) (pc := 36) hX dX4_measure_36 mn_X4_50 mX11_fill_w (sp_X11_fill (o_X4_a8 h)) rfl rfl (Nat.le_of_ble_eq_true rfl) (by decide) rfl (Or.inl rfl) ?_
  refine r_aload_n (pc := 39) hX dX4_measure_39 rfl ?_
  refine r_getr (pc := 40) hX dX4_measure_40 fl_X4_31 rfl (o_X4_k h) (o_X4_r9 h) ?_
  refine r_iconst (pc := 43) hX 0 dX4_measure_43 (by decide) ?_
  refine r_callSN (Z := mX11_fill) (pc := 44) hX dX4_measure_44 mn_X4_50 mX11_fill_w (sp_X11_fill (o_X4_a9 h)) rfl rfl (Nat.le_of_ble_eq_true rfl) (by decide) rfl (Or.inl rfl) ?_
  refine r_iconst (pc := 47) hX 0 dX4_measure_47 (by decide) ?_
  refine r_istore_n (pc := 48) hX (L' := [_, _, _, _]) dX4_measure_48 rfl rfl (Nat.le_of_ble_eq_true rfl) ?_
  have hL49 : ∀ (w1 : Nat) (i1 : Int32) (J1 : im_I), J1 b0 0 = I b0 0 → cnt i1 (I b0 0) = w1 → loopN w1 i1 (fun i J => touch_ J a b0 i) J1 = loopN (cnt (0) (I b0 0)) (0) (fun i J => touch_ J a b0 i) (measure0_ I a) → im_E X k (im_Q X k (none) (S, measure_ I a b0 x1 n1)) 49 [some (.ref a), some (.ref b0), some (.ref x1), some (.int i1)] [] S J1 := by
    intro w1
    induction w1 with
    | zero =>
      intro i1 J1 hf1 hm1 hR1
      refine r_iload_n (pc := 49) hX dX4_measure_49 rfl ?_
      refine r_aload_n (pc := 50) hX dX4_measure_50 rfl ?_
      refine r_geti (pc := 51) hX dX4_measure_51 fl_X4_54 rfl (o_X3_k hb0) ?_
      refine r_icmp_ge (pc := 54) hX 69 dX4_measure_54 (by decide) (fun c54 => ?_) (fun c54 => ?_)
      · have c54d := Int32.not_lt.mpr c54
        rw [loopN_0] at hR1
        subst hR1
        refine r_iconst (pc := 69) hX 0 dX4_measure_69 (by decide) ?_
        refine r_istore_n (pc := 70) hX (L' := [_, _, _, _]) dX4_measure_70 rfl rfl (Nat.le_of_ble_eq_true rfl) ?_
        have hL71 : ∀ (w2 : Nat) (i2 : Int32) (J2 : im_I), J2 a 0 = measure1_ I a b0 a 0 → cnt i2 (measure1_ I a b0 a 0) = w2 → loopN w2 i2 (measureOne_ a b0 x1 n1) J2 = loopN (cnt (0) (measure1_ I a b0 a 0)) (0) (measureOne_ a b0 x1 n1) (measure1_ I a b0) → im_E X k (im_Q X k (none) (S, measure_ I a b0 x1 n1)) 71 [some (.ref a), some (.ref b0), some (.ref x1), some (.int i2)] [] S J2 := by
          intro w2
          induction w2 with
          | zero =>
            intro i2 J2 hf2 hm2 hR2
            refine r_iload_n (pc := 71) hX dX4_measure_71 rfl ?_
            refine r_aload_n (pc := 72) hX dX4_measure_72 rfl ?_
            refine r_geti (pc := 73) hX dX4_measure_73 fl_X4_40 rfl (o_X4_k h) ?_
            refine r_icmp_ge (pc := 76) hX 144 dX4_measure_76 (by decide) (fun c76 => ?_) (fun c76 => ?_)
            · have c76d := Int32.not_lt.mpr c76
              rw [loopN_0] at hR2
              subst hR2
              exact r_return (pc := 144) hX dX4_measure_144 rfl rfl (by first | with_reducible rfl | (simp only [measure_, measure1_, loopC, eq_true c54, eq_false c54d, eq_true c76, eq_false c76d, ↓reduceIte, if_true, if_false, decide_true, decide_false, eq_self, b2i_t, b2i_f, Bool.false_eq_true, and_true, true_and, and_false, false_and, or_true, true_or, or_false, false_or, not_true_eq_false, not_false_eq_true] <;> rfl) | simp [measure_, measure1_, loopC, eq_true c54, eq_false c54d, eq_true c76, eq_false c76d])
            · have c76d := Int32.not_le.mp c76
              rw [hf2] at c76; exact (cnt_ex hm2  c76).elim
          | succ w2 ih2 =>
            intro i2 J2 hf2 hm2 hR2
            refine r_iload_n (pc := 71) hX dX4_measure_71 rfl ?_
            refine r_aload_n (pc := 72) hX dX4_measure_72 rfl ?_
            refine r_geti (pc := 73) hX dX4_measure_73 fl_X4_40 rfl (o_X4_k h) ?_
            refine r_icmp_ge (pc := 76) hX 144 dX4_measure_76 (by decide) (fun c76 => ?_) (fun c76 => ?_)
            · have c76d := Int32.not_lt.mpr c76
              rw [hf2] at c76; exact (cnt_go hm2  c76).elim
            · have c76d := Int32.not_le.mp c76
              refine r_aload_n (pc := 79) hX dX4_measure_79 rfl ?_
              refine r_iload_n (pc := 80) hX dX4_measure_80 rfl ?_
              refine r_callV (Z := mX4_isLiving) (t := 4) (pc := 81) hX dX4_measure_81 ml_X4_63 mX4_isLiving_w ⟨by decide, rfl⟩ (o_X4_k h) (sp_X4_isLiving h) rfl rfl (Nat.le_of_ble_eq_true rfl) (by decide) rfl (Or.inl rfl) ?_
              refine r_if_eq (pc := 84) hX 138 dX4_measure_84 (by decide) (fun c84 => ?_) (fun c84 => ?_)
              · replace c84 := b2i_0 c84
                refine r_iinc (pc := 138) hX 1 (L' := [_, _, _, _]) dX4_measure_138 rfl (by decide) rfl rfl ?_
                refine r_goto (pc := 141) hX (tgt := 71) dX4_measure_141 (by decide) ?_
                refine r_mem (I' := (measureOne_ a b0 x1 n1) i2 J2) (by first | with_reducible rfl | (simp only [measureOne_, eq_true c54, eq_false c54d, eq_false c76, eq_true c76d, c84, ↓reduceIte, if_true, if_false, decide_true, decide_false, eq_self, b2i_t, b2i_f, Bool.false_eq_true, and_true, true_and, and_false, false_and, or_true, true_or, or_false, false_or, not_true_eq_false, not_false_eq_true] <;> rfl) | simp [measureOne_, eq_true c54, eq_false c54d, eq_false c76, eq_true c76d, c84]) ?_
                exact ih2 _ _ (measureOne_0.trans hf2) (cnt_nx hm2) (loopN_s.symm.trans hR2)
              · replace c84 := b2i_1 c84
                refine r_aload_n (pc := 87) hX dX4_measure_87 rfl ?_
                refine r_dup (pc := 88) hX dX4_measure_88 rfl ?_
                refine r_geti (pc := 89) hX dX4_measure_89 fl_X4_44 rfl (o_X4_k h) ?_
                refine r_iconst (pc := 92) hX 1 dX4_measure_92 (by decide) ?_
                refine r_iadd (pc := 93) hX dX4_measure_93 ?_
                refine r_puti (pc := 94) hX dX4_measure_94 fl_X4_44 rfl rfl (o_X4_k h) ?_
                refine r_aload_n (pc := 97) hX dX4_measure_97 rfl ?_
                refine r_getr (pc := 98) hX dX4_measure_98 fl_X4_19 rfl (o_X4_k h) (o_X4_r5 h) ?_
                refine r_iload_n (pc := 101) hX dX4_measure_101 rfl ?_
                refine r_aload_n (pc := 102) hX dX4_measure_102 rfl ?_
                refine r_iload_n (pc := 103) hX dX4_measure_103 rfl ?_
                refine r_aload_n (pc := 104) hX dX4_measure_104 rfl ?_
                refine r_aload_n (pc := 105) hX dX4_measure_105 rfl ?_
                refine r_callV (Z := mX4_endOf) (t := 4) (pc := 106) hX dX4_measure_106 ml_X4_67 mX4_endOf_w ⟨by decide, rfl⟩ (o_X4_k h) (sp_X4_endOf h hb0 hx1) rfl rfl (Nat.le_of_ble_eq_true rfl) (by decide) rfl (Or.inl rfl) ?_
                refine r_callSN (Z := mX11_put) (pc := 109) hX dX4_measure_109 mn_X4_71 mX11_put_w (sp_X11_put (o_X4_a5 h)) rfl rfl (Nat.le_of_ble_eq_true rfl) (by decide) rfl (Or.inl rfl) ?_
                refine r_aload_n (pc := 112) hX dX4_measure_112 rfl ?_
                refine r_getr (pc := 113) hX dX4_measure_113 fl_X4_25 rfl (o_X4_k h) (o_X4_r7 h) ?_
                refine r_iload_n (pc := 116) hX dX4_measure_116 rfl ?_
                refine r_aload_n (pc := 117) hX dX4_measure_117 rfl ?_
                refine r_iload_n (pc := 118) hX dX4_measure_118 rfl ?_
                refine r_callV (Z := mX4_weigh) (t := 4) (pc := 119) hX dX4_measure_119 ml_X4_75 mX4_weigh_w ⟨by decide, rfl⟩ (o_X4_k h) (sp_X4_weigh h) rfl rfl (Nat.le_of_ble_eq_true rfl) (by decide) rfl (Or.inl rfl) ?_
                refine r_callSN (Z := mX11_put) (pc := 122) hX dX4_measure_122 mn_X4_71 mX11_put_w (sp_X11_put (o_X4_a7 h)) rfl rfl (Nat.le_of_ble_eq_true rfl) (by decide) rfl (Or.inl rfl) ?_
                refine r_aload_n (pc := 125) hX dX4_measure_125 rfl ?_
                refine r_getr (pc := 126) hX dX4_measure_126 fl_X4_34 rfl (o_X4_k h) (o_X4_r10 h) ?_
                refine r_iload_n (pc := 129) hX dX4_measure_129 rfl ?_
                refine r_aload_n (pc := 130) hX dX4_measure_130 rfl ?_
                refine r_iload_n (pc := 131) hX dX4_measure_131 rfl ?_
                refine r_callV (Z := mX4_countCrossed) (t := 4) (pc := 132) hX dX4_measure_132 ml_X4_79 mX4_countCrossed_w ⟨by decide, rfl⟩ (o_X4_k h) (sp_X4_countCrossed h) rfl rfl (Nat.le_of_ble_eq_true rfl) (by decide) rfl (Or.inl rfl) ?_
                refine r_callSN (Z := mX11_put) (pc := 135) hX dX4_measure_135 mn_X4_71 mX11_put_w (sp_X11_put (o_X4_a10 h)) rfl rfl (Nat.le_of_ble_eq_true rfl) (by decide) rfl (Or.inl rfl) ?_
                refine r_iinc (pc := 138) hX 1 (L' := [_, _, _, _]) dX4_measure_138 rfl (by decide) rfl rfl ?_
                refine r_goto (pc := 141) hX (tgt := 71) dX4_measure_141 (by decide) ?_
                refine r_mem (I' := (measureOne_ a b0 x1 n1) i2 J2) (by first | with_reducible rfl | (simp only [measureOne_, eq_true c54, eq_false c54d, eq_false c76, eq_true c76d, c84, ↓reduceIte, if_true, if_false, decide_true, decide_false, eq_self, b2i_t, b2i_f, Bool.false_eq_true, and_true, true_and, and_false, false_and, or_true, true_or, or_false, false_or, not_true_eq_false, not_false_eq_true] <;> rfl) | simp [measureOne_, eq_true c54, eq_false c54d, eq_false c76, eq_true c76d, c84]) ?_
                exact ih2 _ _ (measureOne_0.trans hf2) (cnt_nx hm2) (loopN_s.symm.trans hR2)
        refine r_mem (I' := measure1_ I a b0) (by simp only [measure1_, loopC]) ?_
        exact hL71 (cnt (0) (measure1_ I a b0 a 0)) (0) (measure1_ I a b0) rfl rfl rfl
      · have c54d := Int32.not_le.mp c54
        rw [hf1] at c54; exact (cnt_ex hm1  c54).elim
    | succ w1 ih1 =>
      intro i1 J1 hf1 hm1 hR1
      refine r_iload_n (pc := 49) hX dX4_measure_49 rfl ?_
      refine r_aload_n (pc := 50) hX dX4_measure_50 rfl ?_
      refine r_geti (pc := 51) hX dX4_measure_51 fl_X4_54 rfl (o_X3_k hb0) ?_
      refine r_icmp_ge (pc := 54) hX 69 dX4_measure_54 (by decide) (fun c54 => ?_) (fun c54 => ?_)
      · have c54d := Int32.not_lt.mpr c54
        rw [hf1] at c54; exact (cnt_go hm1  c54).elim
      · have c54d := Int32.not_le.mp c54
        refine r_aload_n (pc := 57) hX dX4_measure_57 rfl ?_
        refine r_aload_n (pc := 58) hX dX4_measure_58 rfl ?_
        refine r_iload_n (pc := 59) hX dX4_measure_59 rfl ?_
        refine r_callV (Z := mX4_touch) (t := 4) (pc := 60) hX dX4_measure_60 ml_X4_59 mX4_touch_w ⟨by decide, rfl⟩ (o_X4_k h) (sp_X4_touch h hb0) rfl rfl (Nat.le_of_ble_eq_true rfl) (by decide) rfl (Or.inl rfl) ?_
        refine r_iinc (pc := 63) hX 1 (L' := [_, _, _, _]) dX4_measure_63 rfl (by decide) rfl rfl ?_
        refine r_goto (pc := 66) hX (tgt := 49) dX4_measure_66 (by decide) ?_
        refine r_mem (I' := (fun i J => touch_ J a b0 i) i1 J1) (by first | with_reducible rfl | (simp only [measureOne_, eq_false c54, eq_true c54d, ↓reduceIte, if_true, if_false, decide_true, decide_false, eq_self, b2i_t, b2i_f, Bool.false_eq_true, and_true, true_and, and_false, false_and, or_true, true_or, or_false, false_or, not_true_eq_false, not_false_eq_true] <;> rfl) | simp [measureOne_, eq_false c54, eq_true c54d]) ?_
        exact ih1 _ _ ((congrFun (touch_fr hb) 0).trans hf1) (cnt_nx hm1) (loopN_s.symm.trans hR1)
  exact hL49 (cnt (0) (I b0 0)) (0) (measure0_ I a) (congrFun (measure0_fr hb) 0) rfl rfl
