/-! walks, by program out of spec3.py -/
set_option maxRecDepth 100000 in
set_option maxHeartbeats 1000000 in
theorem sp_X6_valueOf {l : Launch} {k : im_K} {S : im_S} {I : im_I} {a : Nat} {p0 : Int32} (h : o_X6 S a) : im_Runs l k 1 mX6_valueOf [.ref a, .int p0] (S, I) (some (.int (valueOf_ I a p0))) (S, I) := by
  refine im_run (by decide +kernel) ⟨Nat.le_refl _, Nat.le_refl _⟩ (Nat.le_of_ble_eq_true rfl) ?_
  intro X hl hX hxn hxz hxc hxs
  subst hl
  change im_E X k _ 0 [some (.ref a), some (.int p0), none, none] [] S I
  refine r_aload_n (pc := 0) hX dX6_valueOf_0 rfl ?_
  refine r_getr (pc := 1) hX dX6_valueOf_1 fl_X6_9 rfl (o_X6_k h) (o_X6_r2 h) ?_
  refine r_getr (pc := 4) hX dX6_valueOf_4 fl_X6_57 rfl (o_X8_k (o_X6_o2 h)) (o_X8_r5 (o_X6_o2 h)) ?_
  refine r_iload_n (pc := 7) hX dX6_valueOf_7 rfl ?_
  refine r_callSN (Z := mX11_at) (pc := 8) hX dX6_valueOf_8 mn_X6_53 mX11_at_w (sp_X11_at (o_X8_a5 (o_X6_o2 h))) rfl rfl (Nat.le_of_ble_eq_true rfl) (by decide) rfl (Or.inl rfl) ?_
  refine r_istore_n (pc := 11) hX (L' := [_, _, _, _]) dX6_valueOf_11 rfl rfl (Nat.le_of_ble_eq_true rfl) ?_
  refine r_aload_n (pc := 12) hX dX6_valueOf_12 rfl ?_
  refine r_getr (pc := 13) hX dX6_valueOf_13 fl_X6_9 rfl (o_X6_k h) (o_X6_r2 h) ?_
  refine r_getr (pc := 16) hX dX6_valueOf_16 fl_X6_60 rfl (o_X8_k (o_X6_o2 h)) (o_X8_r6 (o_X6_o2 h)) ?_
  refine r_iload_n (pc := 19) hX dX6_valueOf_19 rfl ?_
  refine r_callSN (Z := mX11_at) (pc := 20) hX dX6_valueOf_20 mn_X6_53 mX11_at_w (sp_X11_at (o_X8_a6 (o_X6_o2 h))) rfl rfl (Nat.le_of_ble_eq_true rfl) (by decide) rfl (Or.inl rfl) ?_
  refine r_istore_n (pc := 23) hX (L' := [_, _, _, _]) dX6_valueOf_23 rfl rfl (Nat.le_of_ble_eq_true rfl) ?_
  refine r_aload_n (pc := 24) hX dX6_valueOf_24 rfl ?_
  refine r_getr (pc := 25) hX dX6_valueOf_25 fl_X6_9 rfl (o_X6_k h) (o_X6_r2 h) ?_
  refine r_getr (pc := 28) hX dX6_valueOf_28 fl_X6_63 rfl (o_X8_k (o_X6_o2 h)) (o_X8_r4 (o_X6_o2 h)) ?_
  refine r_iload_n (pc := 31) hX dX6_valueOf_31 rfl ?_
  refine r_callSN (Z := mX11_at) (pc := 32) hX dX6_valueOf_32 mn_X6_53 mX11_at_w (sp_X11_at (o_X8_a4 (o_X6_o2 h))) rfl rfl (Nat.le_of_ble_eq_true rfl) (by decide) rfl (Or.inl rfl) ?_
  by_cases c35_0 : at_ (I (3 + 2)) 80 p0 = 0
  · refine r_tsIn (pc := 35) hX 68 dX6_valueOf_35 (by rw [c35_0]; decide) (by rw [c35_0]; decide) (by rw [c35_0]; rfl) (by decide) ?_
    refine r_iload_n (pc := 68) hX dX6_valueOf_68 rfl ?_
    exact r_ireturn (pc := 69) hX dX6_valueOf_69 rfl rfl (by first | with_reducible rfl | (simp only [valueOf_, eq_true c35_0, ↓reduceIte, if_true, if_false, decide_true, decide_false, eq_self, b2i_t, b2i_f, Bool.false_eq_true, and_true, true_and, and_false, false_and, or_true, true_or, or_false, false_or, not_true_eq_false, not_false_eq_true] <;> rfl) | simp [valueOf_, eq_true c35_0]) rfl
  by_cases c35_1 : at_ (I (3 + 2)) 80 p0 = 1
  · refine r_tsIn (pc := 35) hX 70 dX6_valueOf_35 (by rw [c35_1]; decide) (by rw [c35_1]; decide) (by rw [c35_1]; rfl) (by decide) ?_
    refine r_aload_n (pc := 70) hX dX6_valueOf_70 rfl ?_
    refine r_getr (pc := 71) hX dX6_valueOf_71 fl_X6_15 rfl (o_X6_k h) (o_X6_r0 h) ?_
    refine r_iload_n (pc := 74) hX dX6_valueOf_74 rfl ?_
    refine r_callSN (Z := mX11_at) (pc := 75) hX dX6_valueOf_75 mn_X6_53 mX11_at_w (sp_X11_at (o_X6_a0 h)) rfl rfl (Nat.le_of_ble_eq_true rfl) (by decide) rfl (Or.inl rfl) ?_
    exact r_ireturn (pc := 78) hX dX6_valueOf_78 rfl rfl (by first | with_reducible rfl | (simp only [valueOf_, eq_false c35_0, eq_true c35_1, ↓reduceIte, if_true, if_false, decide_true, decide_false, eq_self, b2i_t, b2i_f, Bool.false_eq_true, and_true, true_and, and_false, false_and, or_true, true_or, or_false, false_or, not_true_eq_false, not_false_eq_true] <;> rfl) | simp [valueOf_, eq_false c35_0, eq_true c35_1]) rfl
  by_cases c35_2 : at_ (I (3 + 2)) 80 p0 = 2
  · refine r_tsIn (pc := 35) hX 79 dX6_valueOf_35 (by rw [c35_2]; decide) (by rw [c35_2]; decide) (by rw [c35_2]; rfl) (by decide) ?_
    refine r_aload_n (pc := 79) hX dX6_valueOf_79 rfl ?_
    refine r_getr (pc := 80) hX dX6_valueOf_80 fl_X6_19 rfl (o_X6_k h) (o_X6_r1 h) ?_
    refine r_iload_n (pc := 83) hX dX6_valueOf_83 rfl ?_
    refine r_callSN (Z := mX11_at) (pc := 84) hX dX6_valueOf_84 mn_X6_53 mX11_at_w (sp_X11_at (o_X6_a1 h)) rfl rfl (Nat.le_of_ble_eq_true rfl) (by decide) rfl (Or.inl rfl) ?_
    refine r_aload_n (pc := 87) hX dX6_valueOf_87 rfl ?_
    refine r_getr (pc := 88) hX dX6_valueOf_88 fl_X6_19 rfl (o_X6_k h) (o_X6_r1 h) ?_
    refine r_iload_n (pc := 91) hX dX6_valueOf_91 rfl ?_
    refine r_callSN (Z := mX11_at) (pc := 92) hX dX6_valueOf_92 mn_X6_53 mX11_at_w (sp_X11_at (o_X6_a1 h)) rfl rfl (Nat.le_of_ble_eq_true rfl) (by decide) rfl (Or.inl rfl) ?_
    refine r_iadd (pc := 95) hX dX6_valueOf_95 ?_
    exact r_ireturn (pc := 96) hX dX6_valueOf_96 rfl rfl (by first | with_reducible rfl | (simp only [valueOf_, eq_false c35_0, eq_false c35_1, eq_true c35_2, ↓reduceIte, if_true, if_false, decide_true, decide_false, eq_self, b2i_t, b2i_f, Bool.false_eq_true, and_true, true_and, and_false, false_and, or_true, true_or, or_false, false_or, not_true_eq_false, not_false_eq_true] <;> rfl) | simp [valueOf_, eq_false c35_0, eq_false c35_1, eq_true c35_2]) rfl
  by_cases c35_3 : at_ (I (3 + 2)) 80 p0 = 3
  · refine r_tsIn (pc := 35) hX 97 dX6_valueOf_35 (by rw [c35_3]; decide) (by rw [c35_3]; decide) (by rw [c35_3]; rfl) (by decide) ?_
    refine r_aload_n (pc := 97) hX dX6_valueOf_97 rfl ?_
    refine r_getr (pc := 98) hX dX6_valueOf_98 fl_X6_19 rfl (o_X6_k h) (o_X6_r1 h) ?_
    refine r_iload_n (pc := 101) hX dX6_valueOf_101 rfl ?_
    refine r_callSN (Z := mX11_at) (pc := 102) hX dX6_valueOf_102 mn_X6_53 mX11_at_w (sp_X11_at (o_X6_a1 h)) rfl rfl (Nat.le_of_ble_eq_true rfl) (by decide) rfl (Or.inl rfl) ?_
    refine r_aload_n (pc := 105) hX dX6_valueOf_105 rfl ?_
    refine r_getr (pc := 106) hX dX6_valueOf_106 fl_X6_19 rfl (o_X6_k h) (o_X6_r1 h) ?_
    refine r_iload_n (pc := 109) hX dX6_valueOf_109 rfl ?_
    refine r_callSN (Z := mX11_at) (pc := 110) hX dX6_valueOf_110 mn_X6_53 mX11_at_w (sp_X11_at (o_X6_a1 h)) rfl rfl (Nat.le_of_ble_eq_true rfl) (by decide) rfl (Or.inl rfl) ?_
    refine r_isub (pc := 113) hX dX6_valueOf_113 ?_
    exact r_ireturn (pc := 114) hX dX6_valueOf_114 rfl rfl (by first | with_reducible rfl | (simp only [valueOf_, eq_false c35_0, eq_false c35_1, eq_false c35_2, eq_true c35_3, ↓reduceIte, if_true, if_false, decide_true, decide_false, eq_self, b2i_t, b2i_f, Bool.false_eq_true, and_true, true_and, and_false, false_and, or_true, true_or, or_false, false_or, not_true_eq_false, not_false_eq_true] <;> rfl) | simp [valueOf_, eq_false c35_0, eq_false c35_1, eq_false c35_2, eq_true c35_3]) rfl
  by_cases c35_4 : at_ (I (3 + 2)) 80 p0 = 4
  · refine r_tsIn (pc := 35) hX 115 dX6_valueOf_35 (by rw [c35_4]; decide) (by rw [c35_4]; decide) (by rw [c35_4]; rfl) (by decide) ?_
    refine r_aload_n (pc := 115) hX dX6_valueOf_115 rfl ?_
    refine r_getr (pc := 116) hX dX6_valueOf_116 fl_X6_19 rfl (o_X6_k h) (o_X6_r1 h) ?_
    refine r_iload_n (pc := 119) hX dX6_valueOf_119 rfl ?_
    refine r_callSN (Z := mX11_at) (pc := 120) hX dX6_valueOf_120 mn_X6_53 mX11_at_w (sp_X11_at (o_X6_a1 h)) rfl rfl (Nat.le_of_ble_eq_true rfl) (by decide) rfl (Or.inl rfl) ?_
    refine r_aload_n (pc := 123) hX dX6_valueOf_123 rfl ?_
    refine r_getr (pc := 124) hX dX6_valueOf_124 fl_X6_19 rfl (o_X6_k h) (o_X6_r1 h) ?_
    refine r_iload_n (pc := 127) hX dX6_valueOf_127 rfl ?_
    refine r_callSN (Z := mX11_at) (pc := 128) hX dX6_valueOf_128 mn_X6_53 mX11_at_w (sp_X11_at (o_X6_a1 h)) rfl rfl (Nat.le_of_ble_eq_true rfl) (by decide) rfl (Or.inl rfl) ?_
    refine r_imul (pc := 131) hX dX6_valueOf_131 ?_
    exact r_ireturn (pc := 132) hX dX6_valueOf_132 rfl rfl (by first | with_reducible rfl | (simp only [valueOf_, eq_false c35_0, eq_false c35_1, eq_false c35_2, eq_false c35_3, eq_true c35_4, ↓reduceIte, if_true, if_false, decide_true, decide_false, eq_self, b2i_t, b2i_f, Bool.false_eq_true, and_true, true_and, and_false, false_and, or_true, true_or, or_false, false_or, not_true_eq_false, not_false_eq_true] <;> rfl) | simp [valueOf_, eq_false c35_0, eq_false c35_1, eq_false c35_2, eq_false c35_3, eq_true c35_4]) rfl
  refine r_tsOut (pc := 35) hX 133 dX6_valueOf_35 (im_tsOut (fun z h1 h2 e => ?_)) (by decide) ?_
  · have hz : z = 0 ∨ z = 1 ∨ z = 2 ∨ z = 3 ∨ z = 4 := by omega
    rcases hz with rfl | rfl | rfl | rfl | rfl
    · exact c35_0 (im_toInt (y := 0) (e.trans (by decide)))
    · exact c35_1 (im_toInt (y := 1) (e.trans (by decide)))
    · exact c35_2 (im_toInt (y := 2) (e.trans (by decide)))
    · exact c35_3 (im_toInt (y := 3) (e.trans (by decide)))
    · exact c35_4 (im_toInt (y := 4) (e.trans (by decide)))
  refine r_iconst (pc := 133) hX 3 dX6_valueOf_133 (by decide) ?_
  refine r_aload_n (pc := 134) hX dX6_valueOf_134 rfl ?_
  refine r_getr (pc := 135) hX dX6_valueOf_135 fl_X6_19 rfl (o_X6_k h) (o_X6_r1 h) ?_
  refine r_iload_n (pc := 138) hX dX6_valueOf_138 rfl ?_
  refine r_callSN (Z := mX11_at) (pc := 139) hX dX6_valueOf_139 mn_X6_53 mX11_at_w (sp_X11_at (o_X6_a1 h)) rfl rfl (Nat.le_of_ble_eq_true rfl) (by decide) rfl (Or.inl rfl) ?_
  refine r_imul (pc := 142) hX dX6_valueOf_142 ?_
  refine r_iconst (pc := 143) hX 2 dX6_valueOf_143 (by decide) ?_
  refine r_aload_n (pc := 144) hX dX6_valueOf_144 rfl ?_
  refine r_getr (pc := 145) hX dX6_valueOf_145 fl_X6_19 rfl (o_X6_k h) (o_X6_r1 h) ?_
  refine r_iload_n (pc := 148) hX dX6_valueOf_148 rfl ?_
  refine r_callSN (Z := mX11_at) (pc := 149) hX dX6_valueOf_149 mn_X6_53 mX11_at_w (sp_X11_at (o_X6_a1 h)) rfl rfl (Nat.le_of_ble_eq_true rfl) (by decide) rfl (Or.inl rfl) ?_
  refine r_imul (pc := 152) hX dX6_valueOf_152 ?_
  refine r_iadd (pc := 153) hX dX6_valueOf_153 ?_
  refine r_iconst (pc := 154) hX 1 dX6_valueOf_154 (by decide) ?_
  refine r_iadd (pc := 155) hX dX6_valueOf_155 ?_
  exact r_ireturn (pc := 156) hX dX6_valueOf_156 rfl rfl (by first | with_reducible rfl | (simp only [valueOf_, eq_false c35_0, eq_false c35_1, eq_false c35_2, eq_false c35_3, eq_false c35_4, ↓reduceIte, if_true, if_false, decide_true, decide_false, eq_self, b2i_t, b2i_f, Bool.false_eq_true, and_true, true_and, and_false, false_and, or_true, true_or, or_false, false_or, not_true_eq_false, not_false_eq_true] <;> rfl) | simp [valueOf_, eq_false c35_0, eq_false c35_1, eq_false c35_2, eq_false c35_3, eq_false c35_4]) rfl
set_option maxRecDepth 100000 in
set_option maxHeartbeats 1000000 in
theorem sp_X6_workBlock {l : Launch} {k : im_K} {S : im_S} {I : im_I} {a : Nat} {p0 : Int32} (h : o_X6 S a) (ha : 11 < a) (hr : ∀ j : Int32, rootOf_ I 3 p0 j < 2147483647) : im_Runs l k 2 mX6_workBlock [.ref a, .int p0] (S, I) (none) (S, workBlock_ I a p0) := by
  refine im_run (by decide +kernel) ⟨Nat.le_refl _, Nat.le_refl _⟩ (Nat.le_of_ble_eq_true rfl) ?_
  intro X hl hX hxn hxz hxc hxs
  subst hl
  change im_E X k _ 0 [some (.ref a), some (.int p0), none, none, none, none] [] S I
  refine r_aload_n (pc := 0) hX dX6_workBlock_0 rfl ?_
  refine r_getr (pc := 1) hX dX6_workBlock_1 fl_X6_9 rfl (o_X6_k h) (o_X6_r2 h) ?_
  refine r_iload_n (pc := 4) hX dX6_workBlock_4 rfl ?_
  refine r_callV (Z := mX8_statementsIn) (t := 8) (pc := 5) hX dX6_workBlock_5 ml_X6_36 mX8_statementsIn_w ⟨by decide, rfl⟩ (o_X8_k (o_X6_o2 h)) (sp_X8_statementsIn (o_X6_o2 h)) rfl rfl (Nat.le_of_ble_eq_true rfl) (by decide) rfl (Or.inl rfl) ?_
  refine r_istore_n (pc := 8) hX (L' := [_, _, _, _, _, _]) dX6_workBlock_8 rfl rfl (Nat.le_of_ble_eq_true rfl) ?_
  refine r_iconst (pc := 9) hX 0 dX6_workBlock_9 (by decide) ?_
  refine r_istore_n (pc := 10) hX (L' := [_, _, _, _, _, _]) dX6_workBlock_10 rfl rfl (Nat.le_of_ble_eq_true rfl) ?_
  have hL11 : ∀ (w1 : Nat) (i1 : Int32) (J1 : im_I), J1 11 = I 11 → cnt i1 (statementsIn_ I 3 p0) = w1 → loopN w1 i1 (workOne_ a p0) J1 = loopN (cnt (0) (statementsIn_ I 3 p0)) (0) (workOne_ a p0) (I) → im_E X k (im_Q X k (none) (S, workBlock_ I a p0)) 11 [some (.ref a), some (.int p0), some (.int (statementsIn_ I 3 p0)), some (.int i1), none, none] [] S J1 := by
    intro w1
    induction w1 with
    | zero =>
      intro i1 J1 hf1 hm1 hR1
      refine r_iload_n (pc := 11) hX dX6_workBlock_11 rfl ?_
      refine r_iload_n (pc := 12) hX dX6_workBlock_12 rfl ?_
      refine r_icmp_ge (pc := 13) hX 89 dX6_workBlock_13 (by decide) (fun c13 => ?_) (fun c13 => ?_)
      · have c13d := Int32.not_lt.mpr c13
        rw [loopN_0] at hR1
        subst hR1
        exact r_return (pc := 89) hX dX6_workBlock_89 rfl rfl (by first | with_reducible rfl | (simp only [workBlock_, workOne_, workNodes_, loopC, eq_true c13, eq_false c13d, ↓reduceIte, if_true, if_false, decide_true, decide_false, eq_self, b2i_t, b2i_f, Bool.false_eq_true, and_true, true_and, and_false, false_and, or_true, true_or, or_false, false_or, not_true_eq_false, not_false_eq_true] <;> rfl) | simp [workBlock_, workOne_, workNodes_, loopC, eq_true c13, eq_false c13d])
      · have c13d := Int32.not_le.mp c13
        exact (cnt_ex hm1  c13).elim
    | succ w1 ih1 =>
      intro i1 J1 hf1 hm1 hR1
      refine r_iload_n (pc := 11) hX dX6_workBlock_11 rfl ?_
      refine r_iload_n (pc := 12) hX dX6_workBlock_12 rfl ?_
      refine r_icmp_ge (pc := 13) hX 89 dX6_workBlock_13 (by decide) (fun c13 => ?_) (fun c13 => ?_)
      · have c13d := Int32.not_lt.mpr c13
        exact (cnt_go hm1  c13).elim
      · have c13d := Int32.not_le.mp c13
        refine r_aload_n (pc := 16) hX dX6_workBlock_16 rfl ?_
        refine r_getr (pc := 17) hX dX6_workBlock_17 fl_X6_9 rfl (o_X6_k h) (o_X6_r2 h) ?_
        refine r_iload_n (pc := 20) hX dX6_workBlock_20 rfl ?_
        refine r_iload_n (pc := 21) hX dX6_workBlock_21 rfl ?_
        refine r_callV (Z := mX8_rootOf) (t := 8) (pc := 22) hX dX6_workBlock_22 ml_X6_39 mX8_rootOf_w ⟨by decide, rfl⟩ (o_X8_k (o_X6_o2 h)) (sp_X8_rootOf (o_X6_o2 h)) rfl rfl (Nat.le_of_ble_eq_true rfl) (by decide) rfl (Or.inl rfl) ?_
        refine r_istore (pc := 25) hX (L' := [_, _, _, _, _, _]) dX6_workBlock_25 rfl rfl (Nat.le_of_ble_eq_true rfl) ?_
        have hrr : rootOf_ J1 3 p0 i1 < 2147483647 := by have h9 := hr i1; unfold rootOf_ at h9 ⊢; rw [show J1 (3 + 8) = I (3 + 8) from hf1]; exact h9
        refine r_iconst (pc := 27) hX 0 dX6_workBlock_27 (by decide) ?_
        refine r_istore (pc := 28) hX (L' := [_, _, _, _, _, _]) dX6_workBlock_28 rfl rfl (Nat.le_of_ble_eq_true rfl) ?_
        have hL30 : ∀ (w2 : Nat) (i2 : Int32) (J2 : im_I), cnt i2 (rootOf_ J1 3 p0 i1 + 1) = w2 → loopN w2 i2 (fun i J => put_ J (a + 2) 80 i (valueOf_ J a i)) J2 = loopN (cnt (0) (rootOf_ J1 3 p0 i1 + 1)) (0) (fun i J => put_ J (a + 2) 80 i (valueOf_ J a i)) (J1) → im_E X k (im_Q X k (none) (S, workBlock_ I a p0)) 30 [some (.ref a), some (.int p0), some (.int (statementsIn_ I 3 p0)), some (.int i1), some (.int (rootOf_ J1 3 p0 i1)), some (.int i2)] [] S J2 := by
          intro w2
          induction w2 with
          | zero =>
            intro i2 J2  hm2 hR2
            refine r_iload (pc := 30) hX dX6_workBlock_30 rfl ?_
            refine r_iload (pc := 32) hX dX6_workBlock_32 rfl ?_
            refine r_icmp_gt (pc := 34) hX 58 dX6_workBlock_34 (by decide) (fun c34 => ?_) (fun c34 => ?_)
            · have c34d := Int32.not_le.mpr c34
              rw [loopN_0] at hR2
              subst hR2
              refine r_aload_n (pc := 58) hX dX6_workBlock_58 rfl ?_
              refine r_getr (pc := 59) hX dX6_workBlock_59 fl_X6_15 rfl (o_X6_k h) (o_X6_r0 h) ?_
              refine r_aload_n (pc := 62) hX dX6_workBlock_62 rfl ?_
              refine r_getr (pc := 63) hX dX6_workBlock_63 fl_X6_9 rfl (o_X6_k h) (o_X6_r2 h) ?_
              refine r_iload_n (pc := 66) hX dX6_workBlock_66 rfl ?_
              refine r_iload_n (pc := 67) hX dX6_workBlock_67 rfl ?_
              refine r_callV (Z := mX8_variableOf) (t := 8) (pc := 68) hX dX6_workBlock_68 ml_X6_50 mX8_variableOf_w ⟨by decide, rfl⟩ (o_X8_k (o_X6_o2 h)) (sp_X8_variableOf (o_X6_o2 h)) rfl rfl (Nat.le_of_ble_eq_true rfl) (by decide) rfl (Or.inl rfl) ?_
              refine r_aload_n (pc := 71) hX dX6_workBlock_71 rfl ?_
              refine r_getr (pc := 72) hX dX6_workBlock_72 fl_X6_19 rfl (o_X6_k h) (o_X6_r1 h) ?_
              refine r_iload (pc := 75) hX dX6_workBlock_75 rfl ?_
              refine r_callSN (Z := mX11_at) (pc := 77) hX dX6_workBlock_77 mn_X6_53 mX11_at_w (sp_X11_at (o_X6_a1 h)) rfl rfl (Nat.le_of_ble_eq_true rfl) (by decide) rfl (Or.inl rfl) ?_
              refine r_callSN (Z := mX11_put) (pc := 80) hX dX6_workBlock_80 mn_X6_46 mX11_put_w (sp_X11_put (o_X6_a0 h)) rfl rfl (Nat.le_of_ble_eq_true rfl) (by decide) rfl (Or.inl rfl) ?_
              refine r_iinc (pc := 83) hX 1 (L' := [_, _, _, _, _, _]) dX6_workBlock_83 rfl (by decide) rfl rfl ?_
              refine r_goto (pc := 86) hX (tgt := 11) dX6_workBlock_86 (by decide) ?_
              refine r_weak (L' := [some _, some _, some _, some _, none, none]) (And.intro rfl (And.intro rfl (And.intro rfl (And.intro rfl trivial)))) ?_
              refine r_mem (I' := (workOne_ a p0) i1 J1) (by first | with_reducible rfl | (simp only [workBlock_, workOne_, workNodes_, loopC, eq_false c13, eq_true c13d, eq_true c34, eq_false c34d, ↓reduceIte, if_true, if_false, decide_true, decide_false, eq_self, b2i_t, b2i_f, Bool.false_eq_true, and_true, true_and, and_false, false_and, or_true, true_or, or_false, false_or, not_true_eq_false, not_false_eq_true] <;> rfl) | simp [workBlock_, workOne_, workNodes_, loopC, eq_false c13, eq_true c13d, eq_true c34, eq_false c34d]) ?_
              exact ih1 _ _ ((workOne_fr ha).trans hf1) (cnt_nx hm1) (loopN_s.symm.trans hR1)
            · have c34d := Int32.not_lt.mp c34
              exact (cntL_ex hm2 hrr c34).elim
          | succ w2 ih2 =>
            intro i2 J2  hm2 hR2
            refine r_iload (pc := 30) hX dX6_workBlock_30 rfl ?_
            refine r_iload (pc := 32) hX dX6_workBlock_32 rfl ?_
            refine r_icmp_gt (pc := 34) hX 58 dX6_workBlock_34 (by decide) (fun c34 => ?_) (fun c34 => ?_)
            · have c34d := Int32.not_le.mpr c34
              exact (cntL_go hm2 hrr c34).elim
            · have c34d := Int32.not_lt.mp c34
              refine r_aload_n (pc := 37) hX dX6_workBlock_37 rfl ?_
              refine r_getr (pc := 38) hX dX6_workBlock_38 fl_X6_19 rfl (o_X6_k h) (o_X6_r1 h) ?_
              refine r_iload (pc := 41) hX dX6_workBlock_41 rfl ?_
              refine r_aload_n (pc := 43) hX dX6_workBlock_43 rfl ?_
              refine r_iload (pc := 44) hX dX6_workBlock_44 rfl ?_
              refine r_callV (Z := mX6_valueOf) (t := 6) (pc := 46) hX dX6_workBlock_46 ml_X6_43 mX6_valueOf_w ⟨by decide, rfl⟩ (o_X6_k h) (sp_X6_valueOf h) rfl rfl (Nat.le_of_ble_eq_true rfl) (by decide) rfl (Or.inl rfl) ?_
              refine r_callSN (Z := mX11_put) (pc := 49) hX dX6_workBlock_49 mn_X6_46 mX11_put_w (sp_X11_put (o_X6_a1 h)) rfl rfl (Nat.le_of_ble_eq_true rfl) (by decide) rfl (Or.inl rfl) ?_
              refine r_iinc (pc := 52) hX 1 (L' := [_, _, _, _, _, _]) dX6_workBlock_52 rfl (by decide) rfl rfl ?_
              refine r_goto (pc := 55) hX (tgt := 30) dX6_workBlock_55 (by decide) ?_
              refine r_mem (I' := (fun i J => put_ J (a + 2) 80 i (valueOf_ J a i)) i2 J2) (by first | with_reducible rfl | (simp only [workBlock_, workOne_, workNodes_, loopC, eq_false c13, eq_true c13d, eq_false c34, eq_true c34d, ↓reduceIte, if_true, if_false, decide_true, decide_false, eq_self, b2i_t, b2i_f, Bool.false_eq_true, and_true, true_and, and_false, false_and, or_true, true_or, or_false, false_or, not_true_eq_false, not_false_eq_true] <;> rfl) | simp [workBlock_, workOne_, workNodes_, loopC, eq_false c13, eq_true c13d, eq_false c34, eq_true c34d]) ?_
              exact ih2 _ _  (cnt_nx hm2) (loopN_s.symm.trans hR2)
        exact hL30 (cnt (0) (rootOf_ J1 3 p0 i1 + 1)) (0) (J1)  rfl rfl
  exact hL11 (cnt (0) (statementsIn_ I 3 p0)) (0) (I) rfl rfl rfl
set_option maxRecDepth 100000 in
set_option maxHeartbeats 1000000 in
theorem sp_X6_work {l : Launch} {k : im_K} {S : im_S} {I : im_I} {a : Nat} (h : o_X6 S a) (ha : 11 < a) (hr : ∀ b j : Int32, rootOf_ I 3 b j < 2147483647) : im_Runs l k 3 mX6_work [.ref a] (S, I) (none) (S, work_ I a) := by
  refine im_run (by decide +kernel) ⟨Nat.le_refl _, Nat.le_refl _⟩ (Nat.le_of_ble_eq_true rfl) ?_
  intro X hl hX hxn hxz hxc hxs
  subst hl
  change im_E X k _ 0 [some (.ref a), none, none, none] [] S I
  refine r_aload_n (pc := 0) hX dX6_work_0 rfl ?_
  refine r_getr (pc := 1) hX dX6_work_1 fl_X6_15 rfl (o_X6_k h) (o_X6_r0 h) ?_
  refine r_iconst (pc := 4) hX 0 dX6_work_4 (by decide) ?_
  refine r_callSN (Z := mX11_fill) (pc := 5) hX dX6_work_5 mn_X6_22 mX11_fill_w (sp_X11_fill (o_X6_a0 h)) rfl rfl (Nat.le_of_ble_eq_true rfl) (by decide) rfl (Or.inl rfl) ?_
  refine r_iconst (pc := 8) hX 0 dX6_work_8 (by decide) ?_
  refine r_istore_n (pc := 9) hX (L' := [_, _, _, _]) dX6_work_9 rfl rfl (Nat.le_of_ble_eq_true rfl) ?_
  have hL10 : ∀ (w1 : Nat) (i1 : Int32) (J1 : im_I), J1 11 = I 11 → cnt i1 (4) = w1 → loopN w1 i1 (workRounds_ a) J1 = loopN (cnt (0) (4)) (0) (workRounds_ a) (fillL_ I (a + 1) 8 0) → im_E X k (im_Q X k (none) (S, work_ I a)) 10 [some (.ref a), some (.int i1), none, none] [] S J1 := by
    intro w1
    induction w1 with
    | zero =>
      intro i1 J1 hf1 hm1 hR1
      refine r_iload_n (pc := 10) hX dX6_work_10 rfl ?_
      refine r_iconst (pc := 11) hX 4 dX6_work_11 (by decide) ?_
      refine r_icmp_ge (pc := 12) hX 48 dX6_work_12 (by decide) (fun c12 => ?_) (fun c12 => ?_)
      · have c12d := Int32.not_lt.mpr c12
        rw [loopN_0] at hR1
        subst hR1
        exact r_return (pc := 48) hX dX6_work_48 rfl rfl (by first | with_reducible rfl | (simp only [work_, workRounds_, loopC, eq_true c12, eq_false c12d, ↓reduceIte, if_true, if_false, decide_true, decide_false, eq_self, b2i_t, b2i_f, Bool.false_eq_true, and_true, true_and, and_false, false_and, or_true, true_or, or_false, false_or, not_true_eq_false, not_false_eq_true] <;> rfl) | simp [work_, workRounds_, loopC, eq_true c12, eq_false c12d])
      · have c12d := Int32.not_le.mp c12
        exact (cnt_ex hm1  c12).elim
    | succ w1 ih1 =>
      intro i1 J1 hf1 hm1 hR1
      refine r_iload_n (pc := 10) hX dX6_work_10 rfl ?_
      refine r_iconst (pc := 11) hX 4 dX6_work_11 (by decide) ?_
      refine r_icmp_ge (pc := 12) hX 48 dX6_work_12 (by decide) (fun c12 => ?_) (fun c12 => ?_)
      · have c12d := Int32.not_lt.mpr c12
        exact (cnt_go hm1  c12).elim
      · have c12d := Int32.not_le.mp c12
        refine r_aload_n (pc := 15) hX dX6_work_15 rfl ?_
        refine r_getr (pc := 16) hX dX6_work_16 fl_X6_9 rfl (o_X6_k h) (o_X6_r2 h) ?_
        refine r_iload_n (pc := 19) hX dX6_work_19 rfl ?_
        refine r_callV (Z := mX8_roundsOf) (t := 8) (pc := 20) hX dX6_work_20 ml_X6_26 mX8_roundsOf_w ⟨by decide, rfl⟩ (o_X8_k (o_X6_o2 h)) (sp_X8_roundsOf (o_X6_o2 h)) rfl rfl (Nat.le_of_ble_eq_true rfl) (by decide) rfl (Or.inl rfl) ?_
        refine r_istore_n (pc := 23) hX (L' := [_, _, _, _]) dX6_work_23 rfl rfl (Nat.le_of_ble_eq_true rfl) ?_
        refine r_iconst (pc := 24) hX 0 dX6_work_24 (by decide) ?_
        refine r_istore_n (pc := 25) hX (L' := [_, _, _, _]) dX6_work_25 rfl rfl (Nat.le_of_ble_eq_true rfl) ?_
        have hL26 : ∀ (w2 : Nat) (i2 : Int32) (J2 : im_I), J2 11 = I 11 → cnt i2 (roundsOf_ J1 3 i1) = w2 → loopN w2 i2 (fun _ J => workBlock_ J a i1) J2 = loopN (cnt (0) (roundsOf_ J1 3 i1)) (0) (fun _ J => workBlock_ J a i1) (J1) → im_E X k (im_Q X k (none) (S, work_ I a)) 26 [some (.ref a), some (.int i1), some (.int (roundsOf_ J1 3 i1)), some (.int i2)] [] S J2 := by
          intro w2
          induction w2 with
          | zero =>
            intro i2 J2 hf2 hm2 hR2
            refine r_iload_n (pc := 26) hX dX6_work_26 rfl ?_
            refine r_iload_n (pc := 27) hX dX6_work_27 rfl ?_
            refine r_icmp_ge (pc := 28) hX 42 dX6_work_28 (by decide) (fun c28 => ?_) (fun c28 => ?_)
            · have c28d := Int32.not_lt.mpr c28
              rw [loopN_0] at hR2
              subst hR2
              refine r_iinc (pc := 42) hX 1 (L' := [_, _, _, _]) dX6_work_42 rfl (by decide) rfl rfl ?_
              refine r_goto (pc := 45) hX (tgt := 10) dX6_work_45 (by decide) ?_
              refine r_weak (L' := [some _, some _, none, none]) (And.intro rfl (And.intro rfl trivial)) ?_
              refine r_mem (I' := (workRounds_ a) i1 J1) (by first | with_reducible rfl | (simp only [work_, workRounds_, loopC, eq_false c12, eq_true c12d, eq_true c28, eq_false c28d, ↓reduceIte, if_true, if_false, decide_true, decide_false, eq_self, b2i_t, b2i_f, Bool.false_eq_true, and_true, true_and, and_false, false_and, or_true, true_or, or_false, false_or, not_true_eq_false, not_false_eq_true] <;> rfl) | simp [work_, workRounds_, loopC, eq_false c12, eq_true c12d, eq_true c28, eq_false c28d]) ?_
              exact ih1 _ _ ((workRounds_fr ha).trans hf1) (cnt_nx hm1) (loopN_s.symm.trans hR1)
            · have c28d := Int32.not_le.mp c28
              exact (cnt_ex hm2  c28).elim
          | succ w2 ih2 =>
            intro i2 J2 hf2 hm2 hR2
            refine r_iload_n (pc := 26) hX dX6_work_26 rfl ?_
            refine r_iload_n (pc := 27) hX dX6_work_27 rfl ?_
            refine r_icmp_ge (pc := 28) hX 42 dX6_work_28 (by decide) (fun c28 => ?_) (fun c28 => ?_)
            · have c28d := Int32.not_lt.mpr c28
              exact (cnt_go hm2  c28).elim
            · have c28d := Int32.not_le.mp c28
              refine r_aload_n (pc := 31) hX dX6_work_31 rfl ?_
              refine r_iload_n (pc := 32) hX dX6_work_32 rfl ?_
              refine r_callV (Z := mX6_workBlock) (t := 6) (pc := 33) hX dX6_work_33 ml_X6_32 mX6_workBlock_w ⟨by decide, rfl⟩ (o_X6_k h) (sp_X6_workBlock h ha (fun j => by have h9 := hr i1 j; unfold rootOf_ at h9 ⊢; rw [show J2 (3 + 8) = I (3 + 8) from hf2]; exact h9)) rfl rfl (Nat.le_of_ble_eq_true rfl) (by decide) rfl (Or.inl rfl) ?_
              refine r_iinc (pc := 36) hX 1 (L' := [_, _, _, _]) dX6_work_36 rfl (by decide) rfl rfl ?_
              refine r_goto (pc := 39) hX (tgt := 26) dX6_work_39 (by decide) ?_
              refine r_mem (I' := (fun _ J => workBlock_ J a i1) i2 J2) (by first | with_reducible rfl | (simp only [work_, workRounds_, loopC, eq_false c12, eq_true c12d, eq_false c28, eq_true c28d, ↓reduceIte, if_true, if_false, decide_true, decide_false, eq_self, b2i_t, b2i_f, Bool.false_eq_true, and_true, true_and, and_false, false_and, or_true, true_or, or_false, false_or, not_true_eq_false, not_false_eq_true] <;> rfl) | simp [work_, workRounds_, loopC, eq_false c12, eq_true c12d, eq_false c28, eq_true c28d]) ?_
              exact ih2 _ _ ((workBlock_fr ha).trans hf2) (cnt_nx hm2) (loopN_s.symm.trans hR2)
        exact hL26 (cnt (0) (roundsOf_ J1 3 i1)) (0) (J1) hf1 rfl rfl
  exact hL10 (cnt (0) (4)) (0) (fillL_ I (a + 1) 8 0) (fillL_fr (by omega)) rfl rfl
set_option maxRecDepth 100000 in
set_option maxHeartbeats 1000000 in
theorem sp_X0_coverSmall {l : Launch} {k : im_K} {S : im_S} {I : im_I} {a m : Nat} {p0 : Int32} {p1 : Int32} (h : o_X0 S a m) : im_Runs l k 2 mX0_coverSmall [.ref a, .int p0, .int p1] (S, I) (none) (S, coverSmall_ I a m p0 p1) := by
  refine im_run (by decide +kernel) ⟨Nat.le_refl _, Nat.le_refl _⟩ (Nat.le_of_ble_eq_true rfl) ?_
  intro X hl hX hxn hxz hxc hxs
  subst hl
  change im_E X k _ 0 [some (.ref a), some (.int p0), some (.int p1), none, none, none, none, none, none] [] S I
  refine r_aload_n (pc := 0) hX dX0_coverSmall_0 rfl ?_
  refine r_getr (pc := 1) hX dX0_coverSmall_1 fl_X0_9 rfl (o_X0_k h) (o_X0_r1 h) ?_
  refine r_getr (pc := 4) hX dX0_coverSmall_4 fl_X0_85 rfl (o_X8_k (o_X0_o1 h)) (o_X8_r5 (o_X0_o1 h)) ?_
  refine r_iload_n (pc := 7) hX dX0_coverSmall_7 rfl ?_
  refine r_callSN (Z := mX11_at) (pc := 8) hX dX0_coverSmall_8 mn_X0_54 mX11_at_w (sp_X11_at (o_X8_a5 (o_X0_o1 h))) rfl rfl (Nat.le_of_ble_eq_true rfl) (by decide) rfl (Or.inl rfl) ?_
  refine r_istore_n (pc := 11) hX (L' := [_, _, _, _, _, _, _, _, _]) dX0_coverSmall_11 rfl rfl (Nat.le_of_ble_eq_true rfl) ?_
  refine r_aload_n (pc := 12) hX dX0_coverSmall_12 rfl ?_
  refine r_getr (pc := 13) hX dX0_coverSmall_13 fl_X0_9 rfl (o_X0_k h) (o_X0_r1 h) ?_
  refine r_getr (pc := 16) hX dX0_coverSmall_16 fl_X0_88 rfl (o_X8_k (o_X0_o1 h)) (o_X8_r6 (o_X0_o1 h)) ?_
  refine r_iload_n (pc := 19) hX dX0_coverSmall_19 rfl ?_
  refine r_callSN (Z := mX11_at) (pc := 20) hX dX0_coverSmall_20 mn_X0_54 mX11_at_w (sp_X11_at (o_X8_a6 (o_X0_o1 h))) rfl rfl (Nat.le_of_ble_eq_true rfl) (by decide) rfl (Or.inl rfl) ?_
  refine r_istore (pc := 23) hX (L' := [_, _, _, _, _, _, _, _, _]) dX0_coverSmall_23 rfl rfl (Nat.le_of_ble_eq_true rfl) ?_
  refine r_iload_n (pc := 25) hX dX0_coverSmall_25 rfl ?_
  refine r_iconst (pc := 26) hX 2 dX0_coverSmall_26 (by decide) ?_
  refine r_icmp_eq (pc := 27) hX 35 dX0_coverSmall_27 (by decide) (fun c27 => ?_) (fun c27 => ?_)
  · refine r_aload_n (pc := 35) hX dX0_coverSmall_35 rfl ?_
    refine r_iload (pc := 36) hX dX0_coverSmall_36 rfl ?_
    refine r_callV (Z := mX0_isSmall) (t := 0) (pc := 38) hX dX0_coverSmall_38 ml_X0_91 mX0_isSmall_w ⟨by decide, rfl⟩ (o_X0_k h) (sp_X0_isSmall h) rfl rfl (Nat.le_of_ble_eq_true rfl) (by decide) rfl (Or.inl rfl) ?_
    refine r_if_eq (pc := 41) hX 48 dX0_coverSmall_41 (by decide) (fun c41 => ?_) (fun c41 => ?_)
    · replace c41 := b2i_0 c41
      refine r_iconst (pc := 48) hX 0 dX0_coverSmall_48 (by decide) ?_
      refine r_istore (pc := 49) hX (L' := [_, _, _, _, _, _, _, _, _]) dX0_coverSmall_49 rfl rfl (Nat.le_of_ble_eq_true rfl) ?_
      refine r_iload (pc := 51) hX dX0_coverSmall_51 rfl ?_
      refine r_if_ne (pc := 53) hX 70 dX0_coverSmall_53 (by decide) (fun c53 => ?_) (fun c53 => ?_)
      · exact absurd c53 (by decide)
      · refine r_iload_n (pc := 56) hX dX0_coverSmall_56 rfl ?_
        refine r_iconst (pc := 57) hX 2 dX0_coverSmall_57 (by decide) ?_
        refine r_icmp_ne (pc := 58) hX 69 dX0_coverSmall_58 (by decide) (fun c58 => ?_) (fun c58 => ?_)
        · exact absurd c27 c58
        · refine r_aload_n (pc := 61) hX dX0_coverSmall_61 rfl ?_
          refine r_iload_n (pc := 62) hX dX0_coverSmall_62 rfl ?_
          refine r_callV (Z := mX0_isSmall) (t := 0) (pc := 63) hX dX0_coverSmall_63 ml_X0_91 mX0_isSmall_w ⟨by decide, rfl⟩ (o_X0_k h) (sp_X0_isSmall h) rfl rfl (Nat.le_of_ble_eq_true rfl) (by decide) rfl (Or.inl rfl) ?_
          refine r_if_ne (pc := 66) hX 70 dX0_coverSmall_66 (by decide) (fun c66 => ?_) (fun c66 => ?_)
          · replace c66 := b2i_1 c66
            refine r_iload (pc := 70) hX dX0_coverSmall_70 rfl ?_
            refine r_if_eq (pc := 72) hX 79 dX0_coverSmall_72 (by decide) (fun c72 => ?_) (fun c72 => ?_)
            · refine r_iload (pc := 79) hX dX0_coverSmall_79 rfl ?_
              refine r_istore (pc := 81) hX (L' := [_, _, _, _, _, _, _, _, _]) dX0_coverSmall_81 rfl rfl (Nat.le_of_ble_eq_true rfl) ?_
              refine r_aload_n (pc := 83) hX dX0_coverSmall_83 rfl ?_
              refine r_getr (pc := 84) hX dX0_coverSmall_84 fl_X0_15 rfl (o_X0_k h) (o_X0_r2 h) ?_
              refine r_iconst (pc := 87) hX 5 dX0_coverSmall_87 (by decide) ?_
              refine r_callV (Z := mX5_cyclesOf) (t := 5) (pc := 88) hX dX0_coverSmall_88 ml_X0_79 mX5_cyclesOf_w ⟨by decide, rfl⟩ (o_X5_k (o_X0_o2 h)) (sp_X5_cyclesOf (o_X0_o2 h)) rfl rfl (Nat.le_of_ble_eq_true rfl) (by decide) rfl (Or.inl rfl) ?_
              refine r_aload_n (pc := 91) hX dX0_coverSmall_91 rfl ?_
              refine r_getr (pc := 92) hX dX0_coverSmall_92 fl_X0_19 rfl (o_X0_k h) (o_X0_r0 h) ?_
              refine r_iload (pc := 95) hX dX0_coverSmall_95 rfl ?_
              refine r_callSN (Z := mX11_at) (pc := 97) hX dX0_coverSmall_97 mn_X0_54 mX11_at_w (sp_X11_at (o_X0_a0 h)) rfl rfl (Nat.le_of_ble_eq_true rfl) (by decide) rfl (Or.inl rfl) ?_
              refine r_iadd (pc := 100) hX dX0_coverSmall_100 ?_
              refine r_istore (pc := 101) hX (L' := [_, _, _, _, _, _, _, _, _]) dX0_coverSmall_101 rfl rfl (Nat.le_of_ble_eq_true rfl) ?_
              refine r_iload (pc := 103) hX dX0_coverSmall_103 rfl ?_
              refine r_aload_n (pc := 105) hX dX0_coverSmall_105 rfl ?_
              refine r_getr (pc := 106) hX dX0_coverSmall_106 fl_X0_19 rfl (o_X0_k h) (o_X0_r0 h) ?_
              refine r_iload_n (pc := 109) hX dX0_coverSmall_109 rfl ?_
              refine r_callSN (Z := mX11_at) (pc := 110) hX dX0_coverSmall_110 mn_X0_54 mX11_at_w (sp_X11_at (o_X0_a0 h)) rfl rfl (Nat.le_of_ble_eq_true rfl) (by decide) rfl (Or.inl rfl) ?_
              refine r_icmp_ge (pc := 113) hX 203 dX0_coverSmall_113 (by decide) (fun c113 => ?_) (fun c113 => ?_)
              · have c113d := Int32.not_lt.mpr c113
                exact r_return (pc := 203) hX dX0_coverSmall_203 rfl rfl (by first | with_reducible rfl | (simp only [coverSmall_, coverSmallBy_, eq_true c27, c41, eq_true c58, c66, eq_true c113, eq_false c113d, ↓reduceIte, if_true, if_false, decide_true, decide_false, eq_self, b2i_t, b2i_f, Bool.false_eq_true, and_true, true_and, and_false, false_and, or_true, true_or, or_false, false_or, not_true_eq_false, not_false_eq_true] <;> rfl) | simp [coverSmall_, coverSmallBy_, eq_true c27, c41, eq_true c58, c66, eq_true c113, eq_false c113d])
              · have c113d := Int32.not_le.mp c113
                refine r_aload_n (pc := 116) hX dX0_coverSmall_116 rfl ?_
                refine r_getr (pc := 117) hX dX0_coverSmall_117 fl_X0_9 rfl (o_X0_k h) (o_X0_r1 h) ?_
                refine r_getr (pc := 120) hX dX0_coverSmall_120 fl_X0_85 rfl (o_X8_k (o_X0_o1 h)) (o_X8_r5 (o_X0_o1 h)) ?_
                refine r_iload (pc := 123) hX dX0_coverSmall_123 rfl ?_
                refine r_if_eq (pc := 125) hX 133 dX0_coverSmall_125 (by decide) (fun c125 => ?_) (fun c125 => ?_)
                · refine r_iload_n (pc := 133) hX dX0_coverSmall_133 rfl ?_
                  refine r_callSN (Z := mX11_at) (pc := 134) hX dX0_coverSmall_134 mn_X0_54 mX11_at_w (sp_X11_at (o_X8_a5 (o_X0_o1 h))) rfl rfl (Nat.le_of_ble_eq_true rfl) (by decide) rfl (Or.inl rfl) ?_
                  refine r_istore (pc := 137) hX (L' := [_, _, _, _, _, _, _, _, _]) dX0_coverSmall_137 rfl rfl (Nat.le_of_ble_eq_true rfl) ?_
                  refine r_aload_n (pc := 139) hX dX0_coverSmall_139 rfl ?_
                  refine r_getr (pc := 140) hX dX0_coverSmall_140 fl_X0_23 rfl (o_X0_k h) (o_X0_r3 h) ?_
                  refine r_iload_n (pc := 143) hX dX0_coverSmall_143 rfl ?_
                  refine r_iconst (pc := 144) hX 5 dX0_coverSmall_144 (by decide) ?_
                  refine r_callSN (Z := mX11_put) (pc := 145) hX dX0_coverSmall_145 mn_X0_58 mX11_put_w (sp_X11_put (o_X0_a3 h)) rfl rfl (Nat.le_of_ble_eq_true rfl) (by decide) rfl (Or.inl rfl) ?_
                  refine r_aload_n (pc := 148) hX dX0_coverSmall_148 rfl ?_
                  refine r_getr (pc := 149) hX dX0_coverSmall_149 fl_X0_19 rfl (o_X0_k h) (o_X0_r0 h) ?_
                  refine r_iload_n (pc := 152) hX dX0_coverSmall_152 rfl ?_
                  refine r_iload (pc := 153) hX dX0_coverSmall_153 rfl ?_
                  refine r_callSN (Z := mX11_put) (pc := 155) hX dX0_coverSmall_155 mn_X0_58 mX11_put_w (sp_X11_put (o_X0_a0 h)) rfl rfl (Nat.le_of_ble_eq_true rfl) (by decide) rfl (Or.inl rfl) ?_
                  refine r_aload_n (pc := 158) hX dX0_coverSmall_158 rfl ?_
                  refine r_getr (pc := 159) hX dX0_coverSmall_159 fl_X0_26 rfl (o_X0_k h) (o_X0_r4 h) ?_
                  refine r_iload_n (pc := 162) hX dX0_coverSmall_162 rfl ?_
                  refine r_iload_n (pc := 163) hX dX0_coverSmall_163 rfl ?_
                  refine r_iconst (pc := 164) hX 3 dX0_coverSmall_164 (by decide) ?_
                  refine r_icmp_ne (pc := 165) hX 174 dX0_coverSmall_165 (by decide) (fun c165 => ?_) (fun c165 => ?_)
                  · refine r_iload (pc := 174) hX dX0_coverSmall_174 rfl ?_
                    refine r_callSN (Z := mX11_put) (pc := 176) hX dX0_coverSmall_176 mn_X0_58 mX11_put_w (sp_X11_put (o_X0_a4 h)) rfl rfl (Nat.le_of_ble_eq_true rfl) (by decide) rfl (Or.inl rfl) ?_
                    refine r_aload_n (pc := 179) hX dX0_coverSmall_179 rfl ?_
                    refine r_getr (pc := 180) hX dX0_coverSmall_180 fl_X0_29 rfl (o_X0_k h) (o_X0_r5 h) ?_
                    refine r_iload_n (pc := 183) hX dX0_coverSmall_183 rfl ?_
                    refine r_iload (pc := 184) hX dX0_coverSmall_184 rfl ?_
                    refine r_iconst (pc := 186) hX (-1) dX0_coverSmall_186 (by decide) ?_
                    refine r_iconst (pc := 187) hX (-1) dX0_coverSmall_187 (by decide) ?_
                    refine r_callS (Z := mX0_setNodes) (pc := 188) hX dX0_coverSmall_188 ml_X0_75 mX0_setNodes_w (sp_X0_setNodes (o_X0_a5 h)) rfl rfl (Nat.le_of_ble_eq_true rfl) (by decide) rfl (Or.inl rfl) ?_
                    refine r_aload_n (pc := 191) hX dX0_coverSmall_191 rfl ?_
                    refine r_getr (pc := 192) hX dX0_coverSmall_192 fl_X0_32 rfl (o_X0_k h) (o_X0_r6 h) ?_
                    refine r_iload_n (pc := 195) hX dX0_coverSmall_195 rfl ?_
                    refine r_iload (pc := 196) hX dX0_coverSmall_196 rfl ?_
                    refine r_iconst (pc := 198) hX (-1) dX0_coverSmall_198 (by decide) ?_
                    refine r_iconst (pc := 199) hX (-1) dX0_coverSmall_199 (by decide) ?_
                    refine r_callS (Z := mX0_setNodes) (pc := 200) hX dX0_coverSmall_200 ml_X0_75 mX0_setNodes_w (sp_X0_setNodes (o_X0_a6 h)) rfl rfl (Nat.le_of_ble_eq_true rfl) (by decide) rfl (Or.inl rfl) ?_
                    exact r_return (pc := 203) hX dX0_coverSmall_203 rfl rfl (by first | with_reducible rfl | (simp only [coverSmall_, coverSmallBy_, eq_true c27, c41, eq_true c58, c66, eq_false c113, eq_true c113d, eq_false c165, ↓reduceIte, if_true, if_false, decide_true, decide_false, eq_self, b2i_t, b2i_f, Bool.false_eq_true, and_true, true_and, and_false, false_and, or_true, true_or, or_false, false_or, not_true_eq_false, not_false_eq_true] <;> rfl) | simp [coverSmall_, coverSmallBy_, eq_true c27, c41, eq_true c58, c66, eq_false c113, eq_true c113d, eq_false c165])
                  · exact absurd (c58.symm.trans c165) (by decide)
                · exact absurd c125 (by decide)
            · exact absurd c72 (by decide)
          · replace c66 := b2i_0 c66
            exact r_return (pc := 69) hX dX0_coverSmall_69 rfl rfl (by first | with_reducible rfl | (simp only [coverSmall_, coverSmallBy_, eq_true c27, c41, eq_true c58, c66, ↓reduceIte, if_true, if_false, decide_true, decide_false, eq_self, b2i_t, b2i_f, Bool.false_eq_true, and_true, true_and, and_false, false_and, or_true, true_or, or_false, false_or, not_true_eq_false, not_false_eq_true] <;> rfl) | simp [coverSmall_, coverSmallBy_, eq_true c27, c41, eq_true c58, c66])
    · replace c41 := b2i_1 c41
      refine r_iconst (pc := 44) hX 1 dX0_coverSmall_44 (by decide) ?_
      refine r_goto (pc := 45) hX (tgt := 49) dX0_coverSmall_45 (by decide) ?_
      refine r_istore (pc := 49) hX (L' := [_, _, _, _, _, _, _, _, _]) dX0_coverSmall_49 rfl rfl (Nat.le_of_ble_eq_true rfl) ?_
      refine r_iload (pc := 51) hX dX0_coverSmall_51 rfl ?_
      refine r_if_ne (pc := 53) hX 70 dX0_coverSmall_53 (by decide) (fun c53 => ?_) (fun c53 => ?_)
      · refine r_iload (pc := 70) hX dX0_coverSmall_70 rfl ?_
        refine r_if_eq (pc := 72) hX 79 dX0_coverSmall_72 (by decide) (fun c72 => ?_) (fun c72 => ?_)
        · exact absurd c72 (by decide)
        · refine r_iload_n (pc := 75) hX dX0_coverSmall_75 rfl ?_
          refine r_goto (pc := 76) hX (tgt := 81) dX0_coverSmall_76 (by decide) ?_
          refine r_istore (pc := 81) hX (L' := [_, _, _, _, _, _, _, _, _]) dX0_coverSmall_81 rfl rfl (Nat.le_of_ble_eq_true rfl) ?_
          refine r_aload_n (pc := 83) hX dX0_coverSmall_83 rfl ?_
          refine r_getr (pc := 84) hX dX0_coverSmall_84 fl_X0_15 rfl (o_X0_k h) (o_X0_r2 h) ?_
          refine r_iconst (pc := 87) hX 5 dX0_coverSmall_87 (by decide) ?_
          refine r_callV (Z := mX5_cyclesOf) (t := 5) (pc := 88) hX dX0_coverSmall_88 ml_X0_79 mX5_cyclesOf_w ⟨by decide, rfl⟩ (o_X5_k (o_X0_o2 h)) (sp_X5_cyclesOf (o_X0_o2 h)) rfl rfl (Nat.le_of_ble_eq_true rfl) (by decide) rfl (Or.inl rfl) ?_
          refine r_aload_n (pc := 91) hX dX0_coverSmall_91 rfl ?_
          refine r_getr (pc := 92) hX dX0_coverSmall_92 fl_X0_19 rfl (o_X0_k h) (o_X0_r0 h) ?_
          refine r_iload (pc := 95) hX dX0_coverSmall_95 rfl ?_
          refine r_callSN (Z := mX11_at) (pc := 97) hX dX0_coverSmall_97 mn_X0_54 mX11_at_w (sp_X11_at (o_X0_a0 h)) rfl rfl (Nat.le_of_ble_eq_true rfl) (by decide) rfl (Or.inl rfl) ?_
          refine r_iadd (pc := 100) hX dX0_coverSmall_100 ?_
          refine r_istore (pc := 101) hX (L' := [_, _, _, _, _, _, _, _, _]) dX0_coverSmall_101 rfl rfl (Nat.le_of_ble_eq_true rfl) ?_
          refine r_iload (pc := 103) hX dX0_coverSmall_103 rfl ?_
          refine r_aload_n (pc := 105) hX dX0_coverSmall_105 rfl ?_
          refine r_getr (pc := 106) hX dX0_coverSmall_106 fl_X0_19 rfl (o_X0_k h) (o_X0_r0 h) ?_
          refine r_iload_n (pc := 109) hX dX0_coverSmall_109 rfl ?_
          refine r_callSN (Z := mX11_at) (pc := 110) hX dX0_coverSmall_110 mn_X0_54 mX11_at_w (sp_X11_at (o_X0_a0 h)) rfl rfl (Nat.le_of_ble_eq_true rfl) (by decide) rfl (Or.inl rfl) ?_
          refine r_icmp_ge (pc := 113) hX 203 dX0_coverSmall_113 (by decide) (fun c113 => ?_) (fun c113 => ?_)
          · have c113d := Int32.not_lt.mpr c113
            exact r_return (pc := 203) hX dX0_coverSmall_203 rfl rfl (by first | with_reducible rfl | (simp only [coverSmall_, coverSmallBy_, eq_true c27, c41, eq_true c113, eq_false c113d, ↓reduceIte, if_true, if_false, decide_true, decide_false, eq_self, b2i_t, b2i_f, Bool.false_eq_true, and_true, true_and, and_false, false_and, or_true, true_or, or_false, false_or, not_true_eq_false, not_false_eq_true] <;> rfl) | simp [coverSmall_, coverSmallBy_, eq_true c27, c41, eq_true c113, eq_false c113d])
          · have c113d := Int32.not_le.mp c113
            refine r_aload_n (pc := 116) hX dX0_coverSmall_116 rfl ?_
            refine r_getr (pc := 117) hX dX0_coverSmall_117 fl_X0_9 rfl (o_X0_k h) (o_X0_r1 h) ?_
            refine r_getr (pc := 120) hX dX0_coverSmall_120 fl_X0_85 rfl (o_X8_k (o_X0_o1 h)) (o_X8_r5 (o_X0_o1 h)) ?_
            refine r_iload (pc := 123) hX dX0_coverSmall_123 rfl ?_
            refine r_if_eq (pc := 125) hX 133 dX0_coverSmall_125 (by decide) (fun c125 => ?_) (fun c125 => ?_)
            · exact absurd c125 (by decide)
            · refine r_iload (pc := 128) hX dX0_coverSmall_128 rfl ?_
              refine r_goto (pc := 130) hX (tgt := 134) dX0_coverSmall_130 (by decide) ?_
              refine r_callSN (Z := mX11_at) (pc := 134) hX dX0_coverSmall_134 mn_X0_54 mX11_at_w (sp_X11_at (o_X8_a5 (o_X0_o1 h))) rfl rfl (Nat.le_of_ble_eq_true rfl) (by decide) rfl (Or.inl rfl) ?_
              refine r_istore (pc := 137) hX (L' := [_, _, _, _, _, _, _, _, _]) dX0_coverSmall_137 rfl rfl (Nat.le_of_ble_eq_true rfl) ?_
              refine r_aload_n (pc := 139) hX dX0_coverSmall_139 rfl ?_
              refine r_getr (pc := 140) hX dX0_coverSmall_140 fl_X0_23 rfl (o_X0_k h) (o_X0_r3 h) ?_
              refine r_iload_n (pc := 143) hX dX0_coverSmall_143 rfl ?_
              refine r_iconst (pc := 144) hX 5 dX0_coverSmall_144 (by decide) ?_
              refine r_callSN (Z := mX11_put) (pc := 145) hX dX0_coverSmall_145 mn_X0_58 mX11_put_w (sp_X11_put (o_X0_a3 h)) rfl rfl (Nat.le_of_ble_eq_true rfl) (by decide) rfl (Or.inl rfl) ?_
              refine r_aload_n (pc := 148) hX dX0_coverSmall_148 rfl ?_
              refine r_getr (pc := 149) hX dX0_coverSmall_149 fl_X0_19 rfl (o_X0_k h) (o_X0_r0 h) ?_
              refine r_iload_n (pc := 152) hX dX0_coverSmall_152 rfl ?_
              refine r_iload (pc := 153) hX dX0_coverSmall_153 rfl ?_
              refine r_callSN (Z := mX11_put) (pc := 155) hX dX0_coverSmall_155 mn_X0_58 mX11_put_w (sp_X11_put (o_X0_a0 h)) rfl rfl (Nat.le_of_ble_eq_true rfl) (by decide) rfl (Or.inl rfl) ?_
              refine r_aload_n (pc := 158) hX dX0_coverSmall_158 rfl ?_
              refine r_getr (pc := 159) hX dX0_coverSmall_159 fl_X0_26 rfl (o_X0_k h) (o_X0_r4 h) ?_
              refine r_iload_n (pc := 162) hX dX0_coverSmall_162 rfl ?_
              refine r_iload_n (pc := 163) hX dX0_coverSmall_163 rfl ?_
              refine r_iconst (pc := 164) hX 3 dX0_coverSmall_164 (by decide) ?_
              refine r_icmp_ne (pc := 165) hX 174 dX0_coverSmall_165 (by decide) (fun c165 => ?_) (fun c165 => ?_)
              · refine r_iload (pc := 174) hX dX0_coverSmall_174 rfl ?_
                refine r_callSN (Z := mX11_put) (pc := 176) hX dX0_coverSmall_176 mn_X0_58 mX11_put_w (sp_X11_put (o_X0_a4 h)) rfl rfl (Nat.le_of_ble_eq_true rfl) (by decide) rfl (Or.inl rfl) ?_
                refine r_aload_n (pc := 179) hX dX0_coverSmall_179 rfl ?_
                refine r_getr (pc := 180) hX dX0_coverSmall_180 fl_X0_29 rfl (o_X0_k h) (o_X0_r5 h) ?_
                refine r_iload_n (pc := 183) hX dX0_coverSmall_183 rfl ?_
                refine r_iload (pc := 184) hX dX0_coverSmall_184 rfl ?_
                refine r_iconst (pc := 186) hX (-1) dX0_coverSmall_186 (by decide) ?_
                refine r_iconst (pc := 187) hX (-1) dX0_coverSmall_187 (by decide) ?_
                refine r_callS (Z := mX0_setNodes) (pc := 188) hX dX0_coverSmall_188 ml_X0_75 mX0_setNodes_w (sp_X0_setNodes (o_X0_a5 h)) rfl rfl (Nat.le_of_ble_eq_true rfl) (by decide) rfl (Or.inl rfl) ?_
                refine r_aload_n (pc := 191) hX dX0_coverSmall_191 rfl ?_
                refine r_getr (pc := 192) hX dX0_coverSmall_192 fl_X0_32 rfl (o_X0_k h) (o_X0_r6 h) ?_
                refine r_iload_n (pc := 195) hX dX0_coverSmall_195 rfl ?_
                refine r_iload (pc := 196) hX dX0_coverSmall_196 rfl ?_
                refine r_iconst (pc := 198) hX (-1) dX0_coverSmall_198 (by decide) ?_
                refine r_iconst (pc := 199) hX (-1) dX0_coverSmall_199 (by decide) ?_
                refine r_callS (Z := mX0_setNodes) (pc := 200) hX dX0_coverSmall_200 ml_X0_75 mX0_setNodes_w (sp_X0_setNodes (o_X0_a6 h)) rfl rfl (Nat.le_of_ble_eq_true rfl) (by decide) rfl (Or.inl rfl) ?_
                exact r_return (pc := 203) hX dX0_coverSmall_203 rfl rfl (by first | with_reducible rfl | (simp only [coverSmall_, coverSmallBy_, eq_true c27, c41, eq_false c113, eq_true c113d, eq_false c165, ↓reduceIte, if_true, if_false, decide_true, decide_false, eq_self, b2i_t, b2i_f, Bool.false_eq_true, and_true, true_and, and_false, false_and, or_true, true_or, or_false, false_or, not_true_eq_false, not_false_eq_true] <;> rfl) | simp [coverSmall_, coverSmallBy_, eq_true c27, c41, eq_false c113, eq_true c113d, eq_false c165])
              · exact absurd (c27.symm.trans c165) (by decide)
      · exact absurd c53 (by decide)
  · refine r_iload_n (pc := 30) hX dX0_coverSmall_30 rfl ?_
    refine r_iconst (pc := 31) hX 3 dX0_coverSmall_31 (by decide) ?_
    refine r_icmp_ne (pc := 32) hX 48 dX0_coverSmall_32 (by decide) (fun c32 => ?_) (fun c32 => ?_)
    · refine r_iconst (pc := 48) hX 0 dX0_coverSmall_48 (by decide) ?_
      refine r_istore (pc := 49) hX (L' := [_, _, _, _, _, _, _, _, _]) dX0_coverSmall_49 rfl rfl (Nat.le_of_ble_eq_true rfl) ?_
      refine r_iload (pc := 51) hX dX0_coverSmall_51 rfl ?_
      refine r_if_ne (pc := 53) hX 70 dX0_coverSmall_53 (by decide) (fun c53 => ?_) (fun c53 => ?_)
      · exact absurd c53 (by decide)
      · refine r_iload_n (pc := 56) hX dX0_coverSmall_56 rfl ?_
        refine r_iconst (pc := 57) hX 2 dX0_coverSmall_57 (by decide) ?_
        refine r_icmp_ne (pc := 58) hX 69 dX0_coverSmall_58 (by decide) (fun c58 => ?_) (fun c58 => ?_)
        · exact r_return (pc := 69) hX dX0_coverSmall_69 rfl rfl (by first | with_reducible rfl | (simp only [coverSmall_, coverSmallBy_, eq_false c27, eq_false c32, eq_false c58, ↓reduceIte, if_true, if_false, decide_true, decide_false, eq_self, b2i_t, b2i_f, Bool.false_eq_true, and_true, true_and, and_false, false_and, or_true, true_or, or_false, false_or, not_true_eq_false, not_false_eq_true] <;> rfl) | simp [coverSmall_, coverSmallBy_, eq_false c27, eq_false c32, eq_false c58])
        · exact absurd c58 c27
    · refine r_aload_n (pc := 35) hX dX0_coverSmall_35 rfl ?_
      refine r_iload (pc := 36) hX dX0_coverSmall_36 rfl ?_
      refine r_callV (Z := mX0_isSmall) (t := 0) (pc := 38) hX dX0_coverSmall_38 ml_X0_91 mX0_isSmall_w ⟨by decide, rfl⟩ (o_X0_k h) (sp_X0_isSmall h) rfl rfl (Nat.le_of_ble_eq_true rfl) (by decide) rfl (Or.inl rfl) ?_
      refine r_if_eq (pc := 41) hX 48 dX0_coverSmall_41 (by decide) (fun c41 => ?_) (fun c41 => ?_)
      · replace c41 := b2i_0 c41
        refine r_iconst (pc := 48) hX 0 dX0_coverSmall_48 (by decide) ?_
        refine r_istore (pc := 49) hX (L' := [_, _, _, _, _, _, _, _, _]) dX0_coverSmall_49 rfl rfl (Nat.le_of_ble_eq_true rfl) ?_
        refine r_iload (pc := 51) hX dX0_coverSmall_51 rfl ?_
        refine r_if_ne (pc := 53) hX 70 dX0_coverSmall_53 (by decide) (fun c53 => ?_) (fun c53 => ?_)
        · exact absurd c53 (by decide)
        · refine r_iload_n (pc := 56) hX dX0_coverSmall_56 rfl ?_
          refine r_iconst (pc := 57) hX 2 dX0_coverSmall_57 (by decide) ?_
          refine r_icmp_ne (pc := 58) hX 69 dX0_coverSmall_58 (by decide) (fun c58 => ?_) (fun c58 => ?_)
          · exact r_return (pc := 69) hX dX0_coverSmall_69 rfl rfl (by first | with_reducible rfl | (simp only [coverSmall_, coverSmallBy_, eq_false c27, eq_true c32, c41, eq_false c58, ↓reduceIte, if_true, if_false, decide_true, decide_false, eq_self, b2i_t, b2i_f, Bool.false_eq_true, and_true, true_and, and_false, false_and, or_true, true_or, or_false, false_or, not_true_eq_false, not_false_eq_true] <;> rfl) | simp [coverSmall_, coverSmallBy_, eq_false c27, eq_true c32, c41, eq_false c58])
          · exact absurd (c32.symm.trans c58) (by decide)
      · replace c41 := b2i_1 c41
        refine r_iconst (pc := 44) hX 1 dX0_coverSmall_44 (by decide) ?_
        refine r_goto (pc := 45) hX (tgt := 49) dX0_coverSmall_45 (by decide) ?_
        refine r_istore (pc := 49) hX (L' := [_, _, _, _, _, _, _, _, _]) dX0_coverSmall_49 rfl rfl (Nat.le_of_ble_eq_true rfl) ?_
        refine r_iload (pc := 51) hX dX0_coverSmall_51 rfl ?_
        refine r_if_ne (pc := 53) hX 70 dX0_coverSmall_53 (by decide) (fun c53 => ?_) (fun c53 => ?_)
        · refine r_iload (pc := 70) hX dX0_coverSmall_70 rfl ?_
          refine r_if_eq (pc := 72) hX 79 dX0_coverSmall_72 (by decide) (fun c72 => ?_) (fun c72 => ?_)
          · exact absurd c72 (by decide)
          · refine r_iload_n (pc := 75) hX dX0_coverSmall_75 rfl ?_
            refine r_goto (pc := 76) hX (tgt := 81) dX0_coverSmall_76 (by decide) ?_
            refine r_istore (pc := 81) hX (L' := [_, _, _, _, _, _, _, _, _]) dX0_coverSmall_81 rfl rfl (Nat.le_of_ble_eq_true rfl) ?_
            refine r_aload_n (pc := 83) hX dX0_coverSmall_83 rfl ?_
            refine r_getr (pc := 84) hX dX0_coverSmall_84 fl_X0_15 rfl (o_X0_k h) (o_X0_r2 h) ?_
            refine r_iconst (pc := 87) hX 5 dX0_coverSmall_87 (by decide) ?_
            refine r_callV (Z := mX5_cyclesOf) (t := 5) (pc := 88) hX dX0_coverSmall_88 ml_X0_79 mX5_cyclesOf_w ⟨by decide, rfl⟩ (o_X5_k (o_X0_o2 h)) (sp_X5_cyclesOf (o_X0_o2 h)) rfl rfl (Nat.le_of_ble_eq_true rfl) (by decide) rfl (Or.inl rfl) ?_
            refine r_aload_n (pc := 91) hX dX0_coverSmall_91 rfl ?_
            refine r_getr (pc := 92) hX dX0_coverSmall_92 fl_X0_19 rfl (o_X0_k h) (o_X0_r0 h) ?_
            refine r_iload (pc := 95) hX dX0_coverSmall_95 rfl ?_
            refine r_callSN (Z := mX11_at) (pc := 97) hX dX0_coverSmall_97 mn_X0_54 mX11_at_w (sp_X11_at (o_X0_a0 h)) rfl rfl (Nat.le_of_ble_eq_true rfl) (by decide) rfl (Or.inl rfl) ?_
            refine r_iadd (pc := 100) hX dX0_coverSmall_100 ?_
            refine r_istore (pc := 101) hX (L' := [_, _, _, _, _, _, _, _, _]) dX0_coverSmall_101 rfl rfl (Nat.le_of_ble_eq_true rfl) ?_
            refine r_iload (pc := 103) hX dX0_coverSmall_103 rfl ?_
            refine r_aload_n (pc := 105) hX dX0_coverSmall_105 rfl ?_
            refine r_getr (pc := 106) hX dX0_coverSmall_106 fl_X0_19 rfl (o_X0_k h) (o_X0_r0 h) ?_
            refine r_iload_n (pc := 109) hX dX0_coverSmall_109 rfl ?_
            refine r_callSN (Z := mX11_at) (pc := 110) hX dX0_coverSmall_110 mn_X0_54 mX11_at_w (sp_X11_at (o_X0_a0 h)) rfl rfl (Nat.le_of_ble_eq_true rfl) (by decide) rfl (Or.inl rfl) ?_
            refine r_icmp_ge (pc := 113) hX 203 dX0_coverSmall_113 (by decide) (fun c113 => ?_) (fun c113 => ?_)
            · have c113d := Int32.not_lt.mpr c113
              exact r_return (pc := 203) hX dX0_coverSmall_203 rfl rfl (by first | with_reducible rfl | (simp only [coverSmall_, coverSmallBy_, eq_false c27, eq_true c32, c41, eq_true c113, eq_false c113d, ↓reduceIte, if_true, if_false, decide_true, decide_false, eq_self, b2i_t, b2i_f, Bool.false_eq_true, and_true, true_and, and_false, false_and, or_true, true_or, or_false, false_or, not_true_eq_false, not_false_eq_true] <;> rfl) | simp [coverSmall_, coverSmallBy_, eq_false c27, eq_true c32, c41, eq_true c113, eq_false c113d])
            · have c113d := Int32.not_le.mp c113
              refine r_aload_n (pc := 116) hX dX0_coverSmall_116 rfl ?_
              refine r_getr (pc := 117) hX dX0_coverSmall_117 fl_X0_9 rfl (o_X0_k h) (o_X0_r1 h) ?_
              refine r_getr (pc := 120) hX dX0_coverSmall_120 fl_X0_85 rfl (o_X8_k (o_X0_o1 h)) (o_X8_r5 (o_X0_o1 h)) ?_
              refine r_iload (pc := 123) hX dX0_coverSmall_123 rfl ?_
              refine r_if_eq (pc := 125) hX 133 dX0_coverSmall_125 (by decide) (fun c125 => ?_) (fun c125 => ?_)
              · exact absurd c125 (by decide)
              · refine r_iload (pc := 128) hX dX0_coverSmall_128 rfl ?_
                refine r_goto (pc := 130) hX (tgt := 134) dX0_coverSmall_130 (by decide) ?_
                refine r_callSN (Z := mX11_at) (pc := 134) hX dX0_coverSmall_134 mn_X0_54 mX11_at_w (sp_X11_at (o_X8_a5 (o_X0_o1 h))) rfl rfl (Nat.le_of_ble_eq_true rfl) (by decide) rfl (Or.inl rfl) ?_
                refine r_istore (pc := 137) hX (L' := [_, _, _, _, _, _, _, _, _]) dX0_coverSmall_137 rfl rfl (Nat.le_of_ble_eq_true rfl) ?_
                refine r_aload_n (pc := 139) hX dX0_coverSmall_139 rfl ?_
                refine r_getr (pc := 140) hX dX0_coverSmall_140 fl_X0_23 rfl (o_X0_k h) (o_X0_r3 h) ?_
                refine r_iload_n (pc := 143) hX dX0_coverSmall_143 rfl ?_
                refine r_iconst (pc := 144) hX 5 dX0_coverSmall_144 (by decide) ?_
                refine r_callSN (Z := mX11_put) (pc := 145) hX dX0_coverSmall_145 mn_X0_58 mX11_put_w (sp_X11_put (o_X0_a3 h)) rfl rfl (Nat.le_of_ble_eq_true rfl) (by decide) rfl (Or.inl rfl) ?_
                refine r_aload_n (pc := 148) hX dX0_coverSmall_148 rfl ?_
                refine r_getr (pc := 149) hX dX0_coverSmall_149 fl_X0_19 rfl (o_X0_k h) (o_X0_r0 h) ?_
                refine r_iload_n (pc := 152) hX dX0_coverSmall_152 rfl ?_
                refine r_iload (pc := 153) hX dX0_coverSmall_153 rfl ?_
                refine r_callSN (Z := mX11_put) (pc := 155) hX dX0_coverSmall_155 mn_X0_58 mX11_put_w (sp_X11_put (o_X0_a0 h)) rfl rfl (Nat.le_of_ble_eq_true rfl) (by decide) rfl (Or.inl rfl) ?_
                refine r_aload_n (pc := 158) hX dX0_coverSmall_158 rfl ?_
                refine r_getr (pc := 159) hX dX0_coverSmall_159 fl_X0_26 rfl (o_X0_k h) (o_X0_r4 h) ?_
                refine r_iload_n (pc := 162) hX dX0_coverSmall_162 rfl ?_
                refine r_iload_n (pc := 163) hX dX0_coverSmall_163 rfl ?_
                refine r_iconst (pc := 164) hX 3 dX0_coverSmall_164 (by decide) ?_
                refine r_icmp_ne (pc := 165) hX 174 dX0_coverSmall_165 (by decide) (fun c165 => ?_) (fun c165 => ?_)
                · exact absurd c32 c165
                · refine r_iload (pc := 168) hX dX0_coverSmall_168 rfl ?_
                  refine r_ineg (pc := 170) hX dX0_coverSmall_170 ?_
                  refine r_goto (pc := 171) hX (tgt := 176) dX0_coverSmall_171 (by decide) ?_
                  refine r_callSN (Z := mX11_put) (pc := 176) hX dX0_coverSmall_176 mn_X0_58 mX11_put_w (sp_X11_put (o_X0_a4 h)) rfl rfl (Nat.le_of_ble_eq_true rfl) (by decide) rfl (Or.inl rfl) ?_
                  refine r_aload_n (pc := 179) hX dX0_coverSmall_179 rfl ?_
                  refine r_getr (pc := 180) hX dX0_coverSmall_180 fl_X0_29 rfl (o_X0_k h) (o_X0_r5 h) ?_
                  refine r_iload_n (pc := 183) hX dX0_coverSmall_183 rfl ?_
                  refine r_iload (pc := 184) hX dX0_coverSmall_184 rfl ?_
                  refine r_iconst (pc := 186) hX (-1) dX0_coverSmall_186 (by decide) ?_
                  refine r_iconst (pc := 187) hX (-1) dX0_coverSmall_187 (by decide) ?_
                  refine r_callS (Z := mX0_setNodes) (pc := 188) hX dX0_coverSmall_188 ml_X0_75 mX0_setNodes_w (sp_X0_setNodes (o_X0_a5 h)) rfl rfl (Nat.le_of_ble_eq_true rfl) (by decide) rfl (Or.inl rfl) ?_
                  refine r_aload_n (pc := 191) hX dX0_coverSmall_191 rfl ?_
                  refine r_getr (pc := 192) hX dX0_coverSmall_192 fl_X0_32 rfl (o_X0_k h) (o_X0_r6 h) ?_
                  refine r_iload_n (pc := 195) hX dX0_coverSmall_195 rfl ?_
                  refine r_iload (pc := 196) hX dX0_coverSmall_196 rfl ?_
                  refine r_iconst (pc := 198) hX (-1) dX0_coverSmall_198 (by decide) ?_
                  refine r_iconst (pc := 199) hX (-1) dX0_coverSmall_199 (by decide) ?_
                  refine r_callS (Z := mX0_setNodes) (pc := 200) hX dX0_coverSmall_200 ml_X0_75 mX0_setNodes_w (sp_X0_setNodes (o_X0_a6 h)) rfl rfl (Nat.le_of_ble_eq_true rfl) (by decide) rfl (Or.inl rfl) ?_
                  exact r_return (pc := 203) hX dX0_coverSmall_203 rfl rfl (by first | with_reducible rfl | (simp only [coverSmall_, coverSmallBy_, eq_false c27, eq_true c32, c41, eq_false c113, eq_true c113d, eq_true c165, ↓reduceIte, if_true, if_false, decide_true, decide_false, eq_self, b2i_t, b2i_f, Bool.false_eq_true, and_true, true_and, and_false, false_and, or_true, true_or, or_false, false_or, not_true_eq_false, not_false_eq_true] <;> rfl) | simp [coverSmall_, coverSmallBy_, eq_false c27, eq_true c32, c41, eq_false c113, eq_true c113d, eq_true c165])
        · exact absurd c53 (by decide)
set_option maxRecDepth 100000 in
set_option maxHeartbeats 1000000 in
theorem sp_X0_coverFused {l : Launch} {k : im_K} {S : im_S} {I : im_I} {a m : Nat} {p0 : Int32} {p1 : Int32} (h : o_X0 S a m) : im_Runs l k 2 mX0_coverFused [.ref a, .int p0, .int p1] (S, I) (none) (S, coverFused_ I a m p0 p1) := by
  refine im_run (by decide +kernel) ⟨Nat.le_refl _, Nat.le_refl _⟩ (Nat.le_of_ble_eq_true rfl) ?_
  intro X hl hX hxn hxz hxc hxs
  subst hl
  change im_E X k _ 0 [some (.ref a), some (.int p0), some (.int p1), none, none, none, none, none, none, none] [] S I
  refine r_aload_n (pc := 0) hX dX0_coverFused_0 rfl ?_
  refine r_getr (pc := 1) hX dX0_coverFused_1 fl_X0_9 rfl (o_X0_k h) (o_X0_r1 h) ?_
  refine r_getr (pc := 4) hX dX0_coverFused_4 fl_X0_85 rfl (o_X8_k (o_X0_o1 h)) (o_X8_r5 (o_X0_o1 h)) ?_
  refine r_iload_n (pc := 7) hX dX0_coverFused_7 rfl ?_
  refine r_callSN (Z := mX11_at) (pc := 8) hX dX0_coverFused_8 mn_X0_54 mX11_at_w (sp_X11_at (o_X8_a5 (o_X0_o1 h))) rfl rfl (Nat.le_of_ble_eq_true rfl) (by decide) rfl (Or.inl rfl) ?_
  refine r_istore_n (pc := 11) hX (L' := [_, _, _, _, _, _, _, _, _, _]) dX0_coverFused_11 rfl rfl (Nat.le_of_ble_eq_true rfl) ?_
  refine r_aload_n (pc := 12) hX dX0_coverFused_12 rfl ?_
  refine r_getr (pc := 13) hX dX0_coverFused_13 fl_X0_9 rfl (o_X0_k h) (o_X0_r1 h) ?_
  refine r_getr (pc := 16) hX dX0_coverFused_16 fl_X0_88 rfl (o_X8_k (o_X0_o1 h)) (o_X8_r6 (o_X0_o1 h)) ?_
  refine r_iload_n (pc := 19) hX dX0_coverFused_19 rfl ?_
  refine r_callSN (Z := mX11_at) (pc := 20) hX dX0_coverFused_20 mn_X0_54 mX11_at_w (sp_X11_at (o_X8_a6 (o_X0_o1 h))) rfl rfl (Nat.le_of_ble_eq_true rfl) (by decide) rfl (Or.inl rfl) ?_
  refine r_istore (pc := 23) hX (L' := [_, _, _, _, _, _, _, _, _, _]) dX0_coverFused_23 rfl rfl (Nat.le_of_ble_eq_true rfl) ?_
  refine r_aload_n (pc := 25) hX dX0_coverFused_25 rfl ?_
  refine r_getr (pc := 26) hX dX0_coverFused_26 fl_X0_9 rfl (o_X0_k h) (o_X0_r1 h) ?_
  refine r_getr (pc := 29) hX dX0_coverFused_29 fl_X0_53 rfl (o_X8_k (o_X0_o1 h)) (o_X8_r4 (o_X0_o1 h)) ?_
  refine r_iload_n (pc := 32) hX dX0_coverFused_32 rfl ?_
  refine r_callSN (Z := mX11_at) (pc := 33) hX dX0_coverFused_33 mn_X0_54 mX11_at_w (sp_X11_at (o_X8_a4 (o_X0_o1 h))) rfl rfl (Nat.le_of_ble_eq_true rfl) (by decide) rfl (Or.inl rfl) ?_
  refine r_iconst (pc := 36) hX 4 dX0_coverFused_36 (by decide) ?_
  refine r_icmp_ne (pc := 37) hX 44 dX0_coverFused_37 (by decide) (fun c37 => ?_) (fun c37 => ?_)
  · refine r_iconst (pc := 44) hX 0 dX0_coverFused_44 (by decide) ?_
    refine r_istore (pc := 45) hX (L' := [_, _, _, _, _, _, _, _, _, _]) dX0_coverFused_45 rfl rfl (Nat.le_of_ble_eq_true rfl) ?_
    refine r_aload_n (pc := 47) hX dX0_coverFused_47 rfl ?_
    refine r_getr (pc := 48) hX dX0_coverFused_48 fl_X0_15 rfl (o_X0_k h) (o_X0_r2 h) ?_
    refine r_geti (pc := 51) hX dX0_coverFused_51 fl_X0_98 rfl (o_X5_k (o_X0_o2 h)) ?_
    refine r_if_eq (pc := 54) hX 83 dX0_coverFused_54 (by decide) (fun c54 => ?_) (fun c54 => ?_)
    · exact r_return (pc := 83) hX dX0_coverFused_83 rfl rfl (by first | with_reducible rfl | (simp only [coverFused_, coverFusedBy_, eq_false c37, eq_true c54, ↓reduceIte, if_true, if_false, decide_true, decide_false, eq_self, b2i_t, b2i_f, Bool.false_eq_true, and_true, true_and, and_false, false_and, or_true, true_or, or_false, false_or, not_true_eq_false, not_false_eq_true] <;> rfl) | simp [coverFused_, coverFusedBy_, eq_false c37, eq_true c54])
    · refine r_iload_n (pc := 57) hX dX0_coverFused_57 rfl ?_
      refine r_iconst (pc := 58) hX 2 dX0_coverFused_58 (by decide) ?_
      refine r_icmp_ne (pc := 59) hX 83 dX0_coverFused_59 (by decide) (fun c59 => ?_) (fun c59 => ?_)
      · exact r_return (pc := 83) hX dX0_coverFused_83 rfl rfl (by first | with_reducible rfl | (simp only [coverFused_, coverFusedBy_, eq_false c37, eq_false c54, eq_false c59, ↓reduceIte, if_true, if_false, decide_true, decide_false, eq_self, b2i_t, b2i_f, Bool.false_eq_true, and_true, true_and, and_false, false_and, or_true, true_or, or_false, false_or, not_true_eq_false, not_false_eq_true] <;> rfl) | simp [coverFused_, coverFusedBy_, eq_false c37, eq_false c54, eq_false c59])
      · refine r_iload (pc := 62) hX dX0_coverFused_62 rfl ?_
        refine r_if_ne (pc := 64) hX 84 dX0_coverFused_64 (by decide) (fun c64 => ?_) (fun c64 => ?_)
        · exact absurd c64 (by decide)
        · refine r_aload_n (pc := 67) hX dX0_coverFused_67 rfl ?_
          refine r_getr (pc := 68) hX dX0_coverFused_68 fl_X0_9 rfl (o_X0_k h) (o_X0_r1 h) ?_
          refine r_getr (pc := 71) hX dX0_coverFused_71 fl_X0_53 rfl (o_X8_k (o_X0_o1 h)) (o_X8_r4 (o_X0_o1 h)) ?_
          refine r_iload (pc := 74) hX dX0_coverFused_74 rfl ?_
          refine r_callSN (Z := mX11_at) (pc := 76) hX dX0_coverFused_76 mn_X0_54 mX11_at_w (sp_X11_at (o_X8_a4 (o_X0_o1 h))) rfl rfl (Nat.le_of_ble_eq_true rfl) (by decide) rfl (Or.inl rfl) ?_
          refine r_iconst (pc := 79) hX 4 dX0_coverFused_79 (by decide) ?_
          refine r_icmp_eq (pc := 80) hX 84 dX0_coverFused_80 (by decide) (fun c80 => ?_) (fun c80 => ?_)
          · refine r_aload_n (pc := 84) hX dX0_coverFused_84 rfl ?_
            refine r_getr (pc := 85) hX dX0_coverFused_85 fl_X0_9 rfl (o_X0_k h) (o_X0_r1 h) ?_
            refine r_getr (pc := 88) hX dX0_coverFused_88 fl_X0_85 rfl (o_X8_k (o_X0_o1 h)) (o_X8_r5 (o_X0_o1 h)) ?_
            refine r_iload (pc := 91) hX dX0_coverFused_91 rfl ?_
            refine r_if_eq (pc := 93) hX 100 dX0_coverFused_93 (by decide) (fun c93 => ?_) (fun c93 => ?_)
            · refine r_iload (pc := 100) hX dX0_coverFused_100 rfl ?_
              refine r_callSN (Z := mX11_at) (pc := 102) hX dX0_coverFused_102 mn_X0_54 mX11_at_w (sp_X11_at (o_X8_a5 (o_X0_o1 h))) rfl rfl (Nat.le_of_ble_eq_true rfl) (by decide) rfl (Or.inl rfl) ?_
              refine r_istore (pc := 105) hX (L' := [_, _, _, _, _, _, _, _, _, _]) dX0_coverFused_105 rfl rfl (Nat.le_of_ble_eq_true rfl) ?_
              refine r_aload_n (pc := 107) hX dX0_coverFused_107 rfl ?_
              refine r_getr (pc := 108) hX dX0_coverFused_108 fl_X0_9 rfl (o_X0_k h) (o_X0_r1 h) ?_
              refine r_getr (pc := 111) hX dX0_coverFused_111 fl_X0_88 rfl (o_X8_k (o_X0_o1 h)) (o_X8_r6 (o_X0_o1 h)) ?_
              refine r_iload (pc := 114) hX dX0_coverFused_114 rfl ?_
              refine r_if_eq (pc := 116) hX 123 dX0_coverFused_116 (by decide) (fun c116 => ?_) (fun c116 => ?_)
              · refine r_iload (pc := 123) hX dX0_coverFused_123 rfl ?_
                refine r_callSN (Z := mX11_at) (pc := 125) hX dX0_coverFused_125 mn_X0_54 mX11_at_w (sp_X11_at (o_X8_a6 (o_X0_o1 h))) rfl rfl (Nat.le_of_ble_eq_true rfl) (by decide) rfl (Or.inl rfl) ?_
                refine r_istore (pc := 128) hX (L' := [_, _, _, _, _, _, _, _, _, _]) dX0_coverFused_128 rfl rfl (Nat.le_of_ble_eq_true rfl) ?_
                refine r_iload (pc := 130) hX dX0_coverFused_130 rfl ?_
                refine r_if_eq (pc := 132) hX 140 dX0_coverFused_132 (by decide) (fun c132 => ?_) (fun c132 => ?_)
                · refine r_iload_n (pc := 140) hX dX0_coverFused_140 rfl ?_
                  refine r_istore (pc := 141) hX (L' := [_, _, _, _, _, _, _, _, _, _]) dX0_coverFused_141 rfl rfl (Nat.le_of_ble_eq_true rfl) ?_
                  refine r_aload_n (pc := 143) hX dX0_coverFused_143 rfl ?_
                  refine r_getr (pc := 144) hX dX0_coverFused_144 fl_X0_15 rfl (o_X0_k h) (o_X0_r2 h) ?_
                  refine r_bipush (pc := 147) hX 6 dX0_coverFused_147 (by decide) ?_
                  refine r_callV (Z := mX5_cyclesOf) (t := 5) (pc := 149) hX dX0_coverFused_149 ml_X0_79 mX5_cyclesOf_w ⟨by decide, rfl⟩ (o_X5_k (o_X0_o2 h)) (sp_X5_cyclesOf (o_X0_o2 h)) rfl rfl (Nat.le_of_ble_eq_true rfl) (by decide) rfl (Or.inl rfl) ?_
                  refine r_aload_n (pc := 152) hX dX0_coverFused_152 rfl ?_
                  refine r_getr (pc := 153) hX dX0_coverFused_153 fl_X0_19 rfl (o_X0_k h) (o_X0_r0 h) ?_
                  refine r_iload (pc := 156) hX dX0_coverFused_156 rfl ?_
                  refine r_callSN (Z := mX11_at) (pc := 158) hX dX0_coverFused_158 mn_X0_54 mX11_at_w (sp_X11_at (o_X0_a0 h)) rfl rfl (Nat.le_of_ble_eq_true rfl) (by decide) rfl (Or.inl rfl) ?_
                  refine r_iadd (pc := 161) hX dX0_coverFused_161 ?_
                  refine r_aload_n (pc := 162) hX dX0_coverFused_162 rfl ?_
                  refine r_getr (pc := 163) hX dX0_coverFused_163 fl_X0_19 rfl (o_X0_k h) (o_X0_r0 h) ?_
                  refine r_iload (pc := 166) hX dX0_coverFused_166 rfl ?_
                  refine r_callSN (Z := mX11_at) (pc := 168) hX dX0_coverFused_168 mn_X0_54 mX11_at_w (sp_X11_at (o_X0_a0 h)) rfl rfl (Nat.le_of_ble_eq_true rfl) (by decide) rfl (Or.inl rfl) ?_
                  refine r_iadd (pc := 171) hX dX0_coverFused_171 ?_
                  refine r_aload_n (pc := 172) hX dX0_coverFused_172 rfl ?_
                  refine r_getr (pc := 173) hX dX0_coverFused_173 fl_X0_19 rfl (o_X0_k h) (o_X0_r0 h) ?_
                  refine r_iload (pc := 176) hX dX0_coverFused_176 rfl ?_
                  refine r_callSN (Z := mX11_at) (pc := 178) hX dX0_coverFused_178 mn_X0_54 mX11_at_w (sp_X11_at (o_X0_a0 h)) rfl rfl (Nat.le_of_ble_eq_true rfl) (by decide) rfl (Or.inl rfl) ?_
                  refine r_iadd (pc := 181) hX dX0_coverFused_181 ?_
                  refine r_istore (pc := 182) hX (L' := [_, _, _, _, _, _, _, _, _, _]) dX0_coverFused_182 rfl rfl (Nat.le_of_ble_eq_true rfl) ?_
                  refine r_iload (pc := 184) hX dX0_coverFused_184 rfl ?_
                  refine r_aload_n (pc := 186) hX dX0_coverFused_186 rfl ?_
                  refine r_getr (pc := 187) hX dX0_coverFused_187 fl_X0_19 rfl (o_X0_k h) (o_X0_r0 h) ?_
                  refine r_iload_n (pc := 190) hX dX0_coverFused_190 rfl ?_
                  refine r_callSN (Z := mX11_at) (pc := 191) hX dX0_coverFused_191 mn_X0_54 mX11_at_w (sp_X11_at (o_X0_a0 h)) rfl rfl (Nat.le_of_ble_eq_true rfl) (by decide) rfl (Or.inl rfl) ?_
                  refine r_icmp_ge (pc := 194) hX 276 dX0_coverFused_194 (by decide) (fun c194 => ?_) (fun c194 => ?_)
                  · have c194d := Int32.not_lt.mpr c194
                    exact r_return (pc := 276) hX dX0_coverFused_276 rfl rfl (by first | with_reducible rfl | (simp only [coverFused_, coverFusedBy_, eq_false c37, eq_false c54, eq_true c59, eq_true c80, eq_true c194, eq_false c194d, ↓reduceIte, if_true, if_false, decide_true, decide_false, eq_self, b2i_t, b2i_f, Bool.false_eq_true, and_true, true_and, and_false, false_and, or_true, true_or, or_false, false_or, not_true_eq_false, not_false_eq_true] <;> rfl) | simp [coverFused_, coverFusedBy_, eq_false c37, eq_false c54, eq_true c59, eq_true c80, eq_true c194, eq_false c194d])
                  · have c194d := Int32.not_le.mp c194
                    refine r_aload_n (pc := 197) hX dX0_coverFused_197 rfl ?_
                    refine r_getr (pc := 198) hX dX0_coverFused_198 fl_X0_23 rfl (o_X0_k h) (o_X0_r3 h) ?_
                    refine r_iload_n (pc := 201) hX dX0_coverFused_201 rfl ?_
                    refine r_bipush (pc := 202) hX 6 dX0_coverFused_202 (by decide) ?_
                    refine r_callSN (Z := mX11_put) (pc := 204) hX dX0_coverFused_204 mn_X0_58 mX11_put_w (sp_X11_put (o_X0_a3 h)) rfl rfl (Nat.le_of_ble_eq_true rfl) (by decide) rfl (Or.inl rfl) ?_
                    refine r_aload_n (pc := 207) hX dX0_coverFused_207 rfl ?_
                    refine r_getr (pc := 208) hX dX0_coverFused_208 fl_X0_19 rfl (o_X0_k h) (o_X0_r0 h) ?_
                    refine r_iload_n (pc := 211) hX dX0_coverFused_211 rfl ?_
                    refine r_iload (pc := 212) hX dX0_coverFused_212 rfl ?_
                    refine r_callSN (Z := mX11_put) (pc := 214) hX dX0_coverFused_214 mn_X0_58 mX11_put_w (sp_X11_put (o_X0_a0 h)) rfl rfl (Nat.le_of_ble_eq_true rfl) (by decide) rfl (Or.inl rfl) ?_
                    refine r_aload_n (pc := 217) hX dX0_coverFused_217 rfl ?_
                    refine r_getr (pc := 218) hX dX0_coverFused_218 fl_X0_26 rfl (o_X0_k h) (o_X0_r4 h) ?_
                    refine r_iload_n (pc := 221) hX dX0_coverFused_221 rfl ?_
                    refine r_iconst (pc := 222) hX 0 dX0_coverFused_222 (by decide) ?_
                    refine r_callSN (Z := mX11_put) (pc := 223) hX dX0_coverFused_223 mn_X0_58 mX11_put_w (sp_X11_put (o_X0_a4 h)) rfl rfl (Nat.le_of_ble_eq_true rfl) (by decide) rfl (Or.inl rfl) ?_
                    refine r_aload_n (pc := 226) hX dX0_coverFused_226 rfl ?_
                    refine r_getr (pc := 227) hX dX0_coverFused_227 fl_X0_29 rfl (o_X0_k h) (o_X0_r5 h) ?_
                    refine r_iload_n (pc := 230) hX dX0_coverFused_230 rfl ?_
                    refine r_iload (pc := 231) hX dX0_coverFused_231 rfl ?_
                    refine r_iload (pc := 233) hX dX0_coverFused_233 rfl ?_
                    refine r_iload (pc := 235) hX dX0_coverFused_235 rfl ?_
                    refine r_callS (Z := mX0_setNodes) (pc := 237) hX dX0_coverFused_237 ml_X0_75 mX0_setNodes_w (sp_X0_setNodes (o_X0_a5 h)) rfl rfl (Nat.le_of_ble_eq_true rfl) (by decide) rfl (Or.inl rfl) ?_
                    refine r_iload (pc := 240) hX dX0_coverFused_240 rfl ?_
                    refine r_if_eq (pc := 242) hX 262 dX0_coverFused_242 (by decide) (fun c242 => ?_) (fun c242 => ?_)
                    · refine r_aload_n (pc := 262) hX dX0_coverFused_262 rfl ?_
                      refine r_getr (pc := 263) hX dX0_coverFused_263 fl_X0_32 rfl (o_X0_k h) (o_X0_r6 h) ?_
                      refine r_iload_n (pc := 266) hX dX0_coverFused_266 rfl ?_
                      refine r_iload (pc := 267) hX dX0_coverFused_267 rfl ?_
                      refine r_iload (pc := 269) hX dX0_coverFused_269 rfl ?_
                      refine r_iload (pc := 271) hX dX0_coverFused_271 rfl ?_
                      refine r_callS (Z := mX0_setNodes) (pc := 273) hX dX0_coverFused_273 ml_X0_75 mX0_setNodes_w (sp_X0_setNodes (o_X0_a6 h)) rfl rfl (Nat.le_of_ble_eq_true rfl) (by decide) rfl (Or.inl rfl) ?_
                      exact r_return (pc := 276) hX dX0_coverFused_276 rfl rfl (by first | with_reducible rfl | (simp only [coverFused_, coverFusedBy_, eq_false c37, eq_false c54, eq_true c59, eq_true c80, eq_false c194, eq_true c194d, ↓reduceIte, if_true, if_false, decide_true, decide_false, eq_self, b2i_t, b2i_f, Bool.false_eq_true, and_true, true_and, and_false, false_and, or_true, true_or, or_false, false_or, not_true_eq_false, not_false_eq_true] <;> rfl) | simp [coverFused_, coverFusedBy_, eq_false c37, eq_false c54, eq_true c59, eq_true c80, eq_false c194, eq_true c194d])
                    · exact absurd c242 (by decide)
                · exact absurd c132 (by decide)
              · exact absurd c116 (by decide)
            · exact absurd c93 (by decide)
          · exact r_return (pc := 83) hX dX0_coverFused_83 rfl rfl (by first | with_reducible rfl | (simp only [coverFused_, coverFusedBy_, eq_false c37, eq_false c54, eq_true c59, eq_false c80, ↓reduceIte, if_true, if_false, decide_true, decide_false, eq_self, b2i_t, b2i_f, Bool.false_eq_true, and_true, true_and, and_false, false_and, or_true, true_or, or_false, false_or, not_true_eq_false, not_false_eq_true] <;> rfl) | simp [coverFused_, coverFusedBy_, eq_false c37, eq_false c54, eq_true c59, eq_false c80])
  · refine r_iconst (pc := 40) hX 1 dX0_coverFused_40 (by decide) ?_
    refine r_goto (pc := 41) hX (tgt := 45) dX0_coverFused_41 (by decide) ?_
    refine r_istore (pc := 45) hX (L' := [_, _, _, _, _, _, _, _, _, _]) dX0_coverFused_45 rfl rfl (Nat.le_of_ble_eq_true rfl) ?_
    refine r_aload_n (pc := 47) hX dX0_coverFused_47 rfl ?_
    refine r_getr (pc := 48) hX dX0_coverFused_48 fl_X0_15 rfl (o_X0_k h) (o_X0_r2 h) ?_
    refine r_geti (pc := 51) hX dX0_coverFused_51 fl_X0_98 rfl (o_X5_k (o_X0_o2 h)) ?_
    refine r_if_eq (pc := 54) hX 83 dX0_coverFused_54 (by decide) (fun c54 => ?_) (fun c54 => ?_)
    · exact r_return (pc := 83) hX dX0_coverFused_83 rfl rfl (by first | with_reducible rfl | (simp only [coverFused_, coverFusedBy_, eq_true c37, eq_true c54, ↓reduceIte, if_true, if_false, decide_true, decide_false, eq_self, b2i_t, b2i_f, Bool.false_eq_true, and_true, true_and, and_false, false_and, or_true, true_or, or_false, false_or, not_true_eq_false, not_false_eq_true] <;> rfl) | simp [coverFused_, coverFusedBy_, eq_true c37, eq_true c54])
    · refine r_iload_n (pc := 57) hX dX0_coverFused_57 rfl ?_
      refine r_iconst (pc := 58) hX 2 dX0_coverFused_58 (by decide) ?_
      refine r_icmp_ne (pc := 59) hX 83 dX0_coverFused_59 (by decide) (fun c59 => ?_) (fun c59 => ?_)
      · exact r_return (pc := 83) hX dX0_coverFused_83 rfl rfl (by first | with_reducible rfl | (simp only [coverFused_, coverFusedBy_, eq_true c37, eq_false c54, eq_false c59, ↓reduceIte, if_true, if_false, decide_true, decide_false, eq_self, b2i_t, b2i_f, Bool.false_eq_true, and_true, true_and, and_false, false_and, or_true, true_or, or_false, false_or, not_true_eq_false, not_false_eq_true] <;> rfl) | simp [coverFused_, coverFusedBy_, eq_true c37, eq_false c54, eq_false c59])
      · refine r_iload (pc := 62) hX dX0_coverFused_62 rfl ?_
        refine r_if_ne (pc := 64) hX 84 dX0_coverFused_64 (by decide) (fun c64 => ?_) (fun c64 => ?_)
        · refine r_aload_n (pc := 84) hX dX0_coverFused_84 rfl ?_
          refine r_getr (pc := 85) hX dX0_coverFused_85 fl_X0_9 rfl (o_X0_k h) (o_X0_r1 h) ?_
          refine r_getr (pc := 88) hX dX0_coverFused_88 fl_X0_85 rfl (o_X8_k (o_X0_o1 h)) (o_X8_r5 (o_X0_o1 h)) ?_
          refine r_iload (pc := 91) hX dX0_coverFused_91 rfl ?_
          refine r_if_eq (pc := 93) hX 100 dX0_coverFused_93 (by decide) (fun c93 => ?_) (fun c93 => ?_)
          · exact absurd c93 (by decide)
          · refine r_iload_n (pc := 96) hX dX0_coverFused_96 rfl ?_
            refine r_goto (pc := 97) hX (tgt := 102) dX0_coverFused_97 (by decide) ?_
            refine r_callSN (Z := mX11_at) (pc := 102) hX dX0_coverFused_102 mn_X0_54 mX11_at_w (sp_X11_at (o_X8_a5 (o_X0_o1 h))) rfl rfl (Nat.le_of_ble_eq_true rfl) (by decide) rfl (Or.inl rfl) ?_
            refine r_istore (pc := 105) hX (L' := [_, _, _, _, _, _, _, _, _, _]) dX0_coverFused_105 rfl rfl (Nat.le_of_ble_eq_true rfl) ?_
            refine r_aload_n (pc := 107) hX dX0_coverFused_107 rfl ?_
            refine r_getr (pc := 108) hX dX0_coverFused_108 fl_X0_9 rfl (o_X0_k h) (o_X0_r1 h) ?_
            refine r_getr (pc := 111) hX dX0_coverFused_111 fl_X0_88 rfl (o_X8_k (o_X0_o1 h)) (o_X8_r6 (o_X0_o1 h)) ?_
            refine r_iload (pc := 114) hX dX0_coverFused_114 rfl ?_
            refine r_if_eq (pc := 116) hX 123 dX0_coverFused_116 (by decide) (fun c116 => ?_) (fun c116 => ?_)
            · exact absurd c116 (by decide)
            · refine r_iload_n (pc := 119) hX dX0_coverFused_119 rfl ?_
              refine r_goto (pc := 120) hX (tgt := 125) dX0_coverFused_120 (by decide) ?_
              refine r_callSN (Z := mX11_at) (pc := 125) hX dX0_coverFused_125 mn_X0_54 mX11_at_w (sp_X11_at (o_X8_a6 (o_X0_o1 h))) rfl rfl (Nat.le_of_ble_eq_true rfl) (by decide) rfl (Or.inl rfl) ?_
              refine r_istore (pc := 128) hX (L' := [_, _, _, _, _, _, _, _, _, _]) dX0_coverFused_128 rfl rfl (Nat.le_of_ble_eq_true rfl) ?_
              refine r_iload (pc := 130) hX dX0_coverFused_130 rfl ?_
              refine r_if_eq (pc := 132) hX 140 dX0_coverFused_132 (by decide) (fun c132 => ?_) (fun c132 => ?_)
              · exact absurd c132 (by decide)
              · refine r_iload (pc := 135) hX dX0_coverFused_135 rfl ?_
                refine r_goto (pc := 137) hX (tgt := 141) dX0_coverFused_137 (by decide) ?_
                refine r_istore (pc := 141) hX (L' := [_, _, _, _, _, _, _, _, _, _]) dX0_coverFused_141 rfl rfl (Nat.le_of_ble_eq_true rfl) ?_
                refine r_aload_n (pc := 143) hX dX0_coverFused_143 rfl ?_
                refine r_getr (pc := 144) hX dX0_coverFused_144 fl_X0_15 rfl (o_X0_k h) (o_X0_r2 h) ?_
                refine r_bipush (pc := 147) hX 6 dX0_coverFused_147 (by decide) ?_
                refine r_callV (Z := mX5_cyclesOf) (t := 5) (pc := 149) hX dX0_coverFused_149 ml_X0_79 mX5_cyclesOf_w ⟨by decide, rfl⟩ (o_X5_k (o_X0_o2 h)) (sp_X5_cyclesOf (o_X0_o2 h)) rfl rfl (Nat.le_of_ble_eq_true rfl) (by decide) rfl (Or.inl rfl) ?_
                refine r_aload_n (pc := 152) hX dX0_coverFused_152 rfl ?_
                refine r_getr (pc := 153) hX dX0_coverFused_153 fl_X0_19 rfl (o_X0_k h) (o_X0_r0 h) ?_
                refine r_iload (pc := 156) hX dX0_coverFused_156 rfl ?_
                refine r_callSN (Z := mX11_at) (pc := 158) hX dX0_coverFused_158 mn_X0_54 mX11_at_w (sp_X11_at (o_X0_a0 h)) rfl rfl (Nat.le_of_ble_eq_true rfl) (by decide) rfl (Or.inl rfl) ?_
                refine r_iadd (pc := 161) hX dX0_coverFused_161 ?_
                refine r_aload_n (pc := 162) hX dX0_coverFused_162 rfl ?_
                refine r_getr (pc := 163) hX dX0_coverFused_163 fl_X0_19 rfl (o_X0_k h) (o_X0_r0 h) ?_
                refine r_iload (pc := 166) hX dX0_coverFused_166 rfl ?_
                refine r_callSN (Z := mX11_at) (pc := 168) hX dX0_coverFused_168 mn_X0_54 mX11_at_w (sp_X11_at (o_X0_a0 h)) rfl rfl (Nat.le_of_ble_eq_true rfl) (by decide) rfl (Or.inl rfl) ?_
                refine r_iadd (pc := 171) hX dX0_coverFused_171 ?_
                refine r_aload_n (pc := 172) hX dX0_coverFused_172 rfl ?_
                refine r_getr (pc := 173) hX dX0_coverFused_173 fl_X0_19 rfl (o_X0_k h) (o_X0_r0 h) ?_
                refine r_iload (pc := 176) hX dX0_coverFused_176 rfl ?_
                refine r_callSN (Z := mX11_at) (pc := 178) hX dX0_coverFused_178 mn_X0_54 mX11_at_w (sp_X11_at (o_X0_a0 h)) rfl rfl (Nat.le_of_ble_eq_true rfl) (by decide) rfl (Or.inl rfl) ?_
                refine r_iadd (pc := 181) hX dX0_coverFused_181 ?_
                refine r_istore (pc := 182) hX (L' := [_, _, _, _, _, _, _, _, _, _]) dX0_coverFused_182 rfl rfl (Nat.le_of_ble_eq_true rfl) ?_
                refine r_iload (pc := 184) hX dX0_coverFused_184 rfl ?_
                refine r_aload_n (pc := 186) hX dX0_coverFused_186 rfl ?_
                refine r_getr (pc := 187) hX dX0_coverFused_187 fl_X0_19 rfl (o_X0_k h) (o_X0_r0 h) ?_
                refine r_iload_n (pc := 190) hX dX0_coverFused_190 rfl ?_
                refine r_callSN (Z := mX11_at) (pc := 191) hX dX0_coverFused_191 mn_X0_54 mX11_at_w (sp_X11_at (o_X0_a0 h)) rfl rfl (Nat.le_of_ble_eq_true rfl) (by decide) rfl (Or.inl rfl) ?_
                refine r_icmp_ge (pc := 194) hX 276 dX0_coverFused_194 (by decide) (fun c194 => ?_) (fun c194 => ?_)
                · have c194d := Int32.not_lt.mpr c194
                  exact r_return (pc := 276) hX dX0_coverFused_276 rfl rfl (by first | with_reducible rfl | (simp only [coverFused_, coverFusedBy_, eq_true c37, eq_false c54, eq_true c59, eq_true c194, eq_false c194d, ↓reduceIte, if_true, if_false, decide_true, decide_false, eq_self, b2i_t, b2i_f, Bool.false_eq_true, and_true, true_and, and_false, false_and, or_true, true_or, or_false, false_or, not_true_eq_false, not_false_eq_true] <;> rfl) | simp [coverFused_, coverFusedBy_, eq_true c37, eq_false c54, eq_true c59, eq_true c194, eq_false c194d])
                · have c194d := Int32.not_le.mp c194
                  refine r_aload_n (pc := 197) hX dX0_coverFused_197 rfl ?_
                  refine r_getr (pc := 198) hX dX0_coverFused_198 fl_X0_23 rfl (o_X0_k h) (o_X0_r3 h) ?_
                  refine r_iload_n (pc := 201) hX dX0_coverFused_201 rfl ?_
                  refine r_bipush (pc := 202) hX 6 dX0_coverFused_202 (by decide) ?_
                  refine r_callSN (Z := mX11_put) (pc := 204) hX dX0_coverFused_204 mn_X0_58 mX11_put_w (sp_X11_put (o_X0_a3 h)) rfl rfl (Nat.le_of_ble_eq_true rfl) (by decide) rfl (Or.inl rfl) ?_
                  refine r_aload_n (pc := 207) hX dX0_coverFused_207 rfl ?_
                  refine r_getr (pc := 208) hX dX0_coverFused_208 fl_X0_19 rfl (o_X0_k h) (o_X0_r0 h) ?_
                  refine r_iload_n (pc := 211) hX dX0_coverFused_211 rfl ?_
                  refine r_iload (pc := 212) hX dX0_coverFused_212 rfl ?_
                  refine r_callSN (Z := mX11_put) (pc := 214) hX dX0_coverFused_214 mn_X0_58 mX11_put_w (sp_X11_put (o_X0_a0 h)) rfl rfl (Nat.le_of_ble_eq_true rfl) (by decide) rfl (Or.inl rfl) ?_
                  refine r_aload_n (pc := 217) hX dX0_coverFused_217 rfl ?_
                  refine r_getr (pc := 218) hX dX0_coverFused_218 fl_X0_26 rfl (o_X0_k h) (o_X0_r4 h) ?_
                  refine r_iload_n (pc := 221) hX dX0_coverFused_221 rfl ?_
                  refine r_iconst (pc := 222) hX 0 dX0_coverFused_222 (by decide) ?_
                  refine r_callSN (Z := mX11_put) (pc := 223) hX dX0_coverFused_223 mn_X0_58 mX11_put_w (sp_X11_put (o_X0_a4 h)) rfl rfl (Nat.le_of_ble_eq_true rfl) (by decide) rfl (Or.inl rfl) ?_
                  refine r_aload_n (pc := 226) hX dX0_coverFused_226 rfl ?_
                  refine r_getr (pc := 227) hX dX0_coverFused_227 fl_X0_29 rfl (o_X0_k h) (o_X0_r5 h) ?_
                  refine r_iload_n (pc := 230) hX dX0_coverFused_230 rfl ?_
                  refine r_iload (pc := 231) hX dX0_coverFused_231 rfl ?_
                  refine r_iload (pc := 233) hX dX0_coverFused_233 rfl ?_
                  refine r_iload (pc := 235) hX dX0_coverFused_235 rfl ?_
                  refine r_callS (Z := mX0_setNodes) (pc := 237) hX dX0_coverFused_237 ml_X0_75 mX0_setNodes_w (sp_X0_setNodes (o_X0_a5 h)) rfl rfl (Nat.le_of_ble_eq_true rfl) (by decide) rfl (Or.inl rfl) ?_
                  refine r_iload (pc := 240) hX dX0_coverFused_240 rfl ?_
                  refine r_if_eq (pc := 242) hX 262 dX0_coverFused_242 (by decide) (fun c242 => ?_) (fun c242 => ?_)
                  · exact absurd c242 (by decide)
                  · refine r_aload_n (pc := 245) hX dX0_coverFused_245 rfl ?_
                    refine r_getr (pc := 246) hX dX0_coverFused_246 fl_X0_32 rfl (o_X0_k h) (o_X0_r6 h) ?_
                    refine r_iload_n (pc := 249) hX dX0_coverFused_249 rfl ?_
                    refine r_iload (pc := 250) hX dX0_coverFused_250 rfl ?_
                    refine r_iload (pc := 252) hX dX0_coverFused_252 rfl ?_
                    refine r_iload (pc := 254) hX dX0_coverFused_254 rfl ?_
                    refine r_callS (Z := mX0_setNodes) (pc := 256) hX dX0_coverFused_256 ml_X0_75 mX0_setNodes_w (sp_X0_setNodes (o_X0_a6 h)) rfl rfl (Nat.le_of_ble_eq_true rfl) (by decide) rfl (Or.inl rfl) ?_
                    refine r_goto (pc := 259) hX (tgt := 276) dX0_coverFused_259 (by decide) ?_
                    exact r_return (pc := 276) hX dX0_coverFused_276 rfl rfl (by first | with_reducible rfl | (simp only [coverFused_, coverFusedBy_, eq_true c37, eq_false c54, eq_true c59, eq_false c194, eq_true c194d, ↓reduceIte, if_true, if_false, decide_true, decide_false, eq_self, b2i_t, b2i_f, Bool.false_eq_true, and_true, true_and, and_false, false_and, or_true, true_or, or_false, false_or, not_true_eq_false, not_false_eq_true] <;> rfl) | simp [coverFused_, coverFusedBy_, eq_true c37, eq_false c54, eq_true c59, eq_false c194, eq_true c194d])
        · exact absurd c64 (by decide)
set_option maxRecDepth 100000 in
set_option maxHeartbeats 1000000 in
theorem sp_X0_gather {l : Launch} {k : im_K} {S : im_S} {I : im_I} {a m : Nat} {p0 : Int32} (h : o_X0 S a m) : im_Runs l k 2 mX0_gather [.ref a, .int p0] (S, I) (some (.int (gather_ I a p0).1)) (S, (gather_ I a p0).2) := by
  refine im_run (by decide +kernel) ⟨Nat.le_refl _, Nat.le_refl _⟩ (Nat.le_of_ble_eq_true rfl) ?_
  intro X hl hX hxn hxz hxc hxs
  subst hl
  change im_E X k _ 0 [some (.ref a), some (.int p0), none, none, none] [] S I
  refine r_iconst (pc := 0) hX 0 dX0_gather_0 (by decide) ?_
  refine r_istore_n (pc := 1) hX (L' := [_, _, _, _, _]) dX0_gather_1 rfl rfl (Nat.le_of_ble_eq_true rfl) ?_
  refine r_aload_n (pc := 2) hX dX0_gather_2 rfl ?_
  refine r_iconst (pc := 3) hX 0 dX0_gather_3 (by decide) ?_
  refine r_puti (pc := 4) hX dX0_gather_4 fl_X0_116 rfl rfl (o_X0_k h) ?_
  refine r_aload_n (pc := 7) hX dX0_gather_7 rfl ?_
  refine r_iload_n (pc := 8) hX dX0_gather_8 rfl ?_
  refine r_callV (Z := mX0_push) (t := 0) (pc := 9) hX dX0_gather_9 ml_X0_119 mX0_push_w ⟨by decide, rfl⟩ (o_X0_k h) (sp_X0_push h) rfl rfl (Nat.le_of_ble_eq_true rfl) (by decide) rfl (Or.inl rfl) ?_
  have hL12 : ∀ (w1 : Nat) (i1 : Int32) (J1 : im_I), 80 ≤ i1.toInt + w1 → gatherN_ a w1 i1 J1 = gather_ I a p0 → im_E X k (im_Q X k (some (.int (gather_ I a p0).1)) (S, (gather_ I a p0).2)) 12 [some (.ref a), some (.int p0), some (.int i1), none, none] [] S J1 := by
    intro w1
    induction w1 with
    | zero =>
      intro i1 J1 hm1 hR1
      refine r_aload_n (pc := 12) hX dX0_gather_12 rfl ?_
      refine r_geti (pc := 13) hX dX0_gather_13 fl_X0_116 rfl (o_X0_k h) ?_
      refine r_if_le (pc := 16) hX 94 dX0_gather_16 (by decide) (fun c16 => ?_) (fun c16 => ?_)
      · have c16d := Int32.not_lt.mpr c16
        rw [gatherN_0] at hR1
        refine r_iload_n (pc := 94) hX dX0_gather_94 rfl ?_
        exact r_ireturn (pc := 95) hX dX0_gather_95 rfl rfl (by rw [← hR1]) (by rw [← hR1])
      · have c16d := Int32.not_le.mp c16
        refine r_iload_n (pc := 19) hX dX0_gather_19 rfl ?_
        refine r_bipush (pc := 20) hX 80 dX0_gather_20 (by decide) ?_
        refine r_icmp_ge (pc := 22) hX 94 dX0_gather_22 (by decide) (fun c22 => ?_) (fun c22 => ?_)
        · have c22d := Int32.not_lt.mpr c22
          rw [gatherN_0] at hR1
          refine r_iload_n (pc := 94) hX dX0_gather_94 rfl ?_
          exact r_ireturn (pc := 95) hX dX0_gather_95 rfl rfl (by rw [← hR1]) (by rw [← hR1])
        · have c22d := Int32.not_le.mp c22
          exact absurd hm1 (gath_0 c22)
    | succ w1 ih1 =>
      intro i1 J1 hm1 hR1
      refine r_aload_n (pc := 12) hX dX0_gather_12 rfl ?_
      refine r_geti (pc := 13) hX dX0_gather_13 fl_X0_116 rfl (o_X0_k h) ?_
      refine r_if_le (pc := 16) hX 94 dX0_gather_16 (by decide) (fun c16 => ?_) (fun c16 => ?_)
      · have c16d := Int32.not_lt.mpr c16
        rw [gatherN_s, if_pos c16] at hR1
        refine r_iload_n (pc := 94) hX dX0_gather_94 rfl ?_
        exact r_ireturn (pc := 95) hX dX0_gather_95 rfl rfl (by rw [← hR1]) (by rw [← hR1])
      · have c16d := Int32.not_le.mp c16
        refine r_iload_n (pc := 19) hX dX0_gather_19 rfl ?_
        refine r_bipush (pc := 20) hX 80 dX0_gather_20 (by decide) ?_
        refine r_icmp_ge (pc := 22) hX 94 dX0_gather_22 (by decide) (fun c22 => ?_) (fun c22 => ?_)
        · have c22d := Int32.not_lt.mpr c22
          rw [gatherN_s, if_neg c16, if_pos c22] at hR1
          refine r_iload_n (pc := 94) hX dX0_gather_94 rfl ?_
          exact r_ireturn (pc := 95) hX dX0_gather_95 rfl rfl (by rw [← hR1]) (by rw [← hR1])
        · have c22d := Int32.not_le.mp c22
          refine r_aload_n (pc := 25) hX dX0_gather_25 rfl ?_
          refine r_dup (pc := 26) hX dX0_gather_26 rfl ?_
          refine r_geti (pc := 27) hX dX0_gather_27 fl_X0_116 rfl (o_X0_k h) ?_
          refine r_iconst (pc := 30) hX 1 dX0_gather_30 (by decide) ?_
          refine r_isub (pc := 31) hX dX0_gather_31 ?_
          refine r_puti (pc := 32) hX dX0_gather_32 fl_X0_116 rfl rfl (o_X0_k h) ?_
          refine r_aload_n (pc := 35) hX dX0_gather_35 rfl ?_
          refine r_getr (pc := 36) hX dX0_gather_36 fl_X0_38 rfl (o_X0_k h) (o_X0_r8 h) ?_
          refine r_aload_n (pc := 39) hX dX0_gather_39 rfl ?_
          refine r_geti (pc := 40) hX dX0_gather_40 fl_X0_116 rfl (o_X0_k h) ?_
          refine r_callSN (Z := mX11_at) (pc := 43) hX dX0_gather_43 mn_X0_54 mX11_at_w (sp_X11_at (o_X0_a8 h)) rfl rfl (Nat.le_of_ble_eq_true rfl) (by decide) rfl (Or.inl rfl) ?_
          refine r_istore_n (pc := 46) hX (L' := [_, _, _, _, _]) dX0_gather_46 rfl rfl (Nat.le_of_ble_eq_true rfl) ?_
          refine r_aload_n (pc := 47) hX dX0_gather_47 rfl ?_
          refine r_getr (pc := 48) hX dX0_gather_48 fl_X0_41 rfl (o_X0_k h) (o_X0_r9 h) ?_
          refine r_iload_n (pc := 51) hX dX0_gather_51 rfl ?_
          refine r_iload_n (pc := 52) hX dX0_gather_52 rfl ?_
          refine r_callSN (Z := mX11_put) (pc := 53) hX dX0_gather_53 mn_X0_58 mX11_put_w (sp_X11_put (o_X0_a9 h)) rfl rfl (Nat.le_of_ble_eq_true rfl) (by decide) rfl (Or.inl rfl) ?_
          refine r_iinc (pc := 56) hX 1 (L' := [_, _, _, _, _]) dX0_gather_56 rfl (by decide) rfl rfl ?_
          refine r_iconst (pc := 59) hX 0 dX0_gather_59 (by decide) ?_
          refine r_istore (pc := 60) hX (L' := [_, _, _, _, _]) dX0_gather_60 rfl rfl (Nat.le_of_ble_eq_true rfl) ?_
          have hL62 : ∀ (w2 : Nat) (i2 : Int32) (J2 : im_I), cnt i2 (3) = w2 → loopN w2 i2 (fun j J => push_ J a (at_ (J (a + 5)) 240 (3 * at_ (im_up J1 a 10 (J1 a 10 - 1) (a + 7)) 80 (im_up J1 a 10 (J1 a 10 - 1) a 10) + j))) J2 = loopN (cnt (0) (3)) (0) (fun j J => push_ J a (at_ (J (a + 5)) 240 (3 * at_ (im_up J1 a 10 (J1 a 10 - 1) (a + 7)) 80 (im_up J1 a 10 (J1 a 10 - 1) a 10) + j))) (put_ (im_up J1 a 10 (J1 a 10 - 1)) (a + 8) 80 i1 (at_ (im_up J1 a 10 (J1 a 10 - 1) (a + 7)) 80 (im_up J1 a 10 (J1 a 10 - 1) a 10))) → im_E X k (im_Q X k (some (.int (gather_ I a p0).1)) (S, (gather_ I a p0).2)) 62 [some (.ref a), some (.int p0), some (.int (i1 + 1)), some (.int (at_ (im_up J1 a 10 (J1 a 10 - 1) (a + 7)) 80 (im_up J1 a 10 (J1 a 10 - 1) a 10))), some (.int i2)] [] S J2 := by
            intro w2
            induction w2 with
            | zero =>
              intro i2 J2  hm2 hR2
              refine r_iload (pc := 62) hX dX0_gather_62 rfl ?_
              refine r_iconst (pc := 64) hX 3 dX0_gather_64 (by decide) ?_
              refine r_icmp_ge (pc := 65) hX 91 dX0_gather_65 (by decide) (fun c65 => ?_) (fun c65 => ?_)
              · have c65d := Int32.not_lt.mpr c65
                rw [loopN_0] at hR2
                subst hR2
                refine r_goto (pc := 91) hX (tgt := 12) dX0_gather_91 (by decide) ?_
                refine r_weak (L' := [some _, some _, some _, none, none]) (And.intro rfl (And.intro rfl (And.intro rfl trivial))) ?_
                refine r_mem (I' := gatherOne_ a i1 J1) (by first | with_reducible rfl | (simp only [gather_, gatherOne_, loopC, eq_false c16, eq_true c16d, eq_false c22, eq_true c22d, eq_true c65, eq_false c65d, ↓reduceIte, if_true, if_false, decide_true, decide_false, eq_self, b2i_t, b2i_f, Bool.false_eq_true, and_true, true_and, and_false, false_and, or_true, true_or, or_false, false_or, not_true_eq_false, not_false_eq_true] <;> rfl) | simp [gather_, gatherOne_, loopC, eq_false c16, eq_true c16d, eq_false c22, eq_true c22d, eq_true c65, eq_false c65d]) ?_
                exact ih1 _ _ (gath_n c22 hm1) (by rw [gatherN_s, if_neg c16, if_neg c22] at hR1; exact hR1)
              · have c65d := Int32.not_le.mp c65
                exact (cnt_ex hm2  c65).elim
            | succ w2 ih2 =>
              intro i2 J2  hm2 hR2
              refine r_iload (pc := 62) hX dX0_gather_62 rfl ?_
              refine r_iconst (pc := 64) hX 3 dX0_gather_64 (by decide) ?_
              refine r_icmp_ge (pc := 65) hX 91 dX0_gather_65 (by decide) (fun c65 => ?_) (fun c65 => ?_)
              · have c65d := Int32.not_lt.mpr c65
                exact (cnt_go hm2  c65).elim
              · have c65d := Int32.not_le.mp c65
                refine r_aload_n (pc := 68) hX dX0_gather_68 rfl ?_
                refine r_aload_n (pc := 69) hX dX0_gather_69 rfl ?_
                refine r_getr (pc := 70) hX dX0_gather_70 fl_X0_32 rfl (o_X0_k h) (o_X0_r6 h) ?_
                refine r_iconst (pc := 73) hX 3 dX0_gather_73 (by decide) ?_
                refine r_iload_n (pc := 74) hX dX0_gather_74 rfl ?_
                refine r_imul (pc := 75) hX dX0_gather_75 ?_
                refine r_iload (pc := 76) hX dX0_gather_76 rfl ?_
                refine r_iadd (pc := 78) hX dX0_gather_78 ?_
                refine r_callSN (Z := mX11_at) (pc := 79) hX dX0_gather_79 mn_X0_54 mX11_at_w (sp_X11_at (o_X0_a6 h)) rfl rfl (Nat.le_of_ble_eq_true rfl) (by decide) rfl (Or.inl rfl) ?_
                refine r_callV (Z := mX0_push) (t := 0) (pc := 82) hX dX0_gather_82 ml_X0_119 mX0_push_w ⟨by decide, rfl⟩ (o_X0_k h) (sp_X0_push h) rfl rfl (Nat.le_of_ble_eq_true rfl) (by decide) rfl (Or.inl rfl) ?_
                refine r_iinc (pc := 85) hX 1 (L' := [_, _, _, _, _]) dX0_gather_85 rfl (by decide) rfl rfl ?_
                refine r_goto (pc := 88) hX (tgt := 62) dX0_gather_88 (by decide) ?_
                refine r_mem (I' := (fun j J => push_ J a (at_ (J (a + 5)) 240 (3 * at_ (im_up J1 a 10 (J1 a 10 - 1) (a + 7)) 80 (im_up J1 a 10 (J1 a 10 - 1) a 10) + j))) i2 J2) (by first | with_reducible rfl | (simp only [gather_, gatherOne_, loopC, eq_false c16, eq_true c16d, eq_false c22, eq_true c22d, eq_false c65, eq_true c65d, ↓reduceIte, if_true, if_false, decide_true, decide_false, eq_self, b2i_t, b2i_f, Bool.false_eq_true, and_true, true_and, and_false, false_and, or_true, true_or, or_false, false_or, not_true_eq_false, not_false_eq_true] <;> rfl) | simp [gather_, gatherOne_, loopC, eq_false c16, eq_true c16d, eq_false c22, eq_true c22d, eq_false c65, eq_true c65d]) ?_
                exact ih2 _ _  (cnt_nx hm2) (loopN_s.symm.trans hR2)
          exact hL62 (cnt (0) (3)) (0) (put_ (im_up J1 a 10 (J1 a 10 - 1)) (a + 8) 80 i1 (at_ (im_up J1 a 10 (J1 a 10 - 1) (a + 7)) 80 (im_up J1 a 10 (J1 a 10 - 1) a 10)))  rfl rfl
  exact hL12 81 _ _ (by decide) (by rw [gather_])
set_option maxRecDepth 100000 in
set_option maxHeartbeats 1000000 in
theorem sp_X0_chooseStatement {l : Launch} {k : im_K} {S : im_S} {I : im_I} {a m : Nat} {b0 : Nat} {p1 : Int32} {p2 : Int32} (h : o_X0 S a m) (hb0 : o_X3 S b0) : im_Runs l k 3 mX0_chooseStatement [.ref a, .ref b0, .int p1, .int p2] (S, I) (none) (S, chooseStatement_ I a b0 p1 p2) := by
  refine im_run (by decide +kernel) ⟨Nat.le_refl _, Nat.le_refl _⟩ (Nat.le_of_ble_eq_true rfl) ?_
  intro X hl hX hxn hxz hxc hxs
  subst hl
  change im_E X k _ 0 [some (.ref a), some (.ref b0), some (.int p1), some (.int p2), none, none, none] [] S I
  refine r_aload_n (pc := 0) hX dX0_chooseStatement_0 rfl ?_
  refine r_aload_n (pc := 1) hX dX0_chooseStatement_1 rfl ?_
  refine r_getr (pc := 2) hX dX0_chooseStatement_2 fl_X0_9 rfl (o_X0_k h) (o_X0_r1 h) ?_
  refine r_iload_n (pc := 5) hX dX0_chooseStatement_5 rfl ?_
  refine r_iload_n (pc := 6) hX dX0_chooseStatement_6 rfl ?_
  refine r_callV (Z := mX8_rootOf) (t := 8) (pc := 7) hX dX0_chooseStatement_7 ml_X0_102 mX8_rootOf_w ⟨by decide, rfl⟩ (o_X8_k (o_X0_o1 h)) (sp_X8_rootOf (o_X0_o1 h)) rfl rfl (Nat.le_of_ble_eq_true rfl) (by decide) rfl (Or.inl rfl) ?_
  refine r_callV (Z := mX0_gather) (t := 0) (pc := 10) hX dX0_chooseStatement_10 ml_X0_106 mX0_gather_w ⟨by decide, rfl⟩ (o_X0_k h) (sp_X0_gather h) rfl rfl (Nat.le_of_ble_eq_true rfl) (by decide) rfl (Or.inl rfl) ?_
  refine r_istore (pc := 13) hX (L' := [_, _, _, _, _, _, _]) dX0_chooseStatement_13 rfl rfl (Nat.le_of_ble_eq_true rfl) ?_
  refine r_iload (pc := 15) hX dX0_chooseStatement_15 rfl ?_
  refine r_iconst (pc := 17) hX 1 dX0_chooseStatement_17 (by decide) ?_
  refine r_isub (pc := 18) hX dX0_chooseStatement_18 ?_
  refine r_istore (pc := 19) hX (L' := [_, _, _, _, _, _, _]) dX0_chooseStatement_19 rfl rfl (Nat.le_of_ble_eq_true rfl) ?_
  have hL21 : ∀ (w1 : Nat) (i1 : Int32) (J1 : im_I), cntD i1 (1) = w1 → downN w1 i1 (chooseOne_ a b0 p1) J1 = downN (cntD ((gather_ I a (rootOf_ I 3 p1 p2)).1 - 1) (1)) ((gather_ I a (rootOf_ I 3 p1 p2)).1 - 1) (chooseOne_ a b0 p1) ((gather_ I a (rootOf_ I 3 p1 p2)).2) → im_E X k (im_Q X k (none) (S, chooseStatement_ I a b0 p1 p2)) 21 [some (.ref a), some (.ref b0), some (.int p1), some (.int p2), some (.int (gather_ I a (rootOf_ I 3 p1 p2)).1), some (.int i1), none] [] S J1 := by
    intro w1
    induction w1 with
    | zero =>
      intro i1 J1  hm1 hR1
      refine r_iload (pc := 21) hX dX0_chooseStatement_21 rfl ?_
      refine r_if_le (pc := 23) hX 118 dX0_chooseStatement_23 (by decide) (fun c23 => ?_) (fun c23 => ?_)
      · have c23d := Int32.not_lt.mpr c23
        rw [downN_0] at hR1
        subst hR1
        refine r_aload_n (pc := 118) hX dX0_chooseStatement_118 rfl ?_
        refine r_aload_n (pc := 119) hX dX0_chooseStatement_119 rfl ?_
        refine r_aload_n (pc := 120) hX dX0_chooseStatement_120 rfl ?_
        refine r_getr (pc := 121) hX dX0_chooseStatement_121 fl_X0_41 rfl (o_X0_k h) (o_X0_r9 h) ?_
        refine r_iconst (pc := 124) hX 0 dX0_chooseStatement_124 (by decide) ?_
        refine r_callSN (Z := mX11_at) (pc := 125) hX dX0_chooseStatement_125 mn_X0_54 mX11_at_w (sp_X11_at (o_X0_a9 h)) rfl rfl (Nat.le_of_ble_eq_true rfl) (by decide) rfl (Or.inl rfl) ?_
        refine r_aload_n (pc := 128) hX dX0_chooseStatement_128 rfl ?_
        refine r_getr (pc := 129) hX dX0_chooseStatement_129 fl_X0_9 rfl (o_X0_k h) (o_X0_r1 h) ?_
        refine r_iload_n (pc := 132) hX dX0_chooseStatement_132 rfl ?_
        refine r_iload_n (pc := 133) hX dX0_chooseStatement_133 rfl ?_
        refine r_callV (Z := mX8_variableOf) (t := 8) (pc := 134) hX dX0_chooseStatement_134 ml_X0_113 mX8_variableOf_w ⟨by decide, rfl⟩ (o_X8_k (o_X0_o1 h)) (sp_X8_variableOf (o_X0_o1 h)) rfl rfl (Nat.le_of_ble_eq_true rfl) (by decide) rfl (Or.inl rfl) ?_
        refine r_iload_n (pc := 137) hX dX0_chooseStatement_137 rfl ?_
        refine r_callV (Z := mX0_emit) (t := 0) (pc := 138) hX dX0_chooseStatement_138 ml_X0_109 mX0_emit_w ⟨by decide, rfl⟩ (o_X0_k h) (sp_X0_emit h hb0) rfl rfl (Nat.le_of_ble_eq_true rfl) (by decide) rfl (Or.inl rfl) ?_
        exact r_return (pc := 141) hX dX0_chooseStatement_141 rfl rfl (by first | with_reducible rfl | (simp only [chooseStatement_, chooseOne_, downC, eq_true c23, eq_false c23d, ↓reduceIte, if_true, if_false, decide_true, decide_false, eq_self, b2i_t, b2i_f, Bool.false_eq_true, and_true, true_and, and_false, false_and, or_true, true_or, or_false, false_or, not_true_eq_false, not_false_eq_true] <;> rfl) | simp [chooseStatement_, chooseOne_, downC, eq_true c23, eq_false c23d])
      · have c23d := Int32.not_le.mp c23
        exact (cntD1_ex hm1  c23).elim
    | succ w1 ih1 =>
      intro i1 J1  hm1 hR1
      refine r_iload (pc := 21) hX dX0_chooseStatement_21 rfl ?_
      refine r_if_le (pc := 23) hX 118 dX0_chooseStatement_23 (by decide) (fun c23 => ?_) (fun c23 => ?_)
      · have c23d := Int32.not_lt.mpr c23
        exact (cntD1_go hm1  c23).elim
      · have c23d := Int32.not_le.mp c23
        refine r_aload_n (pc := 26) hX dX0_chooseStatement_26 rfl ?_
        refine r_getr (pc := 27) hX dX0_chooseStatement_27 fl_X0_41 rfl (o_X0_k h) (o_X0_r9 h) ?_
        refine r_iload (pc := 30) hX dX0_chooseStatement_30 rfl ?_
        refine r_callSN (Z := mX11_at) (pc := 32) hX dX0_chooseStatement_32 mn_X0_54 mX11_at_w (sp_X11_at (o_X0_a9 h)) rfl rfl (Nat.le_of_ble_eq_true rfl) (by decide) rfl (Or.inl rfl) ?_
        refine r_istore (pc := 35) hX (L' := [_, _, _, _, _, _, _]) dX0_chooseStatement_35 rfl rfl (Nat.le_of_ble_eq_true rfl) ?_
        refine r_aload_n (pc := 37) hX dX0_chooseStatement_37 rfl ?_
        refine r_getr (pc := 38) hX dX0_chooseStatement_38 fl_X0_9 rfl (o_X0_k h) (o_X0_r1 h) ?_
        refine r_getr (pc := 41) hX dX0_chooseStatement_41 fl_X0_53 rfl (o_X8_k (o_X0_o1 h)) (o_X8_r4 (o_X0_o1 h)) ?_
        refine r_iload (pc := 44) hX dX0_chooseStatement_44 rfl ?_
        refine r_callSN (Z := mX11_at) (pc := 46) hX dX0_chooseStatement_46 mn_X0_54 mX11_at_w (sp_X11_at (o_X8_a4 (o_X0_o1 h))) rfl rfl (Nat.le_of_ble_eq_true rfl) (by decide) rfl (Or.inl rfl) ?_
        refine r_iconst (pc := 49) hX 1 dX0_chooseStatement_49 (by decide) ?_
        refine r_icmp_ne (pc := 50) hX 77 dX0_chooseStatement_50 (by decide) (fun c50 => ?_) (fun c50 => ?_)
        · refine r_aload_n (pc := 77) hX dX0_chooseStatement_77 rfl ?_
          refine r_getr (pc := 78) hX dX0_chooseStatement_78 fl_X0_35 rfl (o_X0_k h) (o_X0_r7 h) ?_
          refine r_iload (pc := 81) hX dX0_chooseStatement_81 rfl ?_
          refine r_aload_n (pc := 83) hX dX0_chooseStatement_83 rfl ?_
          refine r_geti (pc := 84) hX dX0_chooseStatement_84 fl_X0_44 rfl (o_X0_k h) ?_
          refine r_callSN (Z := mX11_put) (pc := 87) hX dX0_chooseStatement_87 mn_X0_58 mX11_put_w (sp_X11_put (o_X0_a7 h)) rfl rfl (Nat.le_of_ble_eq_true rfl) (by decide) rfl (Or.inl rfl) ?_
          refine r_aload_n (pc := 90) hX dX0_chooseStatement_90 rfl ?_
          refine r_aload_n (pc := 91) hX dX0_chooseStatement_91 rfl ?_
          refine r_iload (pc := 92) hX dX0_chooseStatement_92 rfl ?_
          refine r_aload_n (pc := 94) hX dX0_chooseStatement_94 rfl ?_
          refine r_geti (pc := 95) hX dX0_chooseStatement_95 fl_X0_44 rfl (o_X0_k h) ?_
          refine r_iload_n (pc := 98) hX dX0_chooseStatement_98 rfl ?_
          refine r_callV (Z := mX0_emit) (t := 0) (pc := 99) hX dX0_chooseStatement_99 ml_X0_109 mX0_emit_w ⟨by decide, rfl⟩ (o_X0_k h) (sp_X0_emit h hb0) rfl rfl (Nat.le_of_ble_eq_true rfl) (by decide) rfl (Or.inl rfl) ?_
          refine r_aload_n (pc := 102) hX dX0_chooseStatement_102 rfl ?_
          refine r_dup (pc := 103) hX dX0_chooseStatement_103 rfl ?_
          refine r_geti (pc := 104) hX dX0_chooseStatement_104 fl_X0_44 rfl (o_X0_k h) ?_
          refine r_iconst (pc := 107) hX 1 dX0_chooseStatement_107 (by decide) ?_
          refine r_iadd (pc := 108) hX dX0_chooseStatement_108 ?_
          refine r_puti (pc := 109) hX dX0_chooseStatement_109 fl_X0_44 rfl rfl (o_X0_k h) ?_
          refine r_iinc (pc := 112) hX (-1) (L' := [_, _, _, _, _, _, _]) dX0_chooseStatement_112 rfl (by decide) rfl rfl ?_
          refine r_goto (pc := 115) hX (tgt := 21) dX0_chooseStatement_115 (by decide) ?_
          refine r_weak (L' := [some _, some _, some _, some _, some _, some _, none]) (And.intro rfl (And.intro rfl (And.intro rfl (And.intro rfl (And.intro rfl (And.intro rfl trivial)))))) ?_
          refine r_mem (I' := (chooseOne_ a b0 p1) i1 J1) (by first | with_reducible rfl | (simp only [chooseStatement_, chooseOne_, downC, eq_false c23, eq_true c23d, eq_false c50, ↓reduceIte, if_true, if_false, decide_true, decide_false, eq_self, b2i_t, b2i_f, Bool.false_eq_true, and_true, true_and, and_false, false_and, or_true, true_or, or_false, false_or, not_true_eq_false, not_false_eq_true] <;> rfl) | simp [chooseStatement_, chooseOne_, downC, eq_false c23, eq_true c23d, eq_false c50]) ?_
          exact ih1 _ _  (cntD_nx (by first | decide | assumption) hm1) (downN_s.symm.trans hR1)
        · refine r_aload_n (pc := 53) hX dX0_chooseStatement_53 rfl ?_
          refine r_getr (pc := 54) hX dX0_chooseStatement_54 fl_X0_35 rfl (o_X0_k h) (o_X0_r7 h) ?_
          refine r_iload (pc := 57) hX dX0_chooseStatement_57 rfl ?_
          refine r_aload_n (pc := 59) hX dX0_chooseStatement_59 rfl ?_
          refine r_getr (pc := 60) hX dX0_chooseStatement_60 fl_X0_9 rfl (o_X0_k h) (o_X0_r1 h) ?_
          refine r_getr (pc := 63) hX dX0_chooseStatement_63 fl_X0_85 rfl (o_X8_k (o_X0_o1 h)) (o_X8_r5 (o_X0_o1 h)) ?_
          refine r_iload (pc := 66) hX dX0_chooseStatement_66 rfl ?_
          refine r_callSN (Z := mX11_at) (pc := 68) hX dX0_chooseStatement_68 mn_X0_54 mX11_at_w (sp_X11_at (o_X8_a5 (o_X0_o1 h))) rfl rfl (Nat.le_of_ble_eq_true rfl) (by decide) rfl (Or.inl rfl) ?_
          refine r_callSN (Z := mX11_put) (pc := 71) hX dX0_chooseStatement_71 mn_X0_58 mX11_put_w (sp_X11_put (o_X0_a7 h)) rfl rfl (Nat.le_of_ble_eq_true rfl) (by decide) rfl (Or.inl rfl) ?_
          refine r_goto (pc := 74) hX (tgt := 112) dX0_chooseStatement_74 (by decide) ?_
          refine r_iinc (pc := 112) hX (-1) (L' := [_, _, _, _, _, _, _]) dX0_chooseStatement_112 rfl (by decide) rfl rfl ?_
          refine r_goto (pc := 115) hX (tgt := 21) dX0_chooseStatement_115 (by decide) ?_
          refine r_weak (L' := [some _, some _, some _, some _, some _, some _, none]) (And.intro rfl (And.intro rfl (And.intro rfl (And.intro rfl (And.intro rfl (And.intro rfl trivial)))))) ?_
          refine r_mem (I' := (chooseOne_ a b0 p1) i1 J1) (by first | with_reducible rfl | (simp only [chooseStatement_, chooseOne_, downC, eq_false c23, eq_true c23d, eq_true c50, ↓reduceIte, if_true, if_false, decide_true, decide_false, eq_self, b2i_t, b2i_f, Bool.false_eq_true, and_true, true_and, and_false, false_and, or_true, true_or, or_false, false_or, not_true_eq_false, not_false_eq_true] <;> rfl) | simp [chooseStatement_, chooseOne_, downC, eq_false c23, eq_true c23d, eq_true c50]) ?_
          exact ih1 _ _  (cntD_nx (by first | decide | assumption) hm1) (downN_s.symm.trans hR1)
  exact hL21 (cntD ((gather_ I a (rootOf_ I 3 p1 p2)).1 - 1) (1)) ((gather_ I a (rootOf_ I 3 p1 p2)).1 - 1) ((gather_ I a (rootOf_ I 3 p1 p2)).2)  rfl rfl
