/-! walks, by program out of spec9.py -/
set_option maxRecDepth 100000 in
set_option maxHeartbeats 1000000 in
theorem sp_X9_readyFor {l : Launch} {k : im_K} {S : im_S} {I : im_I} {a m : Nat} {p0 : Int32} {p1 : Int32} {p2 : Int32} {p3 : Int32} {p4 : Int32} (h : o_X9 S a m) : im_Runs l k 1 mX9_readyFor [.ref a, .int p0, .int p1, .int p2, .int p3, .int p4] (S, I) (some (.int (readyFor_ I a p0 p1 p2 p3 p4))) (S, I) := by
  refine im_run (by decide +kernel) ⟨Nat.le_refl _, Nat.le_refl _⟩ (Nat.le_of_ble_eq_true rfl) ?_
  intro X hl hX hxn hxz hxc hxs
  subst hl
  change im_E X k _ 0 [some (.ref a), some (.int p0), some (.int p1), some (.int p2), some (.int p3), some (.int p4)] [] S I
  refine r_iload_n (pc := 0) hX dX9_readyFor_0 rfl ?_
  by_cases c1_0 : p0 = 1
  · refine r_tsIn (pc := 1) hX 52 dX9_readyFor_1 (by rw [c1_0]; decide) (by rw [c1_0]; decide) (by rw [c1_0]; rfl) (by decide) ?_
    refine r_aload_n (pc := 52) hX dX9_readyFor_52 rfl ?_
    refine r_getr (pc := 53) hX dX9_readyFor_53 fl_X9_29 rfl (o_X9_k h) (o_X9_r8 h) ?_
    refine r_iload_n (pc := 56) hX dX9_readyFor_56 rfl ?_
    refine r_callSN (Z := mX11_at) (pc := 57) hX dX9_readyFor_57 mn_X9_49 mX11_at_w (sp_X11_at (o_X9_a8 h)) rfl rfl (Nat.le_of_ble_eq_true rfl) (by decide) rfl (Or.inl rfl) ?_
    exact r_ireturn (pc := 60) hX dX9_readyFor_60 rfl rfl (by first | with_reducible rfl | (simp only [readyFor_, max_, eq_true c1_0, ↓reduceIte, if_true, if_false, decide_true, decide_false, eq_self, b2i_t, b2i_f, Bool.false_eq_true, and_true, true_and, and_false, false_and, or_true, true_or, or_false, false_or, not_true_eq_false, not_false_eq_true] <;> rfl) | simp [readyFor_, max_, eq_true c1_0]) rfl
  by_cases c1_1 : p0 = 2
  · refine r_tsIn (pc := 1) hX 61 dX9_readyFor_1 (by rw [c1_1]; decide) (by rw [c1_1]; decide) (by rw [c1_1]; rfl) (by decide) ?_
    refine r_aload_n (pc := 61) hX dX9_readyFor_61 rfl ?_
    refine r_getr (pc := 62) hX dX9_readyFor_62 fl_X9_29 rfl (o_X9_k h) (o_X9_r8 h) ?_
    refine r_iload_n (pc := 65) hX dX9_readyFor_65 rfl ?_
    refine r_callSN (Z := mX11_at) (pc := 66) hX dX9_readyFor_66 mn_X9_49 mX11_at_w (sp_X11_at (o_X9_a8 h)) rfl rfl (Nat.le_of_ble_eq_true rfl) (by decide) rfl (Or.inl rfl) ?_
    refine r_aload_n (pc := 69) hX dX9_readyFor_69 rfl ?_
    refine r_getr (pc := 70) hX dX9_readyFor_70 fl_X9_29 rfl (o_X9_k h) (o_X9_r8 h) ?_
    refine r_iload (pc := 73) hX dX9_readyFor_73 rfl ?_
    refine r_callSN (Z := mX11_at) (pc := 75) hX dX9_readyFor_75 mn_X9_49 mX11_at_w (sp_X11_at (o_X9_a8 h)) rfl rfl (Nat.le_of_ble_eq_true rfl) (by decide) rfl (Or.inl rfl) ?_
    refine r_mmax (pc := 78) hX dX9_readyFor_78 ml_X9_79 w_mmax (Nat.le_of_ble_eq_true rfl) (by decide) rfl ?_
    exact r_ireturn (pc := 81) hX dX9_readyFor_81 rfl rfl (by first | with_reducible rfl | (simp only [readyFor_, max_, eq_false c1_0, eq_true c1_1, ↓reduceIte, if_true, if_false, decide_true, decide_false, eq_self, b2i_t, b2i_f, Bool.false_eq_true, and_true, true_and, and_false, false_and, or_true, true_or, or_false, false_or, not_true_eq_false, not_false_eq_true] <;> rfl) | simp [readyFor_, max_, eq_false c1_0, eq_true c1_1]) rfl
  by_cases c1_2 : p0 = 3
  · refine r_tsIn (pc := 1) hX 61 dX9_readyFor_1 (by rw [c1_2]; decide) (by rw [c1_2]; decide) (by rw [c1_2]; rfl) (by decide) ?_
    refine r_aload_n (pc := 61) hX dX9_readyFor_61 rfl ?_
    refine r_getr (pc := 62) hX dX9_readyFor_62 fl_X9_29 rfl (o_X9_k h) (o_X9_r8 h) ?_
    refine r_iload_n (pc := 65) hX dX9_readyFor_65 rfl ?_
    refine r_callSN (Z := mX11_at) (pc := 66) hX dX9_readyFor_66 mn_X9_49 mX11_at_w (sp_X11_at (o_X9_a8 h)) rfl rfl (Nat.le_of_ble_eq_true rfl) (by decide) rfl (Or.inl rfl) ?_
    refine r_aload_n (pc := 69) hX dX9_readyFor_69 rfl ?_
    refine r_getr (pc := 70) hX dX9_readyFor_70 fl_X9_29 rfl (o_X9_k h) (o_X9_r8 h) ?_
    refine r_iload (pc := 73) hX dX9_readyFor_73 rfl ?_
    refine r_callSN (Z := mX11_at) (pc := 75) hX dX9_readyFor_75 mn_X9_49 mX11_at_w (sp_X11_at (o_X9_a8 h)) rfl rfl (Nat.le_of_ble_eq_true rfl) (by decide) rfl (Or.inl rfl) ?_
    refine r_mmax (pc := 78) hX dX9_readyFor_78 ml_X9_79 w_mmax (Nat.le_of_ble_eq_true rfl) (by decide) rfl ?_
    exact r_ireturn (pc := 81) hX dX9_readyFor_81 rfl rfl (by first | with_reducible rfl | (simp only [readyFor_, max_, eq_false c1_0, eq_false c1_1, eq_true c1_2, ↓reduceIte, if_true, if_false, decide_true, decide_false, eq_self, b2i_t, b2i_f, Bool.false_eq_true, and_true, true_and, and_false, false_and, or_true, true_or, or_false, false_or, not_true_eq_false, not_false_eq_true] <;> rfl) | simp [readyFor_, max_, eq_false c1_0, eq_false c1_1, eq_true c1_2]) rfl
  by_cases c1_3 : p0 = 4
  · refine r_tsIn (pc := 1) hX 61 dX9_readyFor_1 (by rw [c1_3]; decide) (by rw [c1_3]; decide) (by rw [c1_3]; rfl) (by decide) ?_
    refine r_aload_n (pc := 61) hX dX9_readyFor_61 rfl ?_
    refine r_getr (pc := 62) hX dX9_readyFor_62 fl_X9_29 rfl (o_X9_k h) (o_X9_r8 h) ?_
    refine r_iload_n (pc := 65) hX dX9_readyFor_65 rfl ?_
    refine r_callSN (Z := mX11_at) (pc := 66) hX dX9_readyFor_66 mn_X9_49 mX11_at_w (sp_X11_at (o_X9_a8 h)) rfl rfl (Nat.le_of_ble_eq_true rfl) (by decide) rfl (Or.inl rfl) ?_
    refine r_aload_n (pc := 69) hX dX9_readyFor_69 rfl ?_
    refine r_getr (pc := 70) hX dX9_readyFor_70 fl_X9_29 rfl (o_X9_k h) (o_X9_r8 h) ?_
    refine r_iload (pc := 73) hX dX9_readyFor_73 rfl ?_
    refine r_callSN (Z := mX11_at) (pc := 75) hX dX9_readyFor_75 mn_X9_49 mX11_at_w (sp_X11_at (o_X9_a8 h)) rfl rfl (Nat.le_of_ble_eq_true rfl) (by decide) rfl (Or.inl rfl) ?_
    refine r_mmax (pc := 78) hX dX9_readyFor_78 ml_X9_79 w_mmax (Nat.le_of_ble_eq_true rfl) (by decide) rfl ?_
    exact r_ireturn (pc := 81) hX dX9_readyFor_81 rfl rfl (by first | with_reducible rfl | (simp only [readyFor_, max_, eq_false c1_0, eq_false c1_1, eq_false c1_2, eq_true c1_3, ↓reduceIte, if_true, if_false, decide_true, decide_false, eq_self, b2i_t, b2i_f, Bool.false_eq_true, and_true, true_and, and_false, false_and, or_true, true_or, or_false, false_or, not_true_eq_false, not_false_eq_true] <;> rfl) | simp [readyFor_, max_, eq_false c1_0, eq_false c1_1, eq_false c1_2, eq_true c1_3]) rfl
  by_cases c1_4 : p0 = 5
  · refine r_tsIn (pc := 1) hX 52 dX9_readyFor_1 (by rw [c1_4]; decide) (by rw [c1_4]; decide) (by rw [c1_4]; rfl) (by decide) ?_
    refine r_aload_n (pc := 52) hX dX9_readyFor_52 rfl ?_
    refine r_getr (pc := 53) hX dX9_readyFor_53 fl_X9_29 rfl (o_X9_k h) (o_X9_r8 h) ?_
    refine r_iload_n (pc := 56) hX dX9_readyFor_56 rfl ?_
    refine r_callSN (Z := mX11_at) (pc := 57) hX dX9_readyFor_57 mn_X9_49 mX11_at_w (sp_X11_at (o_X9_a8 h)) rfl rfl (Nat.le_of_ble_eq_true rfl) (by decide) rfl (Or.inl rfl) ?_
    exact r_ireturn (pc := 60) hX dX9_readyFor_60 rfl rfl (by first | with_reducible rfl | (simp only [readyFor_, max_, eq_false c1_0, eq_false c1_1, eq_false c1_2, eq_false c1_3, eq_true c1_4, ↓reduceIte, if_true, if_false, decide_true, decide_false, eq_self, b2i_t, b2i_f, Bool.false_eq_true, and_true, true_and, and_false, false_and, or_true, true_or, or_false, false_or, not_true_eq_false, not_false_eq_true] <;> rfl) | simp [readyFor_, max_, eq_false c1_0, eq_false c1_1, eq_false c1_2, eq_false c1_3, eq_true c1_4]) rfl
  by_cases c1_5 : p0 = 6
  · refine r_tsIn (pc := 1) hX 82 dX9_readyFor_1 (by rw [c1_5]; decide) (by rw [c1_5]; decide) (by rw [c1_5]; rfl) (by decide) ?_
    refine r_aload_n (pc := 82) hX dX9_readyFor_82 rfl ?_
    refine r_getr (pc := 83) hX dX9_readyFor_83 fl_X9_29 rfl (o_X9_k h) (o_X9_r8 h) ?_
    refine r_iload_n (pc := 86) hX dX9_readyFor_86 rfl ?_
    refine r_callSN (Z := mX11_at) (pc := 87) hX dX9_readyFor_87 mn_X9_49 mX11_at_w (sp_X11_at (o_X9_a8 h)) rfl rfl (Nat.le_of_ble_eq_true rfl) (by decide) rfl (Or.inl rfl) ?_
    refine r_aload_n (pc := 90) hX dX9_readyFor_90 rfl ?_
    refine r_getr (pc := 91) hX dX9_readyFor_91 fl_X9_29 rfl (o_X9_k h) (o_X9_r8 h) ?_
    refine r_iload (pc := 94) hX dX9_readyFor_94 rfl ?_
    refine r_callSN (Z := mX11_at) (pc := 96) hX dX9_readyFor_96 mn_X9_49 mX11_at_w (sp_X11_at (o_X9_a8 h)) rfl rfl (Nat.le_of_ble_eq_true rfl) (by decide) rfl (Or.inl rfl) ?_
    refine r_aload_n (pc := 99) hX dX9_readyFor_99 rfl ?_
    refine r_getr (pc := 100) hX dX9_readyFor_100 fl_X9_29 rfl (o_X9_k h) (o_X9_r8 h) ?_
    refine r_iload (pc := 103) hX dX9_readyFor_103 rfl ?_
    refine r_callSN (Z := mX11_at) (pc := 105) hX dX9_readyFor_105 mn_X9_49 mX11_at_w (sp_X11_at (o_X9_a8 h)) rfl rfl (Nat.le_of_ble_eq_true rfl) (by decide) rfl (Or.inl rfl) ?_
    refine r_mmax (pc := 108) hX dX9_readyFor_108 ml_X9_79 w_mmax (Nat.le_of_ble_eq_true rfl) (by decide) rfl ?_
    refine r_mmax (pc := 111) hX dX9_readyFor_111 ml_X9_79 w_mmax (Nat.le_of_ble_eq_true rfl) (by decide) rfl ?_
    exact r_ireturn (pc := 114) hX dX9_readyFor_114 rfl rfl (by first | with_reducible rfl | (simp only [readyFor_, max_, eq_false c1_0, eq_false c1_1, eq_false c1_2, eq_false c1_3, eq_false c1_4, eq_true c1_5, ↓reduceIte, if_true, if_false, decide_true, decide_false, eq_self, b2i_t, b2i_f, Bool.false_eq_true, and_true, true_and, and_false, false_and, or_true, true_or, or_false, false_or, not_true_eq_false, not_false_eq_true] <;> rfl) | simp [readyFor_, max_, eq_false c1_0, eq_false c1_1, eq_false c1_2, eq_false c1_3, eq_false c1_4, eq_true c1_5]) rfl
  by_cases c1_6 : p0 = 7
  · refine r_tsIn (pc := 1) hX 144 dX9_readyFor_1 (by rw [c1_6]; decide) (by rw [c1_6]; decide) (by rw [c1_6]; rfl) (by decide) ?_
    refine r_iconst (pc := 144) hX 0 dX9_readyFor_144 (by decide) ?_
    exact r_ireturn (pc := 145) hX dX9_readyFor_145 rfl rfl (by first | with_reducible rfl | (simp only [readyFor_, max_, eq_false c1_0, eq_false c1_1, eq_false c1_2, eq_false c1_3, eq_false c1_4, eq_false c1_5, eq_true c1_6, ↓reduceIte, if_true, if_false, decide_true, decide_false, eq_self, b2i_t, b2i_f, Bool.false_eq_true, and_true, true_and, and_false, false_and, or_true, true_or, or_false, false_or, not_true_eq_false, not_false_eq_true] <;> rfl) | simp [readyFor_, max_, eq_false c1_0, eq_false c1_1, eq_false c1_2, eq_false c1_3, eq_false c1_4, eq_false c1_5, eq_true c1_6]) rfl
  by_cases c1_7 : p0 = 8
  · refine r_tsIn (pc := 1) hX 115 dX9_readyFor_1 (by rw [c1_7]; decide) (by rw [c1_7]; decide) (by rw [c1_7]; rfl) (by decide) ?_
    refine r_aload_n (pc := 115) hX dX9_readyFor_115 rfl ?_
    refine r_getr (pc := 116) hX dX9_readyFor_116 fl_X9_29 rfl (o_X9_k h) (o_X9_r8 h) ?_
    refine r_iload_n (pc := 119) hX dX9_readyFor_119 rfl ?_
    refine r_callSN (Z := mX11_at) (pc := 120) hX dX9_readyFor_120 mn_X9_49 mX11_at_w (sp_X11_at (o_X9_a8 h)) rfl rfl (Nat.le_of_ble_eq_true rfl) (by decide) rfl (Or.inl rfl) ?_
    exact r_ireturn (pc := 123) hX dX9_readyFor_123 rfl rfl (by first | with_reducible rfl | (simp only [readyFor_, max_, eq_false c1_0, eq_false c1_1, eq_false c1_2, eq_false c1_3, eq_false c1_4, eq_false c1_5, eq_false c1_6, eq_true c1_7, ↓reduceIte, if_true, if_false, decide_true, decide_false, eq_self, b2i_t, b2i_f, Bool.false_eq_true, and_true, true_and, and_false, false_and, or_true, true_or, or_false, false_or, not_true_eq_false, not_false_eq_true] <;> rfl) | simp [readyFor_, max_, eq_false c1_0, eq_false c1_1, eq_false c1_2, eq_false c1_3, eq_false c1_4, eq_false c1_5, eq_false c1_6, eq_true c1_7]) rfl
  by_cases c1_8 : p0 = 9
  · refine r_tsIn (pc := 1) hX 124 dX9_readyFor_1 (by rw [c1_8]; decide) (by rw [c1_8]; decide) (by rw [c1_8]; rfl) (by decide) ?_
    refine r_aload_n (pc := 124) hX dX9_readyFor_124 rfl ?_
    refine r_getr (pc := 125) hX dX9_readyFor_125 fl_X9_29 rfl (o_X9_k h) (o_X9_r8 h) ?_
    refine r_iconst (pc := 128) hX 0 dX9_readyFor_128 (by decide) ?_
    refine r_callSN (Z := mX11_at) (pc := 129) hX dX9_readyFor_129 mn_X9_49 mX11_at_w (sp_X11_at (o_X9_a8 h)) rfl rfl (Nat.le_of_ble_eq_true rfl) (by decide) rfl (Or.inl rfl) ?_
    refine r_aload_n (pc := 132) hX dX9_readyFor_132 rfl ?_
    refine r_getr (pc := 133) hX dX9_readyFor_133 fl_X9_29 rfl (o_X9_k h) (o_X9_r8 h) ?_
    refine r_iconst (pc := 136) hX 1 dX9_readyFor_136 (by decide) ?_
    refine r_callSN (Z := mX11_at) (pc := 137) hX dX9_readyFor_137 mn_X9_49 mX11_at_w (sp_X11_at (o_X9_a8 h)) rfl rfl (Nat.le_of_ble_eq_true rfl) (by decide) rfl (Or.inl rfl) ?_
    refine r_mmax (pc := 140) hX dX9_readyFor_140 ml_X9_79 w_mmax (Nat.le_of_ble_eq_true rfl) (by decide) rfl ?_
    exact r_ireturn (pc := 143) hX dX9_readyFor_143 rfl rfl (by first | with_reducible rfl | (simp only [readyFor_, max_, eq_false c1_0, eq_false c1_1, eq_false c1_2, eq_false c1_3, eq_false c1_4, eq_false c1_5, eq_false c1_6, eq_false c1_7, eq_true c1_8, ↓reduceIte, if_true, if_false, decide_true, decide_false, eq_self, b2i_t, b2i_f, Bool.false_eq_true, and_true, true_and, and_false, false_and, or_true, true_or, or_false, false_or, not_true_eq_false, not_false_eq_true] <;> rfl) | simp [readyFor_, max_, eq_false c1_0, eq_false c1_1, eq_false c1_2, eq_false c1_3, eq_false c1_4, eq_false c1_5, eq_false c1_6, eq_false c1_7, eq_true c1_8]) rfl
  refine r_tsOut (pc := 1) hX 144 dX9_readyFor_1 (im_tsOut (fun z h1 h2 e => ?_)) (by decide) ?_
  · have hz : z = 1 ∨ z = 2 ∨ z = 3 ∨ z = 4 ∨ z = 5 ∨ z = 6 ∨ z = 7 ∨ z = 8 ∨ z = 9 := by omega
    rcases hz with rfl | rfl | rfl | rfl | rfl | rfl | rfl | rfl | rfl
    · exact c1_0 (im_toInt (y := 1) (e.trans (by decide)))
    · exact c1_1 (im_toInt (y := 2) (e.trans (by decide)))
    · exact c1_2 (im_toInt (y := 3) (e.trans (by decide)))
    · exact c1_3 (im_toInt (y := 4) (e.trans (by decide)))
    · exact c1_4 (im_toInt (y := 5) (e.trans (by decide)))
    · exact c1_5 (im_toInt (y := 6) (e.trans (by decide)))
    · exact c1_6 (im_toInt (y := 7) (e.trans (by decide)))
    · exact c1_7 (im_toInt (y := 8) (e.trans (by decide)))
    · exact c1_8 (im_toInt (y := 9) (e.trans (by decide)))
  refine r_iconst (pc := 144) hX 0 dX9_readyFor_144 (by decide) ?_
  exact r_ireturn (pc := 145) hX dX9_readyFor_145 rfl rfl (by first | with_reducible rfl | (simp only [readyFor_, max_, eq_false c1_0, eq_false c1_1, eq_false c1_2, eq_false c1_3, eq_false c1_4, eq_false c1_5, eq_false c1_6, eq_false c1_7, eq_false c1_8, ↓reduceIte, if_true, if_false, decide_true, decide_false, eq_self, b2i_t, b2i_f, Bool.false_eq_true, and_true, true_and, and_false, false_and, or_true, true_or, or_false, false_or, not_true_eq_false, not_false_eq_true] <;> rfl) | simp [readyFor_, max_, eq_false c1_0, eq_false c1_1, eq_false c1_2, eq_false c1_3, eq_false c1_4, eq_false c1_5, eq_false c1_6, eq_false c1_7, eq_false c1_8]) rfl
set_option maxRecDepth 100000 in
set_option maxHeartbeats 1000000 in
theorem sp_X9_resultOf {l : Launch} {k : im_K} {S : im_S} {I : im_I} {a m : Nat} {p0 : Int32} {p1 : Int32} {p2 : Int32} {p3 : Int32} (h : o_X9 S a m) : im_Runs l k 1 mX9_resultOf [.ref a, .int p0, .int p1, .int p2, .int p3] (S, I) (some (.int (resultOf_ I a p0 p1 p2 p3))) (S, I) := by
  refine im_run (by decide +kernel) ⟨Nat.le_refl _, Nat.le_refl _⟩ (Nat.le_of_ble_eq_true rfl) ?_
  intro X hl hX hxn hxz hxc hxs
  subst hl
  change im_E X k _ 0 [some (.ref a), some (.int p0), some (.int p1), some (.int p2), some (.int p3), none, none] [] S I
  refine r_aload_n (pc := 0) hX dX9_resultOf_0 rfl ?_
  refine r_getr (pc := 1) hX dX9_resultOf_1 fl_X9_23 rfl (o_X9_k h) (o_X9_r4 h) ?_
  refine r_iload_n (pc := 4) hX dX9_resultOf_4 rfl ?_
  refine r_callSN (Z := mX11_at) (pc := 5) hX dX9_resultOf_5 mn_X9_49 mX11_at_w (sp_X11_at (o_X9_a4 h)) rfl rfl (Nat.le_of_ble_eq_true rfl) (by decide) rfl (Or.inl rfl) ?_
  refine r_istore (pc := 8) hX (L' := [_, _, _, _, _, _, _]) dX9_resultOf_8 rfl rfl (Nat.le_of_ble_eq_true rfl) ?_
  refine r_aload_n (pc := 10) hX dX9_resultOf_10 rfl ?_
  refine r_getr (pc := 11) hX dX9_resultOf_11 fl_X9_23 rfl (o_X9_k h) (o_X9_r4 h) ?_
  refine r_iload_n (pc := 14) hX dX9_resultOf_14 rfl ?_
  refine r_callSN (Z := mX11_at) (pc := 15) hX dX9_resultOf_15 mn_X9_49 mX11_at_w (sp_X11_at (o_X9_a4 h)) rfl rfl (Nat.le_of_ble_eq_true rfl) (by decide) rfl (Or.inl rfl) ?_
  refine r_istore (pc := 18) hX (L' := [_, _, _, _, _, _, _]) dX9_resultOf_18 rfl rfl (Nat.le_of_ble_eq_true rfl) ?_
  refine r_iload_n (pc := 20) hX dX9_resultOf_20 rfl ?_
  by_cases c21_0 : p0 = 0
  · refine r_tsIn (pc := 21) hX 64 dX9_resultOf_21 (by rw [c21_0]; decide) (by rw [c21_0]; decide) (by rw [c21_0]; rfl) (by decide) ?_
    refine r_iload_n (pc := 64) hX dX9_resultOf_64 rfl ?_
    exact r_ireturn (pc := 65) hX dX9_resultOf_65 rfl rfl (by first | with_reducible rfl | (simp only [resultOf_, eq_true c21_0, ↓reduceIte, if_true, if_false, decide_true, decide_false, eq_self, b2i_t, b2i_f, Bool.false_eq_true, and_true, true_and, and_false, false_and, or_true, true_or, or_false, false_or, not_true_eq_false, not_false_eq_true] <;> rfl) | simp [resultOf_, eq_true c21_0]) rfl
  by_cases c21_1 : p0 = 1
  · refine r_tsIn (pc := 21) hX 66 dX9_resultOf_21 (by rw [c21_1]; decide) (by rw [c21_1]; decide) (by rw [c21_1]; rfl) (by decide) ?_
    refine r_iload (pc := 66) hX dX9_resultOf_66 rfl ?_
    exact r_ireturn (pc := 68) hX dX9_resultOf_68 rfl rfl (by first | with_reducible rfl | (simp only [resultOf_, eq_false c21_0, eq_true c21_1, ↓reduceIte, if_true, if_false, decide_true, decide_false, eq_self, b2i_t, b2i_f, Bool.false_eq_true, and_true, true_and, and_false, false_and, or_true, true_or, or_false, false_or, not_true_eq_false, not_false_eq_true] <;> rfl) | simp [resultOf_, eq_false c21_0, eq_true c21_1]) rfl
  by_cases c21_2 : p0 = 2
  · refine r_tsIn (pc := 21) hX 69 dX9_resultOf_21 (by rw [c21_2]; decide) (by rw [c21_2]; decide) (by rw [c21_2]; rfl) (by decide) ?_
    refine r_iload (pc := 69) hX dX9_resultOf_69 rfl ?_
    refine r_iload (pc := 71) hX dX9_resultOf_71 rfl ?_
    refine r_iadd (pc := 73) hX dX9_resultOf_73 ?_
    exact r_ireturn (pc := 74) hX dX9_resultOf_74 rfl rfl (by first | with_reducible rfl | (simp only [resultOf_, eq_false c21_0, eq_false c21_1, eq_true c21_2, ↓reduceIte, if_true, if_false, decide_true, decide_false, eq_self, b2i_t, b2i_f, Bool.false_eq_true, and_true, true_and, and_false, false_and, or_true, true_or, or_false, false_or, not_true_eq_false, not_false_eq_true] <;> rfl) | simp [resultOf_, eq_false c21_0, eq_false c21_1, eq_true c21_2]) rfl
  by_cases c21_3 : p0 = 3
  · refine r_tsIn (pc := 21) hX 75 dX9_resultOf_21 (by rw [c21_3]; decide) (by rw [c21_3]; decide) (by rw [c21_3]; rfl) (by decide) ?_
    refine r_iload (pc := 75) hX dX9_resultOf_75 rfl ?_
    refine r_iload (pc := 77) hX dX9_resultOf_77 rfl ?_
    refine r_isub (pc := 79) hX dX9_resultOf_79 ?_
    exact r_ireturn (pc := 80) hX dX9_resultOf_80 rfl rfl (by first | with_reducible rfl | (simp only [resultOf_, eq_false c21_0, eq_false c21_1, eq_false c21_2, eq_true c21_3, ↓reduceIte, if_true, if_false, decide_true, decide_false, eq_self, b2i_t, b2i_f, Bool.false_eq_true, and_true, true_and, and_false, false_and, or_true, true_or, or_false, false_or, not_true_eq_false, not_false_eq_true] <;> rfl) | simp [resultOf_, eq_false c21_0, eq_false c21_1, eq_false c21_2, eq_true c21_3]) rfl
  by_cases c21_4 : p0 = 4
  · refine r_tsIn (pc := 21) hX 81 dX9_resultOf_21 (by rw [c21_4]; decide) (by rw [c21_4]; decide) (by rw [c21_4]; rfl) (by decide) ?_
    refine r_iload (pc := 81) hX dX9_resultOf_81 rfl ?_
    refine r_iload (pc := 83) hX dX9_resultOf_83 rfl ?_
    refine r_imul (pc := 85) hX dX9_resultOf_85 ?_
    exact r_ireturn (pc := 86) hX dX9_resultOf_86 rfl rfl (by first | with_reducible rfl | (simp only [resultOf_, eq_false c21_0, eq_false c21_1, eq_false c21_2, eq_false c21_3, eq_true c21_4, ↓reduceIte, if_true, if_false, decide_true, decide_false, eq_self, b2i_t, b2i_f, Bool.false_eq_true, and_true, true_and, and_false, false_and, or_true, true_or, or_false, false_or, not_true_eq_false, not_false_eq_true] <;> rfl) | simp [resultOf_, eq_false c21_0, eq_false c21_1, eq_false c21_2, eq_false c21_3, eq_true c21_4]) rfl
  by_cases c21_5 : p0 = 5
  · refine r_tsIn (pc := 21) hX 87 dX9_resultOf_21 (by rw [c21_5]; decide) (by rw [c21_5]; decide) (by rw [c21_5]; rfl) (by decide) ?_
    refine r_iload (pc := 87) hX dX9_resultOf_87 rfl ?_
    refine r_iload_n (pc := 89) hX dX9_resultOf_89 rfl ?_
    refine r_iadd (pc := 90) hX dX9_resultOf_90 ?_
    exact r_ireturn (pc := 91) hX dX9_resultOf_91 rfl rfl (by first | with_reducible rfl | (simp only [resultOf_, eq_false c21_0, eq_false c21_1, eq_false c21_2, eq_false c21_3, eq_false c21_4, eq_true c21_5, ↓reduceIte, if_true, if_false, decide_true, decide_false, eq_self, b2i_t, b2i_f, Bool.false_eq_true, and_true, true_and, and_false, false_and, or_true, true_or, or_false, false_or, not_true_eq_false, not_false_eq_true] <;> rfl) | simp [resultOf_, eq_false c21_0, eq_false c21_1, eq_false c21_2, eq_false c21_3, eq_false c21_4, eq_true c21_5]) rfl
  by_cases c21_6 : p0 = 6
  · refine r_tsIn (pc := 21) hX 92 dX9_resultOf_21 (by rw [c21_6]; decide) (by rw [c21_6]; decide) (by rw [c21_6]; rfl) (by decide) ?_
    refine r_iload (pc := 92) hX dX9_resultOf_92 rfl ?_
    refine r_iload (pc := 94) hX dX9_resultOf_94 rfl ?_
    refine r_imul (pc := 96) hX dX9_resultOf_96 ?_
    refine r_aload_n (pc := 97) hX dX9_resultOf_97 rfl ?_
    refine r_getr (pc := 98) hX dX9_resultOf_98 fl_X9_23 rfl (o_X9_k h) (o_X9_r4 h) ?_
    refine r_iload (pc := 101) hX dX9_resultOf_101 rfl ?_
    refine r_callSN (Z := mX11_at) (pc := 103) hX dX9_resultOf_103 mn_X9_49 mX11_at_w (sp_X11_at (o_X9_a4 h)) rfl rfl (Nat.le_of_ble_eq_true rfl) (by decide) rfl (Or.inl rfl) ?_
    refine r_iadd (pc := 106) hX dX9_resultOf_106 ?_
    exact r_ireturn (pc := 107) hX dX9_resultOf_107 rfl rfl (by first | with_reducible rfl | (simp only [resultOf_, eq_false c21_0, eq_false c21_1, eq_false c21_2, eq_false c21_3, eq_false c21_4, eq_false c21_5, eq_true c21_6, ↓reduceIte, if_true, if_false, decide_true, decide_false, eq_self, b2i_t, b2i_f, Bool.false_eq_true, and_true, true_and, and_false, false_and, or_true, true_or, or_false, false_or, not_true_eq_false, not_false_eq_true] <;> rfl) | simp [resultOf_, eq_false c21_0, eq_false c21_1, eq_false c21_2, eq_false c21_3, eq_false c21_4, eq_false c21_5, eq_true c21_6]) rfl
  refine r_tsOut (pc := 21) hX 108 dX9_resultOf_21 (im_tsOut (fun z h1 h2 e => ?_)) (by decide) ?_
  · have hz : z = 0 ∨ z = 1 ∨ z = 2 ∨ z = 3 ∨ z = 4 ∨ z = 5 ∨ z = 6 := by omega
    rcases hz with rfl | rfl | rfl | rfl | rfl | rfl | rfl
    · exact c21_0 (im_toInt (y := 0) (e.trans (by decide)))
    · exact c21_1 (im_toInt (y := 1) (e.trans (by decide)))
    · exact c21_2 (im_toInt (y := 2) (e.trans (by decide)))
    · exact c21_3 (im_toInt (y := 3) (e.trans (by decide)))
    · exact c21_4 (im_toInt (y := 4) (e.trans (by decide)))
    · exact c21_5 (im_toInt (y := 5) (e.trans (by decide)))
    · exact c21_6 (im_toInt (y := 6) (e.trans (by decide)))
  refine r_aload_n (pc := 108) hX dX9_resultOf_108 rfl ?_
  refine r_getr (pc := 109) hX dX9_resultOf_109 fl_X9_26 rfl (o_X9_k h) (o_X9_r5 h) ?_
  refine r_iload_n (pc := 112) hX dX9_resultOf_112 rfl ?_
  refine r_callSN (Z := mX11_at) (pc := 113) hX dX9_resultOf_113 mn_X9_49 mX11_at_w (sp_X11_at (o_X9_a5 h)) rfl rfl (Nat.le_of_ble_eq_true rfl) (by decide) rfl (Or.inl rfl) ?_
  exact r_ireturn (pc := 116) hX dX9_resultOf_116 rfl rfl (by first | with_reducible rfl | (simp only [resultOf_, eq_false c21_0, eq_false c21_1, eq_false c21_2, eq_false c21_3, eq_false c21_4, eq_false c21_5, eq_false c21_6, ↓reduceIte, if_true, if_false, decide_true, decide_false, eq_self, b2i_t, b2i_f, Bool.false_eq_true, and_true, true_and, and_false, false_and, or_true, true_or, or_false, false_or, not_true_eq_false, not_false_eq_true] <;> rfl) | simp [resultOf_, eq_false c21_0, eq_false c21_1, eq_false c21_2, eq_false c21_3, eq_false c21_4, eq_false c21_5, eq_false c21_6]) rfl
set_option maxRecDepth 100000 in
set_option maxHeartbeats 1000000 in
theorem sp_X9_performCall {l : Launch} {k : im_K} {S : im_S} {I : im_I} {a m : Nat} (h : o_X9 S a m) (hm : m < a ∨ a + 4 < m) : im_Runs l k 1 mX9_performCall [.ref a] (S, I) (none) (S, performCall_ I a m) := by
  refine im_run (by decide +kernel) ⟨Nat.le_refl _, Nat.le_refl _⟩ (Nat.le_of_ble_eq_true rfl) ?_
  intro X hl hX hxn hxz hxc hxs
  subst hl
  change im_E X k _ 0 [some (.ref a), none, none] [] S I
  refine r_iconst (pc := 0) hX 3 dX9_performCall_0 (by decide) ?_
  refine r_aload_n (pc := 1) hX dX9_performCall_1 rfl ?_
  refine r_getr (pc := 2) hX dX9_performCall_2 fl_X9_23 rfl (o_X9_k h) (o_X9_r4 h) ?_
  refine r_iconst (pc := 5) hX 0 dX9_performCall_5 (by decide) ?_
  refine r_callSN (Z := mX11_at) (pc := 6) hX dX9_performCall_6 mn_X9_49 mX11_at_w (sp_X11_at (o_X9_a4 h)) rfl rfl (Nat.le_of_ble_eq_true rfl) (by decide) rfl (Or.inl rfl) ?_
  refine r_imul (pc := 9) hX dX9_performCall_9 ?_
  refine r_iconst (pc := 10) hX 2 dX9_performCall_10 (by decide) ?_
  refine r_aload_n (pc := 11) hX dX9_performCall_11 rfl ?_
  refine r_getr (pc := 12) hX dX9_performCall_12 fl_X9_23 rfl (o_X9_k h) (o_X9_r4 h) ?_
  refine r_iconst (pc := 15) hX 1 dX9_performCall_15 (by decide) ?_
  refine r_callSN (Z := mX11_at) (pc := 16) hX dX9_performCall_16 mn_X9_49 mX11_at_w (sp_X11_at (o_X9_a4 h)) rfl rfl (Nat.le_of_ble_eq_true rfl) (by decide) rfl (Or.inl rfl) ?_
  refine r_imul (pc := 19) hX dX9_performCall_19 ?_
  refine r_iadd (pc := 20) hX dX9_performCall_20 ?_
  refine r_iconst (pc := 21) hX 1 dX9_performCall_21 (by decide) ?_
  refine r_iadd (pc := 22) hX dX9_performCall_22 ?_
  refine r_istore_n (pc := 23) hX (L' := [_, _, _]) dX9_performCall_23 rfl rfl (Nat.le_of_ble_eq_true rfl) ?_
  refine r_iconst (pc := 24) hX 1 dX9_performCall_24 (by decide) ?_
  refine r_istore_n (pc := 25) hX (L' := [_, _, _]) dX9_performCall_25 rfl rfl (Nat.le_of_ble_eq_true rfl) ?_
  have hL26 : ∀ (w1 : Nat) (i1 : Int32) (J1 : im_I), J1 m 0 = I m 0 → cnt i1 (I m 0) = w1 → loopN w1 i1 (loseOne_ a m) J1 = loopN (cnt (1) (I m 0)) (1) (loseOne_ a m) (I) → im_E X k (im_Q X k (none) (S, performCall_ I a m)) 26 [some (.ref a), some (.int (3 * at_ (I (a + 2)) 11 0 + 2 * at_ (I (a + 2)) 11 1 + 1)), some (.int i1)] [] S J1 := by
    intro w1
    induction w1 with
    | zero =>
      intro i1 J1 hf1 hm1 hR1
      refine r_iload_n (pc := 26) hX dX9_performCall_26 rfl ?_
      refine r_aload_n (pc := 27) hX dX9_performCall_27 rfl ?_
      refine r_getr (pc := 28) hX dX9_performCall_28 fl_X9_15 rfl (o_X9_k h) (o_X9_r7 h) ?_
      refine r_geti (pc := 31) hX dX9_performCall_31 fl_X9_104 rfl (o_X5_k (o_X9_o7 h)) ?_
      refine r_icmp_ge (pc := 34) hX 79 dX9_performCall_34 (by decide) (fun c34 => ?_) (fun c34 => ?_)
      · have c34d := Int32.not_lt.mpr c34
        rw [loopN_0] at hR1
        subst hR1
        refine r_aload_n (pc := 79) hX dX9_performCall_79 rfl ?_
        refine r_getr (pc := 80) hX dX9_performCall_80 fl_X9_23 rfl (o_X9_k h) (o_X9_r4 h) ?_
        refine r_iconst (pc := 83) hX 0 dX9_performCall_83 (by decide) ?_
        refine r_iload_n (pc := 84) hX dX9_performCall_84 rfl ?_
        refine r_callSN (Z := mX11_put) (pc := 85) hX dX9_performCall_85 mn_X9_89 mX11_put_w (sp_X11_put (o_X9_a4 h)) rfl rfl (Nat.le_of_ble_eq_true rfl) (by decide) rfl (Or.inl rfl) ?_
        refine r_aload_n (pc := 88) hX dX9_performCall_88 rfl ?_
        refine r_getr (pc := 89) hX dX9_performCall_89 fl_X9_29 rfl (o_X9_k h) (o_X9_r8 h) ?_
        refine r_iconst (pc := 92) hX 0 dX9_performCall_92 (by decide) ?_
        refine r_aload_n (pc := 93) hX dX9_performCall_93 rfl ?_
        refine r_geti (pc := 94) hX dX9_performCall_94 fl_X9_36 rfl (o_X9_k h) ?_
        refine r_callSN (Z := mX11_put) (pc := 97) hX dX9_performCall_97 mn_X9_89 mX11_put_w (sp_X11_put (o_X9_a8 h)) rfl rfl (Nat.le_of_ble_eq_true rfl) (by decide) rfl (Or.inl rfl) ?_
        exact r_return (pc := 100) hX dX9_performCall_100 rfl rfl (by first | with_reducible rfl | (simp only [performCall_, loopC, eq_true c34, eq_false c34d, ↓reduceIte, if_true, if_false, decide_true, decide_false, eq_self, b2i_t, b2i_f, Bool.false_eq_true, and_true, true_and, and_false, false_and, or_true, true_or, or_false, false_or, not_true_eq_false, not_false_eq_true] <;> rfl) | simp [performCall_, loopC, eq_true c34, eq_false c34d])
      · have c34d := Int32.not_le.mp c34
        rw [hf1] at c34; exact (cnt_ex hm1  c34).elim
    | succ w1 ih1 =>
      intro i1 J1 hf1 hm1 hR1
      refine r_iload_n (pc := 26) hX dX9_performCall_26 rfl ?_
      refine r_aload_n (pc := 27) hX dX9_performCall_27 rfl ?_
      refine r_getr (pc := 28) hX dX9_performCall_28 fl_X9_15 rfl (o_X9_k h) (o_X9_r7 h) ?_
      refine r_geti (pc := 31) hX dX9_performCall_31 fl_X9_104 rfl (o_X5_k (o_X9_o7 h)) ?_
      refine r_icmp_ge (pc := 34) hX 79 dX9_performCall_34 (by decide) (fun c34 => ?_) (fun c34 => ?_)
      · have c34d := Int32.not_lt.mpr c34
        rw [hf1] at c34; exact (cnt_go hm1  c34).elim
      · have c34d := Int32.not_le.mp c34
        refine r_aload_n (pc := 37) hX dX9_performCall_37 rfl ?_
        refine r_getr (pc := 38) hX dX9_performCall_38 fl_X9_15 rfl (o_X9_k h) (o_X9_r7 h) ?_
        refine r_geti (pc := 41) hX dX9_performCall_41 fl_X9_106 rfl (o_X5_k (o_X9_o7 h)) ?_
        refine r_iload_n (pc := 44) hX dX9_performCall_44 rfl ?_
        refine r_callSN (Z := mX11_hasBit) (pc := 45) hX dX9_performCall_45 mn_X9_109 mX11_hasBit_w (sp_X11_hasBit) rfl rfl (Nat.le_of_ble_eq_true rfl) (by decide) rfl (Or.inl rfl) ?_
        refine r_if_ne (pc := 48) hX 73 dX9_performCall_48 (by decide) (fun c48 => ?_) (fun c48 => ?_)
        · replace c48 := b2i_1 c48
          refine r_iinc (pc := 73) hX 1 (L' := [_, _, _]) dX9_performCall_73 rfl (by decide) rfl rfl ?_
          refine r_goto (pc := 76) hX (tgt := 26) dX9_performCall_76 (by decide) ?_
          refine r_mem (I' := (loseOne_ a m) i1 J1) (by first | with_reducible rfl | (simp only [loseOne_, eq_false c34, eq_true c34d, c48, ↓reduceIte, if_true, if_false, decide_true, decide_false, eq_self, b2i_t, b2i_f, Bool.false_eq_true, and_true, true_and, and_false, false_and, or_true, true_or, or_false, false_or, not_true_eq_false, not_false_eq_true] <;> rfl) | simp [loseOne_, eq_false c34, eq_true c34d, c48]) ?_
          exact ih1 _ _ ((congrFun (loseOne_fr hm) 0).trans hf1) (cnt_nx hm1) (loopN_s.symm.trans hR1)
        · replace c48 := b2i_0 c48
          refine r_aload_n (pc := 51) hX dX9_performCall_51 rfl ?_
          refine r_getr (pc := 52) hX dX9_performCall_52 fl_X9_23 rfl (o_X9_k h) (o_X9_r4 h) ?_
          refine r_iload_n (pc := 55) hX dX9_performCall_55 rfl ?_
          refine r_ldc (pc := 56) hX dX9_performCall_56 ko_X9_113 ?_
          refine r_callSN (Z := mX11_put) (pc := 58) hX dX9_performCall_58 mn_X9_89 mX11_put_w (sp_X11_put (o_X9_a4 h)) rfl rfl (Nat.le_of_ble_eq_true rfl) (by decide) rfl (Or.inl rfl) ?_
          refine r_aload_n (pc := 61) hX dX9_performCall_61 rfl ?_
          refine r_getr (pc := 62) hX dX9_performCall_62 fl_X9_29 rfl (o_X9_k h) (o_X9_r8 h) ?_
          refine r_iload_n (pc := 65) hX dX9_performCall_65 rfl ?_
          refine r_aload_n (pc := 66) hX dX9_performCall_66 rfl ?_
          refine r_geti (pc := 67) hX dX9_performCall_67 fl_X9_42 rfl (o_X9_k h) ?_
          refine r_callSN (Z := mX11_put) (pc := 70) hX dX9_performCall_70 mn_X9_89 mX11_put_w (sp_X11_put (o_X9_a8 h)) rfl rfl (Nat.le_of_ble_eq_true rfl) (by decide) rfl (Or.inl rfl) ?_
          refine r_iinc (pc := 73) hX 1 (L' := [_, _, _]) dX9_performCall_73 rfl (by decide) rfl rfl ?_
          refine r_goto (pc := 76) hX (tgt := 26) dX9_performCall_76 (by decide) ?_
          refine r_mem (I' := (loseOne_ a m) i1 J1) (by first | with_reducible rfl | (simp only [loseOne_, eq_false c34, eq_true c34d, c48, ↓reduceIte, if_true, if_false, decide_true, decide_false, eq_self, b2i_t, b2i_f, Bool.false_eq_true, and_true, true_and, and_false, false_and, or_true, true_or, or_false, false_or, not_true_eq_false, not_false_eq_true] <;> rfl) | simp [loseOne_, eq_false c34, eq_true c34d, c48]) ?_
          exact ih1 _ _ ((congrFun (loseOne_fr hm) 0).trans hf1) (cnt_nx hm1) (loopN_s.symm.trans hR1)
  exact hL26 (cnt (1) (I m 0)) (1) (I) rfl rfl rfl
set_option maxRecDepth 100000 in
set_option maxHeartbeats 1000000 in
theorem sp_X9_perform {l : Launch} {k : im_K} {S : im_S} {I : im_I} {a m : Nat} {p0 : Int32} {p1 : Int32} {p2 : Int32} {p3 : Int32} {p4 : Int32} (h : o_X9 S a m) (hm : m < a ∨ a + 4 < m) : im_Runs l k 2 mX9_perform [.ref a, .int p0, .int p1, .int p2, .int p3, .int p4] (S, I) (none) (S, perform_ I a m p0 p1 p2 p3 p4) := by
  refine im_run (by decide +kernel) ⟨Nat.le_refl _, Nat.le_refl _⟩ (Nat.le_of_ble_eq_true rfl) ?_
  intro X hl hX hxn hxz hxc hxs
  subst hl
  change im_E X k _ 0 [some (.ref a), some (.int p0), some (.int p1), some (.int p2), some (.int p3), some (.int p4)] [] S I
  refine r_iload_n (pc := 0) hX dX9_perform_0 rfl ?_
  refine r_bipush (pc := 1) hX 8 dX9_perform_1 (by decide) ?_
  refine r_icmp_ne (pc := 3) hX 25 dX9_perform_3 (by decide) (fun c3 => ?_) (fun c3 => ?_)
  · refine r_iload_n (pc := 25) hX dX9_perform_25 rfl ?_
    refine r_bipush (pc := 26) hX 9 dX9_perform_26 (by decide) ?_
    refine r_icmp_ne (pc := 28) hX 38 dX9_perform_28 (by decide) (fun c28 => ?_) (fun c28 => ?_)
    · refine r_aload_n (pc := 38) hX dX9_perform_38 rfl ?_
      refine r_getr (pc := 39) hX dX9_perform_39 fl_X9_23 rfl (o_X9_k h) (o_X9_r4 h) ?_
      refine r_iload_n (pc := 42) hX dX9_perform_42 rfl ?_
      refine r_aload_n (pc := 43) hX dX9_perform_43 rfl ?_
      refine r_iload_n (pc := 44) hX dX9_perform_44 rfl ?_
      refine r_iload_n (pc := 45) hX dX9_perform_45 rfl ?_
      refine r_iload (pc := 46) hX dX9_perform_46 rfl ?_
      refine r_iload (pc := 48) hX dX9_perform_48 rfl ?_
      refine r_callV (Z := mX9_resultOf) (t := 9) (pc := 50) hX dX9_perform_50 ml_X9_100 mX9_resultOf_w ⟨by decide, rfl⟩ (o_X9_k h) (sp_X9_resultOf h) rfl rfl (Nat.le_of_ble_eq_true rfl) (by decide) rfl (Or.inl rfl) ?_
      refine r_callSN (Z := mX11_put) (pc := 53) hX dX9_perform_53 mn_X9_89 mX11_put_w (sp_X11_put (o_X9_a4 h)) rfl rfl (Nat.le_of_ble_eq_true rfl) (by decide) rfl (Or.inl rfl) ?_
      refine r_aload_n (pc := 56) hX dX9_perform_56 rfl ?_
      refine r_getr (pc := 57) hX dX9_perform_57 fl_X9_29 rfl (o_X9_k h) (o_X9_r8 h) ?_
      refine r_iload_n (pc := 60) hX dX9_perform_60 rfl ?_
      refine r_aload_n (pc := 61) hX dX9_perform_61 rfl ?_
      refine r_geti (pc := 62) hX dX9_perform_62 fl_X9_36 rfl (o_X9_k h) ?_
      refine r_callSN (Z := mX11_put) (pc := 65) hX dX9_perform_65 mn_X9_89 mX11_put_w (sp_X11_put (o_X9_a8 h)) rfl rfl (Nat.le_of_ble_eq_true rfl) (by decide) rfl (Or.inl rfl) ?_
      exact r_return (pc := 68) hX dX9_perform_68 rfl rfl (by first | with_reducible rfl | (simp only [perform_, eq_false c3, eq_false c28, ↓reduceIte, if_true, if_false, decide_true, decide_false, eq_self, b2i_t, b2i_f, Bool.false_eq_true, and_true, true_and, and_false, false_and, or_true, true_or, or_false, false_or, not_true_eq_false, not_false_eq_true] <;> rfl) | simp [perform_, eq_false c3, eq_false c28])
    · refine r_aload_n (pc := 31) hX dX9_perform_31 rfl ?_
      refine r_callV (Z := mX9_performCall) (t := 9) (pc := 32) hX dX9_perform_32 ml_X9_97 mX9_performCall_w ⟨by decide, rfl⟩ (o_X9_k h) (sp_X9_performCall h hm) rfl rfl (Nat.le_of_ble_eq_true rfl) (by decide) rfl (Or.inl rfl) ?_
      refine r_goto (pc := 35) hX (tgt := 68) dX9_perform_35 (by decide) ?_
      exact r_return (pc := 68) hX dX9_perform_68 rfl rfl (by first | with_reducible rfl | (simp only [perform_, eq_false c3, eq_true c28, ↓reduceIte, if_true, if_false, decide_true, decide_false, eq_self, b2i_t, b2i_f, Bool.false_eq_true, and_true, true_and, and_false, false_and, or_true, true_or, or_false, false_or, not_true_eq_false, not_false_eq_true] <;> rfl) | simp [perform_, eq_false c3, eq_true c28])
  · refine r_aload_n (pc := 6) hX dX9_perform_6 rfl ?_
    refine r_getr (pc := 7) hX dX9_perform_7 fl_X9_26 rfl (o_X9_k h) (o_X9_r5 h) ?_
    refine r_iload_n (pc := 10) hX dX9_perform_10 rfl ?_
    refine r_aload_n (pc := 11) hX dX9_perform_11 rfl ?_
    refine r_getr (pc := 12) hX dX9_perform_12 fl_X9_23 rfl (o_X9_k h) (o_X9_r4 h) ?_
    refine r_iload_n (pc := 15) hX dX9_perform_15 rfl ?_
    refine r_callSN (Z := mX11_at) (pc := 16) hX dX9_perform_16 mn_X9_49 mX11_at_w (sp_X11_at (o_X9_a4 h)) rfl rfl (Nat.le_of_ble_eq_true rfl) (by decide) rfl (Or.inl rfl) ?_
    refine r_callSN (Z := mX11_put) (pc := 19) hX dX9_perform_19 mn_X9_89 mX11_put_w (sp_X11_put (o_X9_a5 h)) rfl rfl (Nat.le_of_ble_eq_true rfl) (by decide) rfl (Or.inl rfl) ?_
    refine r_goto (pc := 22) hX (tgt := 68) dX9_perform_22 (by decide) ?_
    exact r_return (pc := 68) hX dX9_perform_68 rfl rfl (by first | with_reducible rfl | (simp only [perform_, eq_true c3, ↓reduceIte, if_true, if_false, decide_true, decide_false, eq_self, b2i_t, b2i_f, Bool.false_eq_true, and_true, true_and, and_false, false_and, or_true, true_or, or_false, false_or, not_true_eq_false, not_false_eq_true] <;> rfl) | simp [perform_, eq_true c3])
set_option maxRecDepth 100000 in
set_option maxHeartbeats 1000000 in
theorem sp_X9_goThrough {l : Launch} {k : im_K} {S : im_S} {I : im_I} {a m : Nat} {b0 mb0 : Nat} {p1 : Int32} {p2 : Int32} (h : o_X9 S a m) (hb0 : o_X1 S b0 mb0) (hm : m < a ∨ a + 4 < m) : im_Runs l k 3 mX9_goThrough [.ref a, .ref b0, .int p1, .int p2] (S, I) (none) (S, goThrough_ I a m b0 p1 p2) := by
  refine im_run (by decide +kernel) ⟨Nat.le_refl _, Nat.le_refl _⟩ (Nat.le_of_ble_eq_true rfl) ?_
  intro X hl hX hxn hxz hxc hxs
  subst hl
  change im_E X k _ 0 [some (.ref a), some (.ref b0), some (.int p1), some (.int p2), none, none, none, none, none, none, none] [] S I
  refine r_iload_n (pc := 0) hX dX9_goThrough_0 rfl ?_
  refine r_istore (pc := 1) hX (L' := [_, _, _, _, _, _, _, _, _, _, _]) dX9_goThrough_1 rfl rfl (Nat.le_of_ble_eq_true rfl) ?_
  have hL3 : ∀ (w1 : Nat) (i1 : Int32) (J1 : im_I), cnt i1 (p2) = w1 → loopN w1 i1 (runStep_ a m b0) J1 = loopN (cnt (p1) (p2)) (p1) (runStep_ a m b0) (I) → im_E X k (im_Q X k (none) (S, goThrough_ I a m b0 p1 p2)) 3 [some (.ref a), some (.ref b0), some (.int p1), some (.int p2), some (.int i1), none, none, none, none, none, none] [] S J1 := by
    intro w1
    induction w1 with
    | zero =>
      intro i1 J1  hm1 hR1
      refine r_iload (pc := 3) hX dX9_goThrough_3 rfl ?_
      refine r_iload_n (pc := 5) hX dX9_goThrough_5 rfl ?_
      refine r_icmp_ge (pc := 6) hX 172 dX9_goThrough_6 (by decide) (fun c6 => ?_) (fun c6 => ?_)
      · have c6d := Int32.not_lt.mpr c6
        rw [loopN_0] at hR1
        subst hR1
        exact r_return (pc := 172) hX dX9_goThrough_172 rfl rfl (by first | with_reducible rfl | (simp only [goThrough_, loopC, eq_true c6, eq_false c6d, ↓reduceIte, if_true, if_false, decide_true, decide_false, eq_self, b2i_t, b2i_f, Bool.false_eq_true, and_true, true_and, and_false, false_and, or_true, true_or, or_false, false_or, not_true_eq_false, not_false_eq_true] <;> rfl) | simp [goThrough_, loopC, eq_true c6, eq_false c6d])
      · have c6d := Int32.not_le.mp c6
        exact (cnt_ex hm1  c6).elim
    | succ w1 ih1 =>
      intro i1 J1  hm1 hR1
      refine r_iload (pc := 3) hX dX9_goThrough_3 rfl ?_
      refine r_iload_n (pc := 5) hX dX9_goThrough_5 rfl ?_
      refine r_icmp_ge (pc := 6) hX 172 dX9_goThrough_6 (by decide) (fun c6 => ?_) (fun c6 => ?_)
      · have c6d := Int32.not_lt.mpr c6
        exact (cnt_go hm1  c6).elim
      · have c6d := Int32.not_le.mp c6
        refine r_aload_n (pc := 9) hX dX9_goThrough_9 rfl ?_
        refine r_iload (pc := 10) hX dX9_goThrough_10 rfl ?_
        refine r_callV (Z := mX1_kindOf) (t := 1) (pc := 12) hX dX9_goThrough_12 ml_X9_68 mX1_kindOf_w ⟨by decide, rfl⟩ (o_X1_k hb0) (sp_X1_kindOf hb0) rfl rfl (Nat.le_of_ble_eq_true rfl) (by decide) rfl (Or.inl rfl) ?_
        refine r_istore (pc := 15) hX (L' := [_, _, _, _, _, _, _, _, _, _, _]) dX9_goThrough_15 rfl rfl (Nat.le_of_ble_eq_true rfl) ?_
        refine r_aload_n (pc := 17) hX dX9_goThrough_17 rfl ?_
        refine r_iload (pc := 18) hX dX9_goThrough_18 rfl ?_
        refine r_iconst (pc := 20) hX 1 dX9_goThrough_20 (by decide) ?_
        refine r_callV (Z := mX1_operandOf) (t := 1) (pc := 21) hX dX9_goThrough_21 ml_X9_71 mX1_operandOf_w ⟨by decide, rfl⟩ (o_X1_k hb0) (sp_X1_operandOf hb0) rfl rfl (Nat.le_of_ble_eq_true rfl) (by decide) rfl (Or.inl rfl) ?_
        refine r_istore (pc := 24) hX (L' := [_, _, _, _, _, _, _, _, _, _, _]) dX9_goThrough_24 rfl rfl (Nat.le_of_ble_eq_true rfl) ?_
        refine r_aload_n (pc := 26) hX dX9_goThrough_26 rfl ?_
        refine r_iload (pc := 27) hX dX9_goThrough_27 rfl ?_
        refine r_iconst (pc := 29) hX 2 dX9_goThrough_29 (by decide) ?_
        refine r_callV (Z := mX1_operandOf) (t := 1) (pc := 30) hX dX9_goThrough_30 ml_X9_71 mX1_operandOf_w ⟨by decide, rfl⟩ (o_X1_k hb0) (sp_X1_operandOf hb0) rfl rfl (Nat.le_of_ble_eq_true rfl) (by decide) rfl (Or.inl rfl) ?_
        refine r_istore (pc := 33) hX (L' := [_, _, _, _, _, _, _, _, _, _, _]) dX9_goThrough_33 rfl rfl (Nat.le_of_ble_eq_true rfl) ?_
        refine r_aload_n (pc := 35) hX dX9_goThrough_35 rfl ?_
        refine r_iload (pc := 36) hX dX9_goThrough_36 rfl ?_
        refine r_iconst (pc := 38) hX 3 dX9_goThrough_38 (by decide) ?_
        refine r_callV (Z := mX1_operandOf) (t := 1) (pc := 39) hX dX9_goThrough_39 ml_X9_71 mX1_operandOf_w ⟨by decide, rfl⟩ (o_X1_k hb0) (sp_X1_operandOf hb0) rfl rfl (Nat.le_of_ble_eq_true rfl) (by decide) rfl (Or.inl rfl) ?_
        refine r_istore (pc := 42) hX (L' := [_, _, _, _, _, _, _, _, _, _, _]) dX9_goThrough_42 rfl rfl (Nat.le_of_ble_eq_true rfl) ?_
        refine r_aload_n (pc := 44) hX dX9_goThrough_44 rfl ?_
        refine r_iload (pc := 45) hX dX9_goThrough_45 rfl ?_
        refine r_iconst (pc := 47) hX 4 dX9_goThrough_47 (by decide) ?_
        refine r_callV (Z := mX1_operandOf) (t := 1) (pc := 48) hX dX9_goThrough_48 ml_X9_71 mX1_operandOf_w ⟨by decide, rfl⟩ (o_X1_k hb0) (sp_X1_operandOf hb0) rfl rfl (Nat.le_of_ble_eq_true rfl) (by decide) rfl (Or.inl rfl) ?_
        refine r_istore (pc := 51) hX (L' := [_, _, _, _, _, _, _, _, _, _, _]) dX9_goThrough_51 rfl rfl (Nat.le_of_ble_eq_true rfl) ?_
        refine r_aload_n (pc := 53) hX dX9_goThrough_53 rfl ?_
        refine r_geti (pc := 54) hX dX9_goThrough_54 fl_X9_42 rfl (o_X9_k h) ?_
        refine r_iconst (pc := 57) hX 1 dX9_goThrough_57 (by decide) ?_
        refine r_iadd (pc := 58) hX dX9_goThrough_58 ?_
        refine r_aload_n (pc := 59) hX dX9_goThrough_59 rfl ?_
        refine r_iload (pc := 60) hX dX9_goThrough_60 rfl ?_
        refine r_iload (pc := 62) hX dX9_goThrough_62 rfl ?_
        refine r_iload (pc := 64) hX dX9_goThrough_64 rfl ?_
        refine r_iload (pc := 66) hX dX9_goThrough_66 rfl ?_
        refine r_iload (pc := 68) hX dX9_goThrough_68 rfl ?_
        refine r_callV (Z := mX9_readyFor) (t := 9) (pc := 70) hX dX9_goThrough_70 ml_X9_75 mX9_readyFor_w ⟨by decide, rfl⟩ (o_X9_k h) (sp_X9_readyFor h) rfl rfl (Nat.le_of_ble_eq_true rfl) (by decide) rfl (Or.inl rfl) ?_
        refine r_mmax (pc := 73) hX dX9_goThrough_73 ml_X9_79 w_mmax (Nat.le_of_ble_eq_true rfl) (by decide) rfl ?_
        refine r_istore (pc := 76) hX (L' := [_, _, _, _, _, _, _, _, _, _, _]) dX9_goThrough_76 rfl rfl (Nat.le_of_ble_eq_true rfl) ?_
        refine r_aload_n (pc := 78) hX dX9_goThrough_78 rfl ?_
        refine r_dup (pc := 79) hX dX9_goThrough_79 rfl ?_
        refine r_geti (pc := 80) hX dX9_goThrough_80 fl_X9_39 rfl (o_X9_k h) ?_
        refine r_iload (pc := 83) hX dX9_goThrough_83 rfl ?_
        refine r_aload_n (pc := 85) hX dX9_goThrough_85 rfl ?_
        refine r_geti (pc := 86) hX dX9_goThrough_86 fl_X9_42 rfl (o_X9_k h) ?_
        refine r_isub (pc := 89) hX dX9_goThrough_89 ?_
        refine r_iconst (pc := 90) hX 1 dX9_goThrough_90 (by decide) ?_
        refine r_isub (pc := 91) hX dX9_goThrough_91 ?_
        refine r_iadd (pc := 92) hX dX9_goThrough_92 ?_
        refine r_puti (pc := 93) hX dX9_goThrough_93 fl_X9_39 rfl rfl (o_X9_k h) ?_
        refine r_aload_n (pc := 96) hX dX9_goThrough_96 rfl ?_
        refine r_iload (pc := 97) hX dX9_goThrough_97 rfl ?_
        refine r_puti (pc := 99) hX dX9_goThrough_99 fl_X9_42 rfl rfl (o_X9_k h) ?_
        refine r_aload_n (pc := 102) hX dX9_goThrough_102 rfl ?_
        refine r_dup (pc := 103) hX dX9_goThrough_103 rfl ?_
        refine r_geti (pc := 104) hX dX9_goThrough_104 fl_X9_32 rfl (o_X9_k h) ?_
        refine r_iconst (pc := 107) hX 1 dX9_goThrough_107 (by decide) ?_
        refine r_iadd (pc := 108) hX dX9_goThrough_108 ?_
        refine r_puti (pc := 109) hX dX9_goThrough_109 fl_X9_32 rfl rfl (o_X9_k h) ?_
        refine r_aload_n (pc := 112) hX dX9_goThrough_112 rfl ?_
        refine r_iload (pc := 113) hX dX9_goThrough_113 rfl ?_
        refine r_aload_n (pc := 115) hX dX9_goThrough_115 rfl ?_
        refine r_getr (pc := 116) hX dX9_goThrough_116 fl_X9_15 rfl (o_X9_k h) (o_X9_r7 h) ?_
        refine r_iload (pc := 119) hX dX9_goThrough_119 rfl ?_
        refine r_callV (Z := mX5_cyclesOf) (t := 5) (pc := 121) hX dX9_goThrough_121 ml_X9_84 mX5_cyclesOf_w ⟨by decide, rfl⟩ (o_X5_k (o_X9_o7 h)) (sp_X5_cyclesOf (o_X9_o7 h)) rfl rfl (Nat.le_of_ble_eq_true rfl) (by decide) rfl (Or.inl rfl) ?_
        refine r_iadd (pc := 124) hX dX9_goThrough_124 ?_
        refine r_puti (pc := 125) hX dX9_goThrough_125 fl_X9_36 rfl rfl (o_X9_k h) ?_
        refine r_aload_n (pc := 128) hX dX9_goThrough_128 rfl ?_
        refine r_getr (pc := 129) hX dX9_goThrough_129 fl_X9_19 rfl (o_X9_k h) (o_X9_r3 h) ?_
        refine r_iload (pc := 132) hX dX9_goThrough_132 rfl ?_
        refine r_callSN (Z := mX11_at) (pc := 134) hX dX9_goThrough_134 mn_X9_49 mX11_at_w (sp_X11_at (o_X9_a3 h)) rfl rfl (Nat.le_of_ble_eq_true rfl) (by decide) rfl (Or.inl rfl) ?_
        refine r_iconst (pc := 137) hX (-1) dX9_goThrough_137 (by decide) ?_
        refine r_icmp_ne (pc := 138) hX 152 dX9_goThrough_138 (by decide) (fun c138 => ?_) (fun c138 => ?_)
        · refine r_aload_n (pc := 152) hX dX9_goThrough_152 rfl ?_
          refine r_iload (pc := 153) hX dX9_goThrough_153 rfl ?_
          refine r_iload (pc := 155) hX dX9_goThrough_155 rfl ?_
          refine r_iload (pc := 157) hX dX9_goThrough_157 rfl ?_
          refine r_iload (pc := 159) hX dX9_goThrough_159 rfl ?_
          refine r_iload (pc := 161) hX dX9_goThrough_161 rfl ?_
          refine r_callV (Z := mX9_perform) (t := 9) (pc := 163) hX dX9_goThrough_163 ml_X9_93 mX9_perform_w ⟨by decide, rfl⟩ (o_X9_k h) (sp_X9_perform h hm) rfl rfl (Nat.le_of_ble_eq_true rfl) (by decide) rfl (Or.inl rfl) ?_
          refine r_iinc (pc := 166) hX 1 (L' := [_, _, _, _, _, _, _, _, _, _, _]) dX9_goThrough_166 rfl (by decide) rfl rfl ?_
          refine r_goto (pc := 169) hX (tgt := 3) dX9_goThrough_169 (by decide) ?_
          refine r_weak (L' := [some _, some _, some _, some _, some _, none, none, none, none, none, none]) (And.intro rfl (And.intro rfl (And.intro rfl (And.intro rfl (And.intro rfl trivial))))) ?_
          refine r_mem (I' := (runStep_ a m b0) i1 J1) (by first | with_reducible rfl | (simp only [runStep_, step1_, max_, eq_false c6, eq_true c6d, eq_false c138, ↓reduceIte, if_true, if_false, decide_true, decide_false, eq_self, b2i_t, b2i_f, Bool.false_eq_true, and_true, true_and, and_false, false_and, or_true, true_or, or_false, false_or, not_true_eq_false, not_false_eq_true] <;> rfl) | simp [runStep_, step1_, max_, eq_false c6, eq_true c6d, eq_false c138]) ?_
          exact ih1 _ _  (cnt_nx hm1) (loopN_s.symm.trans hR1)
        · refine r_aload_n (pc := 141) hX dX9_goThrough_141 rfl ?_
          refine r_getr (pc := 142) hX dX9_goThrough_142 fl_X9_19 rfl (o_X9_k h) (o_X9_r3 h) ?_
          refine r_iload (pc := 145) hX dX9_goThrough_145 rfl ?_
          refine r_iload (pc := 147) hX dX9_goThrough_147 rfl ?_
          refine r_callSN (Z := mX11_put) (pc := 149) hX dX9_goThrough_149 mn_X9_89 mX11_put_w (sp_X11_put (o_X9_a3 h)) rfl rfl (Nat.le_of_ble_eq_true rfl) (by decide) rfl (Or.inl rfl) ?_
          refine r_aload_n (pc := 152) hX dX9_goThrough_152 rfl ?_
          refine r_iload (pc := 153) hX dX9_goThrough_153 rfl ?_
          refine r_iload (pc := 155) hX dX9_goThrough_155 rfl ?_
          refine r_iload (pc := 157) hX dX9_goThrough_157 rfl ?_
          refine r_iload (pc := 159) hX dX9_goThrough_159 rfl ?_
          refine r_iload (pc := 161) hX dX9_goThrough_161 rfl ?_
          refine r_callV (Z := mX9_perform) (t := 9) (pc := 163) hX dX9_goThrough_163 ml_X9_93 mX9_perform_w ⟨by decide, rfl⟩ (o_X9_k h) (sp_X9_perform h hm) rfl rfl (Nat.le_of_ble_eq_true rfl) (by decide) rfl (Or.inl rfl) ?_
          refine r_iinc (pc := 166) hX 1 (L' := [_, _, _, _, _, _, _, _, _, _, _]) dX9_goThrough_166 rfl (by decide) rfl rfl ?_
          refine r_goto (pc := 169) hX (tgt := 3) dX9_goThrough_169 (by decide) ?_
          refine r_weak (L' := [some _, some _, some _, some _, some _, none, none, none, none, none, none]) (And.intro rfl (And.intro rfl (And.intro rfl (And.intro rfl (And.intro rfl trivial))))) ?_
          refine r_mem (I' := (runStep_ a m b0) i1 J1) (by first | with_reducible rfl | (simp only [runStep_, step1_, max_, eq_false c6, eq_true c6d, eq_true c138, ↓reduceIte, if_true, if_false, decide_true, decide_false, eq_self, b2i_t, b2i_f, Bool.false_eq_true, and_true, true_and, and_false, false_and, or_true, true_or, or_false, false_or, not_true_eq_false, not_false_eq_true] <;> rfl) | simp [runStep_, step1_, max_, eq_false c6, eq_true c6d, eq_true c138]) ?_
          exact ih1 _ _  (cnt_nx hm1) (loopN_s.symm.trans hR1)
  exact hL3 (cnt (p1) (p2)) (p1) (I)  rfl rfl
set_option maxRecDepth 100000 in
set_option maxHeartbeats 1000000 in
theorem sp_X9_go {l : Launch} {k : im_K} {S : im_S} {I : im_I} {a m : Nat} {b0 mb0 : Nat} {x1 n1 : Nat} (h : o_X9 S a m) (hb0 : o_X1 S b0 mb0) (hx1 : im_k S x1 = (20, n1)) (hm : m < a ∨ a + 4 < m) (hn : n1 < 2 ^ 31 := by first | decide | assumption) : im_Runs l k 4 mX9_go [.ref a, .ref b0, .ref x1] (S, I) (none) (S, go_ I a m b0 x1 n1) := by
  refine im_run (by decide +kernel) ⟨Nat.le_refl _, Nat.le_refl _⟩ (Nat.le_of_ble_eq_true rfl) ?_
  intro X hl hX hxn hxz hxc hxs
  subst hl
  change im_E X k _ 0 [some (.ref a), some (.ref b0), some (.ref x1), none, none, none, none, none] [] S I
  refine r_aload_n (pc := 0) hX dX9_go_0 rfl ?_
  refine r_iconst (pc := 1) hX 0 dX9_go_1 (by decide) ?_
  refine r_puti (pc := 2) hX dX9_go_2 fl_X9_32 rfl rfl (o_X9_k h) ?_
  refine r_aload_n (pc := 5) hX dX9_go_5 rfl ?_
  refine r_iconst (pc := 6) hX 0 dX9_go_6 (by decide) ?_
  refine r_puti (pc := 7) hX dX9_go_7 fl_X9_36 rfl rfl (o_X9_k h) ?_
  refine r_aload_n (pc := 10) hX dX9_go_10 rfl ?_
  refine r_iconst (pc := 11) hX 0 dX9_go_11 (by decide) ?_
  refine r_puti (pc := 12) hX dX9_go_12 fl_X9_39 rfl rfl (o_X9_k h) ?_
  refine r_aload_n (pc := 15) hX dX9_go_15 rfl ?_
  refine r_iconst (pc := 16) hX (-1) dX9_go_16 (by decide) ?_
  refine r_puti (pc := 17) hX dX9_go_17 fl_X9_42 rfl rfl (o_X9_k h) ?_
  refine r_aload_n (pc := 20) hX dX9_go_20 rfl ?_
  refine r_getr (pc := 21) hX dX9_go_21 fl_X9_19 rfl (o_X9_k h) (o_X9_r3 h) ?_
  refine r_iconst (pc := 24) hX (-1) dX9_go_24 (by decide) ?_
  refine r_callSN (Z := mX11_fill) (pc := 25) hX dX9_go_25 mn_X9_45 mX11_fill_w (sp_X11_fill (o_X9_a3 h)) rfl rfl (Nat.le_of_ble_eq_true rfl) (by decide) rfl (Or.inl rfl) ?_
  refine r_aload_n (pc := 28) hX dX9_go_28 rfl ?_
  refine r_getr (pc := 29) hX dX9_go_29 fl_X9_23 rfl (o_X9_k h) (o_X9_r4 h) ?_
  refine r_iconst (pc := 32) hX 0 dX9_go_32 (by decide) ?_
  refine r_callSN (Z := mX11_fill) (pc := 33) hX dX9_go_33 mn_X9_45 mX11_fill_w (sp_X11_fill (o_X9_a4 h)) rfl rfl (Nat.le_of_ble_eq_true rfl) (by decide) rfl (Or.inl rfl) ?_
  refine r_aload_n (pc := 36) hX dX9_go_36 rfl ?_
  refine r_getr (pc := 37) hX dX9_go_37 fl_X9_26 rfl (o_X9_k h) (o_X9_r5 h) ?_
  refine r_iconst (pc := 40) hX 0 dX9_go_40 (by decide) ?_
  refine r_callSN (Z := mX11_fill) (pc := 41) hX dX9_go_41 mn_X9_45 mX11_fill_w (sp_X11_fill (o_X9_a5 h)) rfl rfl (Nat.le_of_ble_eq_true rfl) (by decide) rfl (Or.inl rfl) ?_
  refine r_aload_n (pc := 44) hX dX9_go_44 rfl ?_
  refine r_getr (pc := 45) hX dX9_go_45 fl_X9_29 rfl (o_X9_k h) (o_X9_r8 h) ?_
  refine r_iconst (pc := 48) hX 0 dX9_go_48 (by decide) ?_
  refine r_callSN (Z := mX11_fill) (pc := 49) hX dX9_go_49 mn_X9_45 mX11_fill_w (sp_X11_fill (o_X9_a8 h)) rfl rfl (Nat.le_of_ble_eq_true rfl) (by decide) rfl (Or.inl rfl) ?_
  refine r_aload_n (pc := 52) hX dX9_go_52 rfl ?_
  refine r_aload_n (pc := 53) hX dX9_go_53 rfl ?_
  refine r_iconst (pc := 54) hX 0 dX9_go_54 (by decide) ?_
  refine r_aload_n (pc := 55) hX dX9_go_55 rfl ?_
  refine r_aload_n (pc := 56) hX dX9_go_56 rfl ?_
  refine r_iconst (pc := 57) hX 0 dX9_go_57 (by decide) ?_
  refine r_callSN (Z := mX11_at) (pc := 58) hX dX9_go_58 mn_X9_49 mX11_at_w (sp_X11_at hx1) rfl rfl (Nat.le_of_ble_eq_true rfl) (by decide) rfl (Or.inl rfl) ?_
  refine r_callV (Z := mX1_startOf) (t := 1) (pc := 61) hX dX9_go_61 ml_X9_53 mX1_startOf_w ⟨by decide, rfl⟩ (o_X1_k hb0) (sp_X1_startOf hb0) rfl rfl (Nat.le_of_ble_eq_true rfl) (by decide) rfl (Or.inl rfl) ?_
  refine r_callV (Z := mX9_goThrough) (t := 9) (pc := 64) hX dX9_go_64 ml_X9_59 mX9_goThrough_w ⟨by decide, rfl⟩ (o_X9_k h) (sp_X9_goThrough h hb0 hm) rfl rfl (Nat.le_of_ble_eq_true rfl) (by decide) rfl (Or.inl rfl) ?_
  refine r_iconst (pc := 67) hX 0 dX9_go_67 (by decide) ?_
  refine r_istore_n (pc := 68) hX (L' := [_, _, _, _, _, _, _, _]) dX9_go_68 rfl rfl (Nat.le_of_ble_eq_true rfl) ?_
  have hL69 : ∀ (w1 : Nat) (i1 : Int32) (J1 : im_I), cnt i1 (4) = w1 → loopN w1 i1 (goBlock_ a m b0 x1 n1) J1 = loopN (cnt (0) (4)) (0) (goBlock_ a m b0 x1 n1) (goThrough_ (go0_ I a) a m b0 0 (startOf_ (go0_ I a) b0 (at_ ((go0_ I a) x1) n1 0))) → im_E X k (im_Q X k (none) (S, go_ I a m b0 x1 n1)) 69 [some (.ref a), some (.ref b0), some (.ref x1), some (.int i1), none, none, none, none] [] S J1 := by
    intro w1
    induction w1 with
    | zero =>
      intro i1 J1  hm1 hR1
      refine r_iload_n (pc := 69) hX dX9_go_69 rfl ?_
      refine r_iconst (pc := 70) hX 4 dX9_go_70 (by decide) ?_
      refine r_icmp_ge (pc := 71) hX 139 dX9_go_71 (by decide) (fun c71 => ?_) (fun c71 => ?_)
      · have c71d := Int32.not_lt.mpr c71
        rw [loopN_0] at hR1
        subst hR1
        exact r_return (pc := 139) hX dX9_go_139 rfl rfl (by first | with_reducible rfl | (simp only [go_, loopC, eq_true c71, eq_false c71d, ↓reduceIte, if_true, if_false, decide_true, decide_false, eq_self, b2i_t, b2i_f, Bool.false_eq_true, and_true, true_and, and_false, false_and, or_true, true_or, or_false, false_or, not_true_eq_false, not_false_eq_true] <;> rfl) | simp [go_, loopC, eq_true c71, eq_false c71d])
      · have c71d := Int32.not_le.mp c71
        exact (cnt_ex hm1  c71).elim
    | succ w1 ih1 =>
      intro i1 J1  hm1 hR1
      refine r_iload_n (pc := 69) hX dX9_go_69 rfl ?_
      refine r_iconst (pc := 70) hX 4 dX9_go_70 (by decide) ?_
      refine r_icmp_ge (pc := 71) hX 139 dX9_go_71 (by decide) (fun c71 => ?_) (fun c71 => ?_)
      · have c71d := Int32.not_lt.mpr c71
        exact (cnt_go hm1  c71).elim
      · have c71d := Int32.not_le.mp c71
        refine r_aload_n (pc := 74) hX dX9_go_74 rfl ?_
        refine r_aload_n (pc := 75) hX dX9_go_75 rfl ?_
        refine r_iload_n (pc := 76) hX dX9_go_76 rfl ?_
        refine r_callSN (Z := mX11_at) (pc := 77) hX dX9_go_77 mn_X9_49 mX11_at_w (sp_X11_at hx1) rfl rfl (Nat.le_of_ble_eq_true rfl) (by decide) rfl (Or.inl rfl) ?_
        refine r_callV (Z := mX1_startOf) (t := 1) (pc := 80) hX dX9_go_80 ml_X9_53 mX1_startOf_w ⟨by decide, rfl⟩ (o_X1_k hb0) (sp_X1_startOf hb0) rfl rfl (Nat.le_of_ble_eq_true rfl) (by decide) rfl (Or.inl rfl) ?_
        refine r_istore (pc := 83) hX (L' := [_, _, _, _, _, _, _, _]) dX9_go_83 rfl rfl (Nat.le_of_ble_eq_true rfl) ?_
        refine r_aload_n (pc := 85) hX dX9_go_85 rfl ?_
        refine r_aload_n (pc := 86) hX dX9_go_86 rfl ?_
        refine r_iload_n (pc := 87) hX dX9_go_87 rfl ?_
        refine r_iconst (pc := 88) hX 1 dX9_go_88 (by decide) ?_
        refine r_iadd (pc := 89) hX dX9_go_89 ?_
        refine r_callSN (Z := mX11_at) (pc := 90) hX dX9_go_90 mn_X9_49 mX11_at_w (sp_X11_at hx1) rfl rfl (Nat.le_of_ble_eq_true rfl) (by decide) rfl (Or.inl rfl) ?_
        refine r_callV (Z := mX1_startOf) (t := 1) (pc := 93) hX dX9_go_93 ml_X9_53 mX1_startOf_w ⟨by decide, rfl⟩ (o_X1_k hb0) (sp_X1_startOf hb0) rfl rfl (Nat.le_of_ble_eq_true rfl) (by decide) rfl (Or.inl rfl) ?_
        refine r_istore (pc := 96) hX (L' := [_, _, _, _, _, _, _, _]) dX9_go_96 rfl rfl (Nat.le_of_ble_eq_true rfl) ?_
        refine r_aload_n (pc := 98) hX dX9_go_98 rfl ?_
        refine r_getr (pc := 99) hX dX9_go_99 fl_X9_9 rfl (o_X9_k h) (o_X9_r6 h) ?_
        refine r_iload_n (pc := 102) hX dX9_go_102 rfl ?_
        refine r_callV (Z := mX8_roundsOf) (t := 8) (pc := 103) hX dX9_go_103 ml_X9_63 mX8_roundsOf_w ⟨by decide, rfl⟩ (o_X8_k (o_X9_o6 h)) (sp_X8_roundsOf (o_X9_o6 h)) rfl rfl (Nat.le_of_ble_eq_true rfl) (by decide) rfl (Or.inl rfl) ?_
        refine r_istore (pc := 106) hX (L' := [_, _, _, _, _, _, _, _]) dX9_go_106 rfl rfl (Nat.le_of_ble_eq_true rfl) ?_
        refine r_iconst (pc := 108) hX 0 dX9_go_108 (by decide) ?_
        refine r_istore (pc := 109) hX (L' := [_, _, _, _, _, _, _, _]) dX9_go_109 rfl rfl (Nat.le_of_ble_eq_true rfl) ?_
        have hL111 : ∀ (w2 : Nat) (i2 : Int32) (J2 : im_I), cnt i2 (roundsOf_ J1 3 i1) = w2 → loopN w2 i2 (fun _ K => goThrough_ K a m b0 (startOf_ J1 b0 (at_ (J1 x1) n1 i1)) (startOf_ J1 b0 (at_ (J1 x1) n1 (i1 + 1)))) J2 = loopN (cnt (0) (roundsOf_ J1 3 i1)) (0) (fun _ K => goThrough_ K a m b0 (startOf_ J1 b0 (at_ (J1 x1) n1 i1)) (startOf_ J1 b0 (at_ (J1 x1) n1 (i1 + 1)))) (J1) → im_E X k (im_Q X k (none) (S, go_ I a m b0 x1 n1)) 111 [some (.ref a), some (.ref b0), some (.ref x1), some (.int i1), some (.int (startOf_ J1 b0 (at_ (J1 x1) n1 i1))), some (.int (startOf_ J1 b0 (at_ (J1 x1) n1 (i1 + 1)))), some (.int (roundsOf_ J1 3 i1)), some (.int i2)] [] S J2 := by
          intro w2
          induction w2 with
          | zero =>
            intro i2 J2  hm2 hR2
            refine r_iload (pc := 111) hX dX9_go_111 rfl ?_
            refine r_iload (pc := 113) hX dX9_go_113 rfl ?_
            refine r_icmp_ge (pc := 115) hX 133 dX9_go_115 (by decide) (fun c115 => ?_) (fun c115 => ?_)
            · have c115d := Int32.not_lt.mpr c115
              rw [loopN_0] at hR2
              subst hR2
              refine r_iinc (pc := 133) hX 1 (L' := [_, _, _, _, _, _, _, _]) dX9_go_133 rfl (by decide) rfl rfl ?_
              refine r_goto (pc := 136) hX (tgt := 69) dX9_go_136 (by decide) ?_
              refine r_weak (L' := [some _, some _, some _, some _, none, none, none, none]) (And.intro rfl (And.intro rfl (And.intro rfl (And.intro rfl trivial)))) ?_
              refine r_mem (I' := (goBlock_ a m b0 x1 n1) i1 J1) (by first | with_reducible rfl | (simp only [goBlock_, loopC, eq_false c71, eq_true c71d, eq_true c115, eq_false c115d, ↓reduceIte, if_true, if_false, decide_true, decide_false, eq_self, b2i_t, b2i_f, Bool.false_eq_true, and_true, true_and, and_false, false_and, or_true, true_or, or_false, false_or, not_true_eq_false, not_false_eq_true] <;> rfl) | simp [goBlock_, loopC, eq_false c71, eq_true c71d, eq_true c115, eq_false c115d]) ?_
              exact ih1 _ _  (cnt_nx hm1) (loopN_s.symm.trans hR1)
            · have c115d := Int32.not_le.mp c115
              exact (cnt_ex hm2  c115).elim
          | succ w2 ih2 =>
            intro i2 J2  hm2 hR2
            refine r_iload (pc := 111) hX dX9_go_111 rfl ?_
            refine r_iload (pc := 113) hX dX9_go_113 rfl ?_
            refine r_icmp_ge (pc := 115) hX 133 dX9_go_115 (by decide) (fun c115 => ?_) (fun c115 => ?_)
            · have c115d := Int32.not_lt.mpr c115
              exact (cnt_go hm2  c115).elim
            · have c115d := Int32.not_le.mp c115
              refine r_aload_n (pc := 118) hX dX9_go_118 rfl ?_
              refine r_aload_n (pc := 119) hX dX9_go_119 rfl ?_
              refine r_iload (pc := 120) hX dX9_go_120 rfl ?_
              refine r_iload (pc := 122) hX dX9_go_122 rfl ?_
              refine r_callV (Z := mX9_goThrough) (t := 9) (pc := 124) hX dX9_go_124 ml_X9_59 mX9_goThrough_w ⟨by decide, rfl⟩ (o_X9_k h) (sp_X9_goThrough h hb0 hm) rfl rfl (Nat.le_of_ble_eq_true rfl) (by decide) rfl (Or.inl rfl) ?_
              refine r_iinc (pc := 127) hX 1 (L' := [_, _, _, _, _, _, _, _]) dX9_go_127 rfl (by decide) rfl rfl ?_
              refine r_goto (pc := 130) hX (tgt := 111) dX9_go_130 (by decide) ?_
              refine r_mem (I' := (fun _ K => goThrough_ K a m b0 (startOf_ J1 b0 (at_ (J1 x1) n1 i1)) (startOf_ J1 b0 (at_ (J1 x1) n1 (i1 + 1)))) i2 J2) (by first | with_reducible rfl | (simp only [goBlock_, loopC, eq_false c71, eq_true c71d, eq_false c115, eq_true c115d, ↓reduceIte, if_true, if_false, decide_true, decide_false, eq_self, b2i_t, b2i_f, Bool.false_eq_true, and_true, true_and, and_false, false_and, or_true, true_or, or_false, false_or, not_true_eq_false, not_false_eq_true] <;> rfl) | simp [goBlock_, loopC, eq_false c71, eq_true c71d, eq_false c115, eq_true c115d]) ?_
              exact ih2 _ _  (cnt_nx hm2) (loopN_s.symm.trans hR2)
        exact hL111 (cnt (0) (roundsOf_ J1 3 i1)) (0) (J1)  rfl rfl
  refine r_mem (I' := goThrough_ (go0_ I a) a m b0 0 (startOf_ (go0_ I a) b0 (at_ ((go0_ I a) x1) n1 0))) (by first | with_reducible rfl | (simp only [go0_, ↓reduceIte, if_true, if_false, decide_true, decide_false, eq_self, b2i_t, b2i_f, Bool.false_eq_true, and_true, true_and, and_false, false_and, or_true, true_or, or_false, false_or, not_true_eq_false, not_false_eq_true] <;> rfl) | simp [go0_]) ?_
  exact hL69 (cnt (0) (4)) (0) (goThrough_ (go0_ I a) a m b0 0 (startOf_ (go0_ I a) b0 (at_ ((go0_ I a) x1) n1 0)))  rfl rfl
set_option maxRecDepth 100000 in
set_option maxHeartbeats 1000000 in
theorem sp_X10_build {l : Launch} {k : im_K} {S : im_S} {I : im_I} {a m : Nat} {b0 mb0 : Nat} (h : o_X10 S a m) (hb0 : o_X7 S b0 mb0) (hp : b0 + 35 < a) (hm : m < a) : im_Runs l k 5 mX10_build [.ref a, .ref b0] (S, I) (none) (S, worksBuild_ I a m b0) := by
  refine im_run (by decide +kernel) ⟨Nat.le_refl _, Nat.le_refl _⟩ (Nat.le_of_ble_eq_true rfl) ?_
  intro X hl hX hxn hxz hxc hxs
  subst hl
  change im_E X k _ 0 [some (.ref a), some (.ref b0)] [] S I
  refine r_aload_n (pc := 0) hX dX10_build_0 rfl ?_
  refine r_getr (pc := 1) hX dX10_build_1 fl_X10_20 rfl (o_X10_k h) (o_X10_r0 h) ?_
  refine r_aload_n (pc := 4) hX dX10_build_4 rfl ?_
  refine r_getr (pc := 5) hX dX10_build_5 fl_X10_40 rfl (o_X7_k hb0) (o_X7_r1 hb0) ?_
  refine r_aload_n (pc := 8) hX dX10_build_8 rfl ?_
  refine r_getr (pc := 9) hX dX10_build_9 fl_X10_46 rfl (o_X7_k hb0) (o_X7_r2 hb0) ?_
  refine r_callV (Z := mX2_give) (t := 2) (pc := 12) hX dX10_build_12 ml_X10_50 mX2_give_w ⟨by decide, rfl⟩ (o_X2_k (o_X10_o0 h)) (sp_X2_give (o_X10_o0 h) (o_X7_o1 hb0) (o_X7_o2 hb0) (by omega) (by omega)) rfl rfl (Nat.le_of_ble_eq_true rfl) (by decide) rfl (Or.inl rfl) ?_
  refine r_aload_n (pc := 15) hX dX10_build_15 rfl ?_
  refine r_getr (pc := 16) hX dX10_build_16 fl_X10_27 rfl (o_X10_k h) (o_X10_r1 h) ?_
  refine r_aload_n (pc := 19) hX dX10_build_19 rfl ?_
  refine r_getr (pc := 20) hX dX10_build_20 fl_X10_40 rfl (o_X7_k hb0) (o_X7_r1 hb0) ?_
  refine r_aload_n (pc := 23) hX dX10_build_23 rfl ?_
  refine r_getr (pc := 24) hX dX10_build_24 fl_X10_20 rfl (o_X10_k h) (o_X10_r0 h) ?_
  refine r_callV (Z := mX1_make) (t := 1) (pc := 27) hX dX10_build_27 ml_X10_54 mX1_make_w ⟨by decide, rfl⟩ (o_X1_k (o_X10_o1 h)) (sp_X1_make (o_X10_o1 h) (o_X7_o1 hb0) (o_X10_o0 h) (by omega)) rfl rfl (Nat.le_of_ble_eq_true rfl) (by decide) rfl (Or.inl rfl) ?_
  refine r_aload_n (pc := 30) hX dX10_build_30 rfl ?_
  refine r_getr (pc := 31) hX dX10_build_31 fl_X10_36 rfl (o_X10_k h) (o_X10_r2 h) ?_
  refine r_aload_n (pc := 34) hX dX10_build_34 rfl ?_
  refine r_getr (pc := 35) hX dX10_build_35 fl_X10_27 rfl (o_X10_k h) (o_X10_r1 h) ?_
  refine r_aload_n (pc := 38) hX dX10_build_38 rfl ?_
  refine r_getr (pc := 39) hX dX10_build_39 fl_X10_58 rfl (o_X7_k hb0) (o_X7_r3 hb0) ?_
  refine r_callV (Z := mX9_go) (t := 9) (pc := 42) hX dX10_build_42 ml_X10_62 mX9_go_w ⟨by decide, rfl⟩ (o_X9_k (o_X10_o2 h)) (sp_X9_go (o_X10_o2 h) (o_X10_o1 h) (o_X7_a3 hb0) (by omega)) rfl rfl (Nat.le_of_ble_eq_true rfl) (by decide) rfl (Or.inl rfl) ?_
  exact r_return (pc := 45) hX dX10_build_45 rfl rfl (by first | with_reducible rfl | (simp only [worksBuild_, ↓reduceIte, if_true, if_false, decide_true, decide_false, eq_self, b2i_t, b2i_f, Bool.false_eq_true, and_true, true_and, and_false, false_and, or_true, true_or, or_false, false_or, not_true_eq_false, not_false_eq_true] <;> rfl) | simp [worksBuild_])
set_option maxRecDepth 100000 in
set_option maxHeartbeats 1000000 in
theorem sp_X10_tellLine {l : Launch} {k : im_K} {S : im_S} {I : im_I} {a m : Nat} {b0 mb0 : Nat} {p1 : Int32} {p2 : Int32} (h : o_X10 S a m) (hb0 : o_X7 S b0 mb0) : im_Runs l k 2 mX10_tellLine [.ref a, .ref b0, .int p1, .int p2] (S, I) (some (.int (tellLine_ I b0 p1 p2))) (S, I) := by
  refine im_run (by decide +kernel) ⟨Nat.le_refl _, Nat.le_refl _⟩ (Nat.le_of_ble_eq_true rfl) ?_
  intro X hl hX hxn hxz hxc hxs
  subst hl
  change im_E X k _ 0 [some (.ref a), some (.ref b0), some (.int p1), some (.int p2)] [] S I
  refine r_iload_n (pc := 0) hX dX10_tellLine_0 rfl ?_
  by_cases c1_0 : p2 = 0
  · refine r_tsIn (pc := 1) hX 48 dX10_tellLine_1 (by rw [c1_0]; decide) (by rw [c1_0]; decide) (by rw [c1_0]; rfl) (by decide) ?_
    refine r_aload_n (pc := 48) hX dX10_tellLine_48 rfl ?_
    refine r_getr (pc := 49) hX dX10_tellLine_49 fl_X10_40 rfl (o_X7_k hb0) (o_X7_r1 hb0) ?_
    refine r_iload_n (pc := 52) hX dX10_tellLine_52 rfl ?_
    refine r_callV (Z := mX3_kindOf) (t := 3) (pc := 53) hX dX10_tellLine_53 ml_X10_66 mX3_kindOf_w ⟨by decide, rfl⟩ (o_X3_k (o_X7_o1 hb0)) (sp_X3_kindOf (o_X7_o1 hb0)) rfl rfl (Nat.le_of_ble_eq_true rfl) (by decide) rfl (Or.inl rfl) ?_
    exact r_ireturn (pc := 56) hX dX10_tellLine_56 rfl rfl (by first | with_reducible rfl | (simp only [tellLine_, eq_true c1_0, ↓reduceIte, if_true, if_false, decide_true, decide_false, eq_self, b2i_t, b2i_f, Bool.false_eq_true, and_true, true_and, and_false, false_and, or_true, true_or, or_false, false_or, not_true_eq_false, not_false_eq_true] <;> rfl) | simp [tellLine_, eq_true c1_0]) rfl
  by_cases c1_1 : p2 = 1
  · refine r_tsIn (pc := 1) hX 57 dX10_tellLine_1 (by rw [c1_1]; decide) (by rw [c1_1]; decide) (by rw [c1_1]; rfl) (by decide) ?_
    refine r_aload_n (pc := 57) hX dX10_tellLine_57 rfl ?_
    refine r_getr (pc := 58) hX dX10_tellLine_58 fl_X10_40 rfl (o_X7_k hb0) (o_X7_r1 hb0) ?_
    refine r_iload_n (pc := 61) hX dX10_tellLine_61 rfl ?_
    refine r_callV (Z := mX3_writtenBy) (t := 3) (pc := 62) hX dX10_tellLine_62 ml_X10_72 mX3_writtenBy_w ⟨by decide, rfl⟩ (o_X3_k (o_X7_o1 hb0)) (sp_X3_writtenBy (o_X7_o1 hb0)) rfl rfl (Nat.le_of_ble_eq_true rfl) (by decide) rfl (Or.inl rfl) ?_
    exact r_ireturn (pc := 65) hX dX10_tellLine_65 rfl rfl (by first | with_reducible rfl | (simp only [tellLine_, eq_false c1_0, eq_true c1_1, ↓reduceIte, if_true, if_false, decide_true, decide_false, eq_self, b2i_t, b2i_f, Bool.false_eq_true, and_true, true_and, and_false, false_and, or_true, true_or, or_false, false_or, not_true_eq_false, not_false_eq_true] <;> rfl) | simp [tellLine_, eq_false c1_0, eq_true c1_1]) rfl
  by_cases c1_2 : p2 = 2
  · refine r_tsIn (pc := 1) hX 93 dX10_tellLine_1 (by rw [c1_2]; decide) (by rw [c1_2]; decide) (by rw [c1_2]; rfl) (by decide) ?_
    refine r_aload_n (pc := 93) hX dX10_tellLine_93 rfl ?_
    refine r_getr (pc := 94) hX dX10_tellLine_94 fl_X10_40 rfl (o_X7_k hb0) (o_X7_r1 hb0) ?_
    refine r_iload_n (pc := 97) hX dX10_tellLine_97 rfl ?_
    refine r_iload_n (pc := 98) hX dX10_tellLine_98 rfl ?_
    refine r_iconst (pc := 99) hX 2 dX10_tellLine_99 (by decide) ?_
    refine r_isub (pc := 100) hX dX10_tellLine_100 ?_
    refine r_callV (Z := mX3_readBy) (t := 3) (pc := 101) hX dX10_tellLine_101 ml_X10_84 mX3_readBy_w ⟨by decide, rfl⟩ (o_X3_k (o_X7_o1 hb0)) (sp_X3_readBy (o_X7_o1 hb0)) rfl rfl (Nat.le_of_ble_eq_true rfl) (by decide) rfl (Or.inl rfl) ?_
    exact r_ireturn (pc := 104) hX dX10_tellLine_104 rfl rfl (by first | with_reducible rfl | (simp only [tellLine_, eq_false c1_0, eq_false c1_1, eq_true c1_2, ↓reduceIte, if_true, if_false, decide_true, decide_false, eq_self, b2i_t, b2i_f, Bool.false_eq_true, and_true, true_and, and_false, false_and, or_true, true_or, or_false, false_or, not_true_eq_false, not_false_eq_true] <;> rfl) | simp [tellLine_, eq_false c1_0, eq_false c1_1, eq_true c1_2]) rfl
  by_cases c1_3 : p2 = 3
  · refine r_tsIn (pc := 1) hX 93 dX10_tellLine_1 (by rw [c1_3]; decide) (by rw [c1_3]; decide) (by rw [c1_3]; rfl) (by decide) ?_
    refine r_aload_n (pc := 93) hX dX10_tellLine_93 rfl ?_
    refine r_getr (pc := 94) hX dX10_tellLine_94 fl_X10_40 rfl (o_X7_k hb0) (o_X7_r1 hb0) ?_
    refine r_iload_n (pc := 97) hX dX10_tellLine_97 rfl ?_
    refine r_iload_n (pc := 98) hX dX10_tellLine_98 rfl ?_
    refine r_iconst (pc := 99) hX 2 dX10_tellLine_99 (by decide) ?_
    refine r_isub (pc := 100) hX dX10_tellLine_100 ?_
    refine r_callV (Z := mX3_readBy) (t := 3) (pc := 101) hX dX10_tellLine_101 ml_X10_84 mX3_readBy_w ⟨by decide, rfl⟩ (o_X3_k (o_X7_o1 hb0)) (sp_X3_readBy (o_X7_o1 hb0)) rfl rfl (Nat.le_of_ble_eq_true rfl) (by decide) rfl (Or.inl rfl) ?_
    exact r_ireturn (pc := 104) hX dX10_tellLine_104 rfl rfl (by first | with_reducible rfl | (simp only [tellLine_, eq_false c1_0, eq_false c1_1, eq_false c1_2, eq_true c1_3, ↓reduceIte, if_true, if_false, decide_true, decide_false, eq_self, b2i_t, b2i_f, Bool.false_eq_true, and_true, true_and, and_false, false_and, or_true, true_or, or_false, false_or, not_true_eq_false, not_false_eq_true] <;> rfl) | simp [tellLine_, eq_false c1_0, eq_false c1_1, eq_false c1_2, eq_true c1_3]) rfl
  by_cases c1_4 : p2 = 4
  · refine r_tsIn (pc := 1) hX 93 dX10_tellLine_1 (by rw [c1_4]; decide) (by rw [c1_4]; decide) (by rw [c1_4]; rfl) (by decide) ?_
    refine r_aload_n (pc := 93) hX dX10_tellLine_93 rfl ?_
    refine r_getr (pc := 94) hX dX10_tellLine_94 fl_X10_40 rfl (o_X7_k hb0) (o_X7_r1 hb0) ?_
    refine r_iload_n (pc := 97) hX dX10_tellLine_97 rfl ?_
    refine r_iload_n (pc := 98) hX dX10_tellLine_98 rfl ?_
    refine r_iconst (pc := 99) hX 2 dX10_tellLine_99 (by decide) ?_
    refine r_isub (pc := 100) hX dX10_tellLine_100 ?_
    refine r_callV (Z := mX3_readBy) (t := 3) (pc := 101) hX dX10_tellLine_101 ml_X10_84 mX3_readBy_w ⟨by decide, rfl⟩ (o_X3_k (o_X7_o1 hb0)) (sp_X3_readBy (o_X7_o1 hb0)) rfl rfl (Nat.le_of_ble_eq_true rfl) (by decide) rfl (Or.inl rfl) ?_
    exact r_ireturn (pc := 104) hX dX10_tellLine_104 rfl rfl (by first | with_reducible rfl | (simp only [tellLine_, eq_false c1_0, eq_false c1_1, eq_false c1_2, eq_false c1_3, eq_true c1_4, ↓reduceIte, if_true, if_false, decide_true, decide_false, eq_self, b2i_t, b2i_f, Bool.false_eq_true, and_true, true_and, and_false, false_and, or_true, true_or, or_false, false_or, not_true_eq_false, not_false_eq_true] <;> rfl) | simp [tellLine_, eq_false c1_0, eq_false c1_1, eq_false c1_2, eq_false c1_3, eq_true c1_4]) rfl
  by_cases c1_5 : p2 = 5
  · refine r_tsIn (pc := 1) hX 66 dX10_tellLine_1 (by rw [c1_5]; decide) (by rw [c1_5]; decide) (by rw [c1_5]; rfl) (by decide) ?_
    refine r_aload_n (pc := 66) hX dX10_tellLine_66 rfl ?_
    refine r_getr (pc := 67) hX dX10_tellLine_67 fl_X10_40 rfl (o_X7_k hb0) (o_X7_r1 hb0) ?_
    refine r_iload_n (pc := 70) hX dX10_tellLine_70 rfl ?_
    refine r_callV (Z := mX3_numberOf) (t := 3) (pc := 71) hX dX10_tellLine_71 ml_X10_75 mX3_numberOf_w ⟨by decide, rfl⟩ (o_X3_k (o_X7_o1 hb0)) (sp_X3_numberOf (o_X7_o1 hb0)) rfl rfl (Nat.le_of_ble_eq_true rfl) (by decide) rfl (Or.inl rfl) ?_
    exact r_ireturn (pc := 74) hX dX10_tellLine_74 rfl rfl (by first | with_reducible rfl | (simp only [tellLine_, eq_false c1_0, eq_false c1_1, eq_false c1_2, eq_false c1_3, eq_false c1_4, eq_true c1_5, ↓reduceIte, if_true, if_false, decide_true, decide_false, eq_self, b2i_t, b2i_f, Bool.false_eq_true, and_true, true_and, and_false, false_and, or_true, true_or, or_false, false_or, not_true_eq_false, not_false_eq_true] <;> rfl) | simp [tellLine_, eq_false c1_0, eq_false c1_1, eq_false c1_2, eq_false c1_3, eq_false c1_4, eq_true c1_5]) rfl
  by_cases c1_6 : p2 = 6
  · refine r_tsIn (pc := 1) hX 75 dX10_tellLine_1 (by rw [c1_6]; decide) (by rw [c1_6]; decide) (by rw [c1_6]; rfl) (by decide) ?_
    refine r_aload_n (pc := 75) hX dX10_tellLine_75 rfl ?_
    refine r_getr (pc := 76) hX dX10_tellLine_76 fl_X10_40 rfl (o_X7_k hb0) (o_X7_r1 hb0) ?_
    refine r_iload_n (pc := 79) hX dX10_tellLine_79 rfl ?_
    refine r_callV (Z := mX3_blockOf) (t := 3) (pc := 80) hX dX10_tellLine_80 ml_X10_78 mX3_blockOf_w ⟨by decide, rfl⟩ (o_X3_k (o_X7_o1 hb0)) (sp_X3_blockOf (o_X7_o1 hb0)) rfl rfl (Nat.le_of_ble_eq_true rfl) (by decide) rfl (Or.inl rfl) ?_
    exact r_ireturn (pc := 83) hX dX10_tellLine_83 rfl rfl (by first | with_reducible rfl | (simp only [tellLine_, eq_false c1_0, eq_false c1_1, eq_false c1_2, eq_false c1_3, eq_false c1_4, eq_false c1_5, eq_true c1_6, ↓reduceIte, if_true, if_false, decide_true, decide_false, eq_self, b2i_t, b2i_f, Bool.false_eq_true, and_true, true_and, and_false, false_and, or_true, true_or, or_false, false_or, not_true_eq_false, not_false_eq_true] <;> rfl) | simp [tellLine_, eq_false c1_0, eq_false c1_1, eq_false c1_2, eq_false c1_3, eq_false c1_4, eq_false c1_5, eq_true c1_6]) rfl
  by_cases c1_7 : p2 = 7
  · refine r_tsIn (pc := 1) hX 84 dX10_tellLine_1 (by rw [c1_7]; decide) (by rw [c1_7]; decide) (by rw [c1_7]; rfl) (by decide) ?_
    refine r_aload_n (pc := 84) hX dX10_tellLine_84 rfl ?_
    refine r_getr (pc := 85) hX dX10_tellLine_85 fl_X10_40 rfl (o_X7_k hb0) (o_X7_r1 hb0) ?_
    refine r_iload_n (pc := 88) hX dX10_tellLine_88 rfl ?_
    refine r_callV (Z := mX3_heightOf) (t := 3) (pc := 89) hX dX10_tellLine_89 ml_X10_81 mX3_heightOf_w ⟨by decide, rfl⟩ (o_X3_k (o_X7_o1 hb0)) (sp_X3_heightOf (o_X7_o1 hb0)) rfl rfl (Nat.le_of_ble_eq_true rfl) (by decide) rfl (Or.inl rfl) ?_
    exact r_ireturn (pc := 92) hX dX10_tellLine_92 rfl rfl (by first | with_reducible rfl | (simp only [tellLine_, eq_false c1_0, eq_false c1_1, eq_false c1_2, eq_false c1_3, eq_false c1_4, eq_false c1_5, eq_false c1_6, eq_true c1_7, ↓reduceIte, if_true, if_false, decide_true, decide_false, eq_self, b2i_t, b2i_f, Bool.false_eq_true, and_true, true_and, and_false, false_and, or_true, true_or, or_false, false_or, not_true_eq_false, not_false_eq_true] <;> rfl) | simp [tellLine_, eq_false c1_0, eq_false c1_1, eq_false c1_2, eq_false c1_3, eq_false c1_4, eq_false c1_5, eq_false c1_6, eq_true c1_7]) rfl
  refine r_tsOut (pc := 1) hX 93 dX10_tellLine_1 (im_tsOut (fun z h1 h2 e => ?_)) (by decide) ?_
  · have hz : z = 0 ∨ z = 1 ∨ z = 2 ∨ z = 3 ∨ z = 4 ∨ z = 5 ∨ z = 6 ∨ z = 7 := by omega
    rcases hz with rfl | rfl | rfl | rfl | rfl | rfl | rfl | rfl
    · exact c1_0 (im_toInt (y := 0) (e.trans (by decide)))
    · exact c1_1 (im_toInt (y := 1) (e.trans (by decide)))
    · exact c1_2 (im_toInt (y := 2) (e.trans (by decide)))
    · exact c1_3 (im_toInt (y := 3) (e.trans (by decide)))
    · exact c1_4 (im_toInt (y := 4) (e.trans (by decide)))
    · exact c1_5 (im_toInt (y := 5) (e.trans (by decide)))
    · exact c1_6 (im_toInt (y := 6) (e.trans (by decide)))
    · exact c1_7 (im_toInt (y := 7) (e.trans (by decide)))
  refine r_aload_n (pc := 93) hX dX10_tellLine_93 rfl ?_
  refine r_getr (pc := 94) hX dX10_tellLine_94 fl_X10_40 rfl (o_X7_k hb0) (o_X7_r1 hb0) ?_
  refine r_iload_n (pc := 97) hX dX10_tellLine_97 rfl ?_
  refine r_iload_n (pc := 98) hX dX10_tellLine_98 rfl ?_
  refine r_iconst (pc := 99) hX 2 dX10_tellLine_99 (by decide) ?_
  refine r_isub (pc := 100) hX dX10_tellLine_100 ?_
  refine r_callV (Z := mX3_readBy) (t := 3) (pc := 101) hX dX10_tellLine_101 ml_X10_84 mX3_readBy_w ⟨by decide, rfl⟩ (o_X3_k (o_X7_o1 hb0)) (sp_X3_readBy (o_X7_o1 hb0)) rfl rfl (Nat.le_of_ble_eq_true rfl) (by decide) rfl (Or.inl rfl) ?_
  exact r_ireturn (pc := 104) hX dX10_tellLine_104 rfl rfl (by first | with_reducible rfl | (simp only [tellLine_, eq_false c1_0, eq_false c1_1, eq_false c1_2, eq_false c1_3, eq_false c1_4, eq_false c1_5, eq_false c1_6, eq_false c1_7, ↓reduceIte, if_true, if_false, decide_true, decide_false, eq_self, b2i_t, b2i_f, Bool.false_eq_true, and_true, true_and, and_false, false_and, or_true, true_or, or_false, false_or, not_true_eq_false, not_false_eq_true] <;> rfl) | simp [tellLine_, eq_false c1_0, eq_false c1_1, eq_false c1_2, eq_false c1_3, eq_false c1_4, eq_false c1_5, eq_false c1_6, eq_false c1_7]) rfl
set_option maxRecDepth 100000 in
set_option maxHeartbeats 1000000 in
theorem sp_X10_tellValue {l : Launch} {k : im_K} {S : im_S} {I : im_I} {a m : Nat} {b0 mb0 : Nat} {p1 : Int32} {p2 : Int32} (h : o_X10 S a m) (hb0 : o_X7 S b0 mb0) : im_Runs l k 2 mX10_tellValue [.ref a, .ref b0, .int p1, .int p2] (S, I) (some (.int (tellValue_ I a b0 p1 p2))) (S, I) := by
  refine im_run (by decide +kernel) ⟨Nat.le_refl _, Nat.le_refl _⟩ (Nat.le_of_ble_eq_true rfl) ?_
  intro X hl hX hxn hxz hxc hxs
  subst hl
  change im_E X k _ 0 [some (.ref a), some (.ref b0), some (.int p1), some (.int p2)] [] S I
  refine r_iload_n (pc := 0) hX dX10_tellValue_0 rfl ?_
  by_cases c1_0 : p2 = 0
  · refine r_tsIn (pc := 1) hX 44 dX10_tellValue_1 (by rw [c1_0]; decide) (by rw [c1_0]; decide) (by rw [c1_0]; rfl) (by decide) ?_
    refine r_aload_n (pc := 44) hX dX10_tellValue_44 rfl ?_
    refine r_getr (pc := 45) hX dX10_tellValue_45 fl_X10_46 rfl (o_X7_k hb0) (o_X7_r2 hb0) ?_
    refine r_iload_n (pc := 48) hX dX10_tellValue_48 rfl ?_
    refine r_callV (Z := mX4_firstOf) (t := 4) (pc := 49) hX dX10_tellValue_49 ml_X10_88 mX4_firstOf_w ⟨by decide, rfl⟩ (o_X4_k (o_X7_o2 hb0)) (sp_X4_firstOf (o_X7_o2 hb0)) rfl rfl (Nat.le_of_ble_eq_true rfl) (by decide) rfl (Or.inl rfl) ?_
    exact r_ireturn (pc := 52) hX dX10_tellValue_52 rfl rfl (by first | with_reducible rfl | (simp only [tellValue_, eq_true c1_0, ↓reduceIte, if_true, if_false, decide_true, decide_false, eq_self, b2i_t, b2i_f, Bool.false_eq_true, and_true, true_and, and_false, false_and, or_true, true_or, or_false, false_or, not_true_eq_false, not_false_eq_true] <;> rfl) | simp [tellValue_, eq_true c1_0]) rfl
  by_cases c1_1 : p2 = 1
  · refine r_tsIn (pc := 1) hX 53 dX10_tellValue_1 (by rw [c1_1]; decide) (by rw [c1_1]; decide) (by rw [c1_1]; rfl) (by decide) ?_
    refine r_aload_n (pc := 53) hX dX10_tellValue_53 rfl ?_
    refine r_getr (pc := 54) hX dX10_tellValue_54 fl_X10_46 rfl (o_X7_k hb0) (o_X7_r2 hb0) ?_
    refine r_iload_n (pc := 57) hX dX10_tellValue_57 rfl ?_
    refine r_callV (Z := mX4_lastOf) (t := 4) (pc := 58) hX dX10_tellValue_58 ml_X10_93 mX4_lastOf_w ⟨by decide, rfl⟩ (o_X4_k (o_X7_o2 hb0)) (sp_X4_lastOf (o_X7_o2 hb0)) rfl rfl (Nat.le_of_ble_eq_true rfl) (by decide) rfl (Or.inl rfl) ?_
    exact r_ireturn (pc := 61) hX dX10_tellValue_61 rfl rfl (by first | with_reducible rfl | (simp only [tellValue_, eq_false c1_0, eq_true c1_1, ↓reduceIte, if_true, if_false, decide_true, decide_false, eq_self, b2i_t, b2i_f, Bool.false_eq_true, and_true, true_and, and_false, false_and, or_true, true_or, or_false, false_or, not_true_eq_false, not_false_eq_true] <;> rfl) | simp [tellValue_, eq_false c1_0, eq_true c1_1]) rfl
  by_cases c1_2 : p2 = 2
  · refine r_tsIn (pc := 1) hX 62 dX10_tellValue_1 (by rw [c1_2]; decide) (by rw [c1_2]; decide) (by rw [c1_2]; rfl) (by decide) ?_
    refine r_aload_n (pc := 62) hX dX10_tellValue_62 rfl ?_
    refine r_getr (pc := 63) hX dX10_tellValue_63 fl_X10_46 rfl (o_X7_k hb0) (o_X7_r2 hb0) ?_
    refine r_iload_n (pc := 66) hX dX10_tellValue_66 rfl ?_
    refine r_callV (Z := mX4_weightOf) (t := 4) (pc := 67) hX dX10_tellValue_67 ml_X10_96 mX4_weightOf_w ⟨by decide, rfl⟩ (o_X4_k (o_X7_o2 hb0)) (sp_X4_weightOf (o_X7_o2 hb0)) rfl rfl (Nat.le_of_ble_eq_true rfl) (by decide) rfl (Or.inl rfl) ?_
    exact r_ireturn (pc := 70) hX dX10_tellValue_70 rfl rfl (by first | with_reducible rfl | (simp only [tellValue_, eq_false c1_0, eq_false c1_1, eq_true c1_2, ↓reduceIte, if_true, if_false, decide_true, decide_false, eq_self, b2i_t, b2i_f, Bool.false_eq_true, and_true, true_and, and_false, false_and, or_true, true_or, or_false, false_or, not_true_eq_false, not_false_eq_true] <;> rfl) | simp [tellValue_, eq_false c1_0, eq_false c1_1, eq_true c1_2]) rfl
  by_cases c1_3 : p2 = 3
  · refine r_tsIn (pc := 1) hX 71 dX10_tellValue_1 (by rw [c1_3]; decide) (by rw [c1_3]; decide) (by rw [c1_3]; rfl) (by decide) ?_
    refine r_aload_n (pc := 71) hX dX10_tellValue_71 rfl ?_
    refine r_getr (pc := 72) hX dX10_tellValue_72 fl_X10_20 rfl (o_X10_k h) (o_X10_r0 h) ?_
    refine r_iload_n (pc := 75) hX dX10_tellValue_75 rfl ?_
    refine r_callV (Z := mX2_registerOf) (t := 2) (pc := 76) hX dX10_tellValue_76 ml_X10_99 mX2_registerOf_w ⟨by decide, rfl⟩ (o_X2_k (o_X10_o0 h)) (sp_X2_registerOf (o_X10_o0 h)) rfl rfl (Nat.le_of_ble_eq_true rfl) (by decide) rfl (Or.inl rfl) ?_
    exact r_ireturn (pc := 79) hX dX10_tellValue_79 rfl rfl (by first | with_reducible rfl | (simp only [tellValue_, eq_false c1_0, eq_false c1_1, eq_false c1_2, eq_true c1_3, ↓reduceIte, if_true, if_false, decide_true, decide_false, eq_self, b2i_t, b2i_f, Bool.false_eq_true, and_true, true_and, and_false, false_and, or_true, true_or, or_false, false_or, not_true_eq_false, not_false_eq_true] <;> rfl) | simp [tellValue_, eq_false c1_0, eq_false c1_1, eq_false c1_2, eq_true c1_3]) rfl
  by_cases c1_4 : p2 = 4
  · refine r_tsIn (pc := 1) hX 80 dX10_tellValue_1 (by rw [c1_4]; decide) (by rw [c1_4]; decide) (by rw [c1_4]; rfl) (by decide) ?_
    refine r_aload_n (pc := 80) hX dX10_tellValue_80 rfl ?_
    refine r_getr (pc := 81) hX dX10_tellValue_81 fl_X10_20 rfl (o_X10_k h) (o_X10_r0 h) ?_
    refine r_iload_n (pc := 84) hX dX10_tellValue_84 rfl ?_
    refine r_callV (Z := mX2_slotOf) (t := 2) (pc := 85) hX dX10_tellValue_85 ml_X10_102 mX2_slotOf_w ⟨by decide, rfl⟩ (o_X2_k (o_X10_o0 h)) (sp_X2_slotOf (o_X10_o0 h)) rfl rfl (Nat.le_of_ble_eq_true rfl) (by decide) rfl (Or.inl rfl) ?_
    exact r_ireturn (pc := 88) hX dX10_tellValue_88 rfl rfl (by first | with_reducible rfl | (simp only [tellValue_, eq_false c1_0, eq_false c1_1, eq_false c1_2, eq_false c1_3, eq_true c1_4, ↓reduceIte, if_true, if_false, decide_true, decide_false, eq_self, b2i_t, b2i_f, Bool.false_eq_true, and_true, true_and, and_false, false_and, or_true, true_or, or_false, false_or, not_true_eq_false, not_false_eq_true] <;> rfl) | simp [tellValue_, eq_false c1_0, eq_false c1_1, eq_false c1_2, eq_false c1_3, eq_true c1_4]) rfl
  by_cases c1_5 : p2 = 5
  · refine r_tsIn (pc := 1) hX 89 dX10_tellValue_1 (by rw [c1_5]; decide) (by rw [c1_5]; decide) (by rw [c1_5]; rfl) (by decide) ?_
    refine r_aload_n (pc := 89) hX dX10_tellValue_89 rfl ?_
    refine r_getr (pc := 90) hX dX10_tellValue_90 fl_X10_20 rfl (o_X10_k h) (o_X10_r0 h) ?_
    refine r_iload_n (pc := 93) hX dX10_tellValue_93 rfl ?_
    refine r_callV (Z := mX2_isRemade) (t := 2) (pc := 94) hX dX10_tellValue_94 ml_X10_105 mX2_isRemade_w ⟨by decide, rfl⟩ (o_X2_k (o_X10_o0 h)) (sp_X2_isRemade (o_X10_o0 h)) rfl rfl (Nat.le_of_ble_eq_true rfl) (by decide) rfl (Or.inl rfl) ?_
    refine r_if_eq (pc := 97) hX 104 dX10_tellValue_97 (by decide) (fun c97 => ?_) (fun c97 => ?_)
    · replace c97 := b2i_0 c97
      refine r_iconst (pc := 104) hX 0 dX10_tellValue_104 (by decide) ?_
      exact r_ireturn (pc := 105) hX dX10_tellValue_105 rfl rfl (by first | with_reducible rfl | (simp only [tellValue_, eq_false c1_0, eq_false c1_1, eq_false c1_2, eq_false c1_3, eq_false c1_4, eq_true c1_5, c97, ↓reduceIte, if_true, if_false, decide_true, decide_false, eq_self, b2i_t, b2i_f, Bool.false_eq_true, and_true, true_and, and_false, false_and, or_true, true_or, or_false, false_or, not_true_eq_false, not_false_eq_true] <;> rfl) | simp [tellValue_, eq_false c1_0, eq_false c1_1, eq_false c1_2, eq_false c1_3, eq_false c1_4, eq_true c1_5, c97]) rfl
    · replace c97 := b2i_1 c97
      refine r_iconst (pc := 100) hX 1 dX10_tellValue_100 (by decide) ?_
      refine r_goto (pc := 101) hX (tgt := 105) dX10_tellValue_101 (by decide) ?_
      exact r_ireturn (pc := 105) hX dX10_tellValue_105 rfl rfl (by first | with_reducible rfl | (simp only [tellValue_, eq_false c1_0, eq_false c1_1, eq_false c1_2, eq_false c1_3, eq_false c1_4, eq_true c1_5, c97, ↓reduceIte, if_true, if_false, decide_true, decide_false, eq_self, b2i_t, b2i_f, Bool.false_eq_true, and_true, true_and, and_false, false_and, or_true, true_or, or_false, false_or, not_true_eq_false, not_false_eq_true] <;> rfl) | simp [tellValue_, eq_false c1_0, eq_false c1_1, eq_false c1_2, eq_false c1_3, eq_false c1_4, eq_true c1_5, c97]) rfl
  by_cases c1_6 : p2 = 6
  · refine r_tsIn (pc := 1) hX 106 dX10_tellValue_1 (by rw [c1_6]; decide) (by rw [c1_6]; decide) (by rw [c1_6]; rfl) (by decide) ?_
    refine r_aload_n (pc := 106) hX dX10_tellValue_106 rfl ?_
    refine r_getr (pc := 107) hX dX10_tellValue_107 fl_X10_46 rfl (o_X7_k hb0) (o_X7_r2 hb0) ?_
    refine r_iload_n (pc := 110) hX dX10_tellValue_110 rfl ?_
    refine r_callV (Z := mX4_crossedBy) (t := 4) (pc := 111) hX dX10_tellValue_111 ml_X10_109 mX4_crossedBy_w ⟨by decide, rfl⟩ (o_X4_k (o_X7_o2 hb0)) (sp_X4_crossedBy (o_X7_o2 hb0)) rfl rfl (Nat.le_of_ble_eq_true rfl) (by decide) rfl (Or.inl rfl) ?_
    exact r_ireturn (pc := 114) hX dX10_tellValue_114 rfl rfl (by first | with_reducible rfl | (simp only [tellValue_, eq_false c1_0, eq_false c1_1, eq_false c1_2, eq_false c1_3, eq_false c1_4, eq_false c1_5, eq_true c1_6, ↓reduceIte, if_true, if_false, decide_true, decide_false, eq_self, b2i_t, b2i_f, Bool.false_eq_true, and_true, true_and, and_false, false_and, or_true, true_or, or_false, false_or, not_true_eq_false, not_false_eq_true] <;> rfl) | simp [tellValue_, eq_false c1_0, eq_false c1_1, eq_false c1_2, eq_false c1_3, eq_false c1_4, eq_false c1_5, eq_true c1_6]) rfl
  refine r_tsOut (pc := 1) hX 115 dX10_tellValue_1 (im_tsOut (fun z h1 h2 e => ?_)) (by decide) ?_
  · have hz : z = 0 ∨ z = 1 ∨ z = 2 ∨ z = 3 ∨ z = 4 ∨ z = 5 ∨ z = 6 := by omega
    rcases hz with rfl | rfl | rfl | rfl | rfl | rfl | rfl
    · exact c1_0 (im_toInt (y := 0) (e.trans (by decide)))
    · exact c1_1 (im_toInt (y := 1) (e.trans (by decide)))
    · exact c1_2 (im_toInt (y := 2) (e.trans (by decide)))
    · exact c1_3 (im_toInt (y := 3) (e.trans (by decide)))
    · exact c1_4 (im_toInt (y := 4) (e.trans (by decide)))
    · exact c1_5 (im_toInt (y := 5) (e.trans (by decide)))
    · exact c1_6 (im_toInt (y := 6) (e.trans (by decide)))
  refine r_aload_n (pc := 115) hX dX10_tellValue_115 rfl ?_
  refine r_getr (pc := 116) hX dX10_tellValue_116 fl_X10_46 rfl (o_X7_k hb0) (o_X7_r2 hb0) ?_
  refine r_iload_n (pc := 119) hX dX10_tellValue_119 rfl ?_
  refine r_callV (Z := mX4_touchesOf) (t := 4) (pc := 120) hX dX10_tellValue_120 ml_X10_112 mX4_touchesOf_w ⟨by decide, rfl⟩ (o_X4_k (o_X7_o2 hb0)) (sp_X4_touchesOf (o_X7_o2 hb0)) rfl rfl (Nat.le_of_ble_eq_true rfl) (by decide) rfl (Or.inl rfl) ?_
  exact r_ireturn (pc := 123) hX dX10_tellValue_123 rfl rfl (by first | with_reducible rfl | (simp only [tellValue_, eq_false c1_0, eq_false c1_1, eq_false c1_2, eq_false c1_3, eq_false c1_4, eq_false c1_5, eq_false c1_6, ↓reduceIte, if_true, if_false, decide_true, decide_false, eq_self, b2i_t, b2i_f, Bool.false_eq_true, and_true, true_and, and_false, false_and, or_true, true_or, or_false, false_or, not_true_eq_false, not_false_eq_true] <;> rfl) | simp [tellValue_, eq_false c1_0, eq_false c1_1, eq_false c1_2, eq_false c1_3, eq_false c1_4, eq_false c1_5, eq_false c1_6]) rfl
set_option maxRecDepth 100000 in
set_option maxHeartbeats 1000000 in
theorem sp_X10_tellCall {l : Launch} {k : im_K} {S : im_S} {I : im_I} {a m : Nat} {b0 mb0 : Nat} {p1 : Int32} {p2 : Int32} (h : o_X10 S a m) (hb0 : o_X7 S b0 mb0) : im_Runs l k 3 mX10_tellCall [.ref a, .ref b0, .int p1, .int p2] (S, I) (some (.int (tellCall_ I a b0 p1 p2))) (S, I) := by
  refine im_run (by decide +kernel) ⟨Nat.le_refl _, Nat.le_refl _⟩ (Nat.le_of_ble_eq_true rfl) ?_
  intro X hl hX hxn hxz hxc hxs
  subst hl
  change im_E X k _ 0 [some (.ref a), some (.ref b0), some (.int p1), some (.int p2), none, none, none, none, none] [] S I
  refine r_aload_n (pc := 0) hX dX10_tellCall_0 rfl ?_
  refine r_getr (pc := 1) hX dX10_tellCall_1 fl_X10_46 rfl (o_X7_k hb0) (o_X7_r2 hb0) ?_
  refine r_iload_n (pc := 4) hX dX10_tellCall_4 rfl ?_
  refine r_callV (Z := mX4_pointOfCall) (t := 4) (pc := 5) hX dX10_tellCall_5 ml_X10_115 mX4_pointOfCall_w ⟨by decide, rfl⟩ (o_X4_k (o_X7_o2 hb0)) (sp_X4_pointOfCall (o_X7_o2 hb0)) rfl rfl (Nat.le_of_ble_eq_true rfl) (by decide) rfl (Or.inl rfl) ?_
  refine r_istore (pc := 8) hX (L' := [_, _, _, _, _, _, _, _, _]) dX10_tellCall_8 rfl rfl (Nat.le_of_ble_eq_true rfl) ?_
  refine r_iload_n (pc := 10) hX dX10_tellCall_10 rfl ?_
  refine r_if_ne (pc := 11) hX 17 dX10_tellCall_11 (by decide) (fun c11 => ?_) (fun c11 => ?_)
  · refine r_iconst (pc := 17) hX 0 dX10_tellCall_17 (by decide) ?_
    refine r_istore (pc := 18) hX (L' := [_, _, _, _, _, _, _, _, _]) dX10_tellCall_18 rfl rfl (Nat.le_of_ble_eq_true rfl) ?_
    refine r_iconst (pc := 20) hX 0 dX10_tellCall_20 (by decide) ?_
    refine r_istore (pc := 21) hX (L' := [_, _, _, _, _, _, _, _, _]) dX10_tellCall_21 rfl rfl (Nat.le_of_ble_eq_true rfl) ?_
    refine r_iconst (pc := 23) hX 0 dX10_tellCall_23 (by decide) ?_
    refine r_istore (pc := 24) hX (L' := [_, _, _, _, _, _, _, _, _]) dX10_tellCall_24 rfl rfl (Nat.le_of_ble_eq_true rfl) ?_
    refine r_iconst (pc := 26) hX 0 dX10_tellCall_26 (by decide) ?_
    refine r_istore (pc := 27) hX (L' := [_, _, _, _, _, _, _, _, _]) dX10_tellCall_27 rfl rfl (Nat.le_of_ble_eq_true rfl) ?_
    have hL29 : ∀ (w1 : Nat) (i1 : Int32) (J1 : Int32 × Int32 × Int32), cnt i1 (I (b0 + 17) 0) = w1 → loopN w1 i1 (tellCallOne_ I a b0 (pointOfCall_ I (b0 + 17) p1)) J1 = loopN (cnt (0) (I (b0 + 17) 0)) (0) (tellCallOne_ I a b0 (pointOfCall_ I (b0 + 17) p1)) ((0, 0, 0)) → im_E X k (im_Q X k (some (.int (tellCall_ I a b0 p1 p2))) (S, I)) 29 [some (.ref a), some (.ref b0), some (.int p1), some (.int p2), some (.int (pointOfCall_ I (b0 + 17) p1)), some (.int J1.1), some (.int J1.2.1), some (.int J1.2.2), some (.int i1)] [] S I := by
      intro w1
      induction w1 with
      | zero =>
        intro i1 J1  hm1 hR1
        refine r_iload (pc := 29) hX dX10_tellCall_29 rfl ?_
        refine r_aload_n (pc := 31) hX dX10_tellCall_31 rfl ?_
        refine r_getr (pc := 32) hX dX10_tellCall_32 fl_X10_46 rfl (o_X7_k hb0) (o_X7_r2 hb0) ?_
        refine r_geti (pc := 35) hX dX10_tellCall_35 fl_X10_118 rfl (o_X4_k (o_X7_o2 hb0)) ?_
        refine r_icmp_ge (pc := 38) hX 117 dX10_tellCall_38 (by decide) (fun c38 => ?_) (fun c38 => ?_)
        · have c38d := Int32.not_lt.mpr c38
          rw [loopN_0] at hR1
          subst hR1
          refine r_iload_n (pc := 117) hX dX10_tellCall_117 rfl ?_
          refine r_iconst (pc := 118) hX 1 dX10_tellCall_118 (by decide) ?_
          refine r_icmp_ne (pc := 119) hX 125 dX10_tellCall_119 (by decide) (fun c119 => ?_) (fun c119 => ?_)
          · refine r_iload_n (pc := 125) hX dX10_tellCall_125 rfl ?_
            refine r_iconst (pc := 126) hX 2 dX10_tellCall_126 (by decide) ?_
            refine r_icmp_ne (pc := 127) hX 135 dX10_tellCall_127 (by decide) (fun c127 => ?_) (fun c127 => ?_)
            · refine r_iload (pc := 135) hX dX10_tellCall_135 rfl ?_
              exact r_ireturn (pc := 137) hX dX10_tellCall_137 rfl rfl (by first | with_reducible rfl | (simp only [tellCall_, loopC, eq_false c11, eq_true c38, eq_false c38d, eq_false c119, eq_false c127, ↓reduceIte, if_true, if_false, decide_true, decide_false, eq_self, b2i_t, b2i_f, Bool.false_eq_true, and_true, true_and, and_false, false_and, or_true, true_or, or_false, false_or, not_true_eq_false, not_false_eq_true] <;> rfl) | simp [tellCall_, loopC, eq_false c11, eq_true c38, eq_false c38d, eq_false c119, eq_false c127]) rfl
            · refine r_iload (pc := 130) hX dX10_tellCall_130 rfl ?_
              refine r_goto (pc := 132) hX (tgt := 137) dX10_tellCall_132 (by decide) ?_
              exact r_ireturn (pc := 137) hX dX10_tellCall_137 rfl rfl (by first | with_reducible rfl | (simp only [tellCall_, loopC, eq_false c11, eq_true c38, eq_false c38d, eq_false c119, eq_true c127, ↓reduceIte, if_true, if_false, decide_true, decide_false, eq_self, b2i_t, b2i_f, Bool.false_eq_true, and_true, true_and, and_false, false_and, or_true, true_or, or_false, false_or, not_true_eq_false, not_false_eq_true] <;> rfl) | simp [tellCall_, loopC, eq_false c11, eq_true c38, eq_false c38d, eq_false c119, eq_true c127]) rfl
          · refine r_iload (pc := 122) hX dX10_tellCall_122 rfl ?_
            exact r_ireturn (pc := 124) hX dX10_tellCall_124 rfl rfl (by first | with_reducible rfl | (simp only [tellCall_, loopC, eq_false c11, eq_true c38, eq_false c38d, eq_true c119, ↓reduceIte, if_true, if_false, decide_true, decide_false, eq_self, b2i_t, b2i_f, Bool.false_eq_true, and_true, true_and, and_false, false_and, or_true, true_or, or_false, false_or, not_true_eq_false, not_false_eq_true] <;> rfl) | simp [tellCall_, loopC, eq_false c11, eq_true c38, eq_false c38d, eq_true c119]) rfl
        · have c38d := Int32.not_le.mp c38
          exact (cnt_ex hm1  c38).elim
      | succ w1 ih1 =>
        intro i1 J1  hm1 hR1
        refine r_iload (pc := 29) hX dX10_tellCall_29 rfl ?_
        refine r_aload_n (pc := 31) hX dX10_tellCall_31 rfl ?_
        refine r_getr (pc := 32) hX dX10_tellCall_32 fl_X10_46 rfl (o_X7_k hb0) (o_X7_r2 hb0) ?_
        refine r_geti (pc := 35) hX dX10_tellCall_35 fl_X10_118 rfl (o_X4_k (o_X7_o2 hb0)) ?_
        refine r_icmp_ge (pc := 38) hX 117 dX10_tellCall_38 (by decide) (fun c38 => ?_) (fun c38 => ?_)
        · have c38d := Int32.not_lt.mpr c38
          exact (cnt_go hm1  c38).elim
        · have c38d := Int32.not_le.mp c38
          refine r_aload_n (pc := 41) hX dX10_tellCall_41 rfl ?_
          refine r_getr (pc := 42) hX dX10_tellCall_42 fl_X10_46 rfl (o_X7_k hb0) (o_X7_r2 hb0) ?_
          refine r_iload (pc := 45) hX dX10_tellCall_45 rfl ?_
          refine r_iload (pc := 47) hX dX10_tellCall_47 rfl ?_
          refine r_callV (Z := mX4_isCrossing) (t := 4) (pc := 49) hX dX10_tellCall_49 ml_X10_122 mX4_isCrossing_w ⟨by decide, rfl⟩ (o_X4_k (o_X7_o2 hb0)) (sp_X4_isCrossing (o_X7_o2 hb0)) rfl rfl (Nat.le_of_ble_eq_true rfl) (by decide) rfl (Or.inl rfl) ?_
          refine r_if_eq (pc := 52) hX 111 dX10_tellCall_52 (by decide) (fun c52 => ?_) (fun c52 => ?_)
          · replace c52 := b2i_0 c52
            refine r_iinc (pc := 111) hX 1 (L' := [_, _, _, _, _, _, _, _, _]) dX10_tellCall_111 rfl (by decide) rfl rfl ?_
            refine r_goto (pc := 114) hX (tgt := 29) dX10_tellCall_114 (by decide) ?_
            refine r_locs (L' := [some (.ref a), some (.ref b0), some (.int p1), some (.int p2), some (.int (pointOfCall_ I (b0 + 17) p1)), some (.int (tellCallOne_ I a b0 (pointOfCall_ I (b0 + 17) p1) i1 J1).1), some (.int (tellCallOne_ I a b0 (pointOfCall_ I (b0 + 17) p1) i1 J1).2.1), some (.int (tellCallOne_ I a b0 (pointOfCall_ I (b0 + 17) p1) i1 J1).2.2), some (.int (i1 + 1))]) (by first | with_reducible rfl | (simp only [tellCallOne_, eq_false c11, eq_false c38, eq_true c38d, c52, ↓reduceIte, if_true, if_false, decide_true, decide_false, eq_self, b2i_t, b2i_f, Bool.false_eq_true, and_true, true_and, and_false, false_and, or_true, true_or, or_false, false_or, not_true_eq_false, not_false_eq_true] <;> rfl) | simp [tellCallOne_, eq_false c11, eq_false c38, eq_true c38d, c52]) ?_
            exact ih1 _ (tellCallOne_ I a b0 (pointOfCall_ I (b0 + 17) p1) i1 J1) (cnt_nx hm1) (loopN_s.symm.trans hR1)
          · replace c52 := b2i_1 c52
            refine r_iload (pc := 55) hX dX10_tellCall_55 rfl ?_
            refine r_aload_n (pc := 57) hX dX10_tellCall_57 rfl ?_
            refine r_getr (pc := 58) hX dX10_tellCall_58 fl_X10_20 rfl (o_X10_k h) (o_X10_r0 h) ?_
            refine r_iload (pc := 61) hX dX10_tellCall_61 rfl ?_
            refine r_callV (Z := mX2_registerOf) (t := 2) (pc := 63) hX dX10_tellCall_63 ml_X10_99 mX2_registerOf_w ⟨by decide, rfl⟩ (o_X2_k (o_X10_o0 h)) (sp_X2_registerOf (o_X10_o0 h)) rfl rfl (Nat.le_of_ble_eq_true rfl) (by decide) rfl (Or.inl rfl) ?_
            refine r_callSN (Z := mX11_bit) (pc := 66) hX dX10_tellCall_66 mn_X10_126 mX11_bit_w (sp_X11_bit) rfl rfl (Nat.le_of_ble_eq_true rfl) (by decide) rfl (Or.inl rfl) ?_
            refine r_ior (pc := 69) hX dX10_tellCall_69 ?_
            refine r_istore (pc := 70) hX (L' := [_, _, _, _, _, _, _, _, _]) dX10_tellCall_70 rfl rfl (Nat.le_of_ble_eq_true rfl) ?_
            refine r_iload (pc := 72) hX dX10_tellCall_72 rfl ?_
            refine r_aload_n (pc := 74) hX dX10_tellCall_74 rfl ?_
            refine r_getr (pc := 75) hX dX10_tellCall_75 fl_X10_20 rfl (o_X10_k h) (o_X10_r0 h) ?_
            refine r_iload (pc := 78) hX dX10_tellCall_78 rfl ?_
            refine r_callV (Z := mX2_slotOf) (t := 2) (pc := 80) hX dX10_tellCall_80 ml_X10_102 mX2_slotOf_w ⟨by decide, rfl⟩ (o_X2_k (o_X10_o0 h)) (sp_X2_slotOf (o_X10_o0 h)) rfl rfl (Nat.le_of_ble_eq_true rfl) (by decide) rfl (Or.inl rfl) ?_
            refine r_callSN (Z := mX11_bit) (pc := 83) hX dX10_tellCall_83 mn_X10_126 mX11_bit_w (sp_X11_bit) rfl rfl (Nat.le_of_ble_eq_true rfl) (by decide) rfl (Or.inl rfl) ?_
            refine r_ior (pc := 86) hX dX10_tellCall_86 ?_
            refine r_istore (pc := 87) hX (L' := [_, _, _, _, _, _, _, _, _]) dX10_tellCall_87 rfl rfl (Nat.le_of_ble_eq_true rfl) ?_
            refine r_iload (pc := 89) hX dX10_tellCall_89 rfl ?_
            refine r_aload_n (pc := 91) hX dX10_tellCall_91 rfl ?_
            refine r_getr (pc := 92) hX dX10_tellCall_92 fl_X10_20 rfl (o_X10_k h) (o_X10_r0 h) ?_
            refine r_iload (pc := 95) hX dX10_tellCall_95 rfl ?_
            refine r_callV (Z := mX2_isRemade) (t := 2) (pc := 97) hX dX10_tellCall_97 ml_X10_105 mX2_isRemade_w ⟨by decide, rfl⟩ (o_X2_k (o_X10_o0 h)) (sp_X2_isRemade (o_X10_o0 h)) rfl rfl (Nat.le_of_ble_eq_true rfl) (by decide) rfl (Or.inl rfl) ?_
            refine r_if_eq (pc := 100) hX 107 dX10_tellCall_100 (by decide) (fun c100 => ?_) (fun c100 => ?_)
            · replace c100 := b2i_0 c100
              refine r_iconst (pc := 107) hX 0 dX10_tellCall_107 (by decide) ?_
              refine r_iadd (pc := 108) hX dX10_tellCall_108 ?_
              refine r_istore (pc := 109) hX (L' := [_, _, _, _, _, _, _, _, _]) dX10_tellCall_109 rfl rfl (Nat.le_of_ble_eq_true rfl) ?_
              refine r_iinc (pc := 111) hX 1 (L' := [_, _, _, _, _, _, _, _, _]) dX10_tellCall_111 rfl (by decide) rfl rfl ?_
              refine r_goto (pc := 114) hX (tgt := 29) dX10_tellCall_114 (by decide) ?_
              refine r_locs (L' := [some (.ref a), some (.ref b0), some (.int p1), some (.int p2), some (.int (pointOfCall_ I (b0 + 17) p1)), some (.int (tellCallOne_ I a b0 (pointOfCall_ I (b0 + 17) p1) i1 J1).1), some (.int (tellCallOne_ I a b0 (pointOfCall_ I (b0 + 17) p1) i1 J1).2.1), some (.int (tellCallOne_ I a b0 (pointOfCall_ I (b0 + 17) p1) i1 J1).2.2), some (.int (i1 + 1))]) (by first | with_reducible rfl | (simp only [tellCallOne_, eq_false c11, eq_false c38, eq_true c38d, c52, c100, ↓reduceIte, if_true, if_false, decide_true, decide_false, eq_self, b2i_t, b2i_f, Bool.false_eq_true, and_true, true_and, and_false, false_and, or_true, true_or, or_false, false_or, not_true_eq_false, not_false_eq_true] <;> rfl) | simp [tellCallOne_, eq_false c11, eq_false c38, eq_true c38d, c52, c100]) ?_
              exact ih1 _ (tellCallOne_ I a b0 (pointOfCall_ I (b0 + 17) p1) i1 J1) (cnt_nx hm1) (loopN_s.symm.trans hR1)
            · replace c100 := b2i_1 c100
              refine r_iconst (pc := 103) hX 1 dX10_tellCall_103 (by decide) ?_
              refine r_goto (pc := 104) hX (tgt := 108) dX10_tellCall_104 (by decide) ?_
              refine r_iadd (pc := 108) hX dX10_tellCall_108 ?_
              refine r_istore (pc := 109) hX (L' := [_, _, _, _, _, _, _, _, _]) dX10_tellCall_109 rfl rfl (Nat.le_of_ble_eq_true rfl) ?_
              refine r_iinc (pc := 111) hX 1 (L' := [_, _, _, _, _, _, _, _, _]) dX10_tellCall_111 rfl (by decide) rfl rfl ?_
              refine r_goto (pc := 114) hX (tgt := 29) dX10_tellCall_114 (by decide) ?_
              refine r_locs (L' := [some (.ref a), some (.ref b0), some (.int p1), some (.int p2), some (.int (pointOfCall_ I (b0 + 17) p1)), some (.int (tellCallOne_ I a b0 (pointOfCall_ I (b0 + 17) p1) i1 J1).1), some (.int (tellCallOne_ I a b0 (pointOfCall_ I (b0 + 17) p1) i1 J1).2.1), some (.int (tellCallOne_ I a b0 (pointOfCall_ I (b0 + 17) p1) i1 J1).2.2), some (.int (i1 + 1))]) (by first | with_reducible rfl | (simp only [tellCallOne_, eq_false c11, eq_false c38, eq_true c38d, c52, c100, ↓reduceIte, if_true, if_false, decide_true, decide_false, eq_self, b2i_t, b2i_f, Bool.false_eq_true, and_true, true_and, and_false, false_and, or_true, true_or, or_false, false_or, not_true_eq_false, not_false_eq_true] <;> rfl) | simp [tellCallOne_, eq_false c11, eq_false c38, eq_true c38d, c52, c100]) ?_
              exact ih1 _ (tellCallOne_ I a b0 (pointOfCall_ I (b0 + 17) p1) i1 J1) (cnt_nx hm1) (loopN_s.symm.trans hR1)
    exact hL29 (cnt (0) (I (b0 + 17) 0)) (0) ((0, 0, 0))  rfl rfl
  · refine r_iload (pc := 14) hX dX10_tellCall_14 rfl ?_
    exact r_ireturn (pc := 16) hX dX10_tellCall_16 rfl rfl (by first | with_reducible rfl | (simp only [tellCall_, loopC, eq_true c11, ↓reduceIte, if_true, if_false, decide_true, decide_false, eq_self, b2i_t, b2i_f, Bool.false_eq_true, and_true, true_and, and_false, false_and, or_true, true_or, or_false, false_or, not_true_eq_false, not_false_eq_true] <;> rfl) | simp [tellCall_, loopC, eq_true c11]) rfl
set_option maxRecDepth 100000 in
set_option maxHeartbeats 1000000 in
theorem sp_X10_tellAnswer {l : Launch} {k : im_K} {S : im_S} {I : im_I} {a m : Nat} {b0 mb0 : Nat} {p1 : Int32} (h : o_X10 S a m) (hb0 : o_X7 S b0 mb0) : im_Runs l k 2 mX10_tellAnswer [.ref a, .ref b0, .int p1] (S, I) (some (.int (tellAnswer_ I a b0 p1))) (S, I) := by
  refine im_run (by decide +kernel) ⟨Nat.le_refl _, Nat.le_refl _⟩ (Nat.le_of_ble_eq_true rfl) ?_
  intro X hl hX hxn hxz hxc hxs
  subst hl
  change im_E X k _ 0 [some (.ref a), some (.ref b0), some (.int p1)] [] S I
  refine r_aload_n (pc := 0) hX dX10_tellAnswer_0 rfl ?_
  refine r_getr (pc := 1) hX dX10_tellAnswer_1 fl_X10_46 rfl (o_X7_k hb0) (o_X7_r2 hb0) ?_
  refine r_iload_n (pc := 4) hX dX10_tellAnswer_4 rfl ?_
  refine r_callV (Z := mX4_isLiving) (t := 4) (pc := 5) hX dX10_tellAnswer_5 ml_X10_129 mX4_isLiving_w ⟨by decide, rfl⟩ (o_X4_k (o_X7_o2 hb0)) (sp_X4_isLiving (o_X7_o2 hb0)) rfl rfl (Nat.le_of_ble_eq_true rfl) (by decide) rfl (Or.inl rfl) ?_
  refine r_if_ne (pc := 8) hX 13 dX10_tellAnswer_8 (by decide) (fun c8 => ?_) (fun c8 => ?_)
  · replace c8 := b2i_1 c8
    refine r_aload_n (pc := 13) hX dX10_tellAnswer_13 rfl ?_
    refine r_getr (pc := 14) hX dX10_tellAnswer_14 fl_X10_20 rfl (o_X10_k h) (o_X10_r0 h) ?_
    refine r_iload_n (pc := 17) hX dX10_tellAnswer_17 rfl ?_
    refine r_callV (Z := mX2_isRemade) (t := 2) (pc := 18) hX dX10_tellAnswer_18 ml_X10_105 mX2_isRemade_w ⟨by decide, rfl⟩ (o_X2_k (o_X10_o0 h)) (sp_X2_isRemade (o_X10_o0 h)) rfl rfl (Nat.le_of_ble_eq_true rfl) (by decide) rfl (Or.inl rfl) ?_
    refine r_if_eq (pc := 21) hX 33 dX10_tellAnswer_21 (by decide) (fun c21 => ?_) (fun c21 => ?_)
    · replace c21 := b2i_0 c21
      refine r_aload_n (pc := 33) hX dX10_tellAnswer_33 rfl ?_
      refine r_getr (pc := 34) hX dX10_tellAnswer_34 fl_X10_20 rfl (o_X10_k h) (o_X10_r0 h) ?_
      refine r_iload_n (pc := 37) hX dX10_tellAnswer_37 rfl ?_
      refine r_callV (Z := mX2_isSpilled) (t := 2) (pc := 38) hX dX10_tellAnswer_38 ml_X10_133 mX2_isSpilled_w ⟨by decide, rfl⟩ (o_X2_k (o_X10_o0 h)) (sp_X2_isSpilled (o_X10_o0 h)) rfl rfl (Nat.le_of_ble_eq_true rfl) (by decide) rfl (Or.inl rfl) ?_
      refine r_if_eq (pc := 41) hX 65 dX10_tellAnswer_41 (by decide) (fun c41 => ?_) (fun c41 => ?_)
      · replace c41 := b2i_0 c41
        refine r_aload_n (pc := 65) hX dX10_tellAnswer_65 rfl ?_
        refine r_getr (pc := 66) hX dX10_tellAnswer_66 fl_X10_36 rfl (o_X10_k h) (o_X10_r2 h) ?_
        refine r_getr (pc := 69) hX dX10_tellAnswer_69 fl_X10_143 rfl (o_X9_k (o_X10_o2 h)) (o_X9_r4 (o_X10_o2 h)) ?_
        refine r_aload_n (pc := 72) hX dX10_tellAnswer_72 rfl ?_
        refine r_getr (pc := 73) hX dX10_tellAnswer_73 fl_X10_20 rfl (o_X10_k h) (o_X10_r0 h) ?_
        refine r_iload_n (pc := 76) hX dX10_tellAnswer_76 rfl ?_
        refine r_callV (Z := mX2_registerOf) (t := 2) (pc := 77) hX dX10_tellAnswer_77 ml_X10_99 mX2_registerOf_w ⟨by decide, rfl⟩ (o_X2_k (o_X10_o0 h)) (sp_X2_registerOf (o_X10_o0 h)) rfl rfl (Nat.le_of_ble_eq_true rfl) (by decide) rfl (Or.inl rfl) ?_
        refine r_callSN (Z := mX11_at) (pc := 80) hX dX10_tellAnswer_80 mn_X10_139 mX11_at_w (sp_X11_at (o_X9_a4 (o_X10_o2 h))) rfl rfl (Nat.le_of_ble_eq_true rfl) (by decide) rfl (Or.inl rfl) ?_
        exact r_ireturn (pc := 83) hX dX10_tellAnswer_83 rfl rfl (by first | with_reducible rfl | (simp only [tellAnswer_, c8, c21, c41, ↓reduceIte, if_true, if_false, decide_true, decide_false, eq_self, b2i_t, b2i_f, Bool.false_eq_true, and_true, true_and, and_false, false_and, or_true, true_or, or_false, false_or, not_true_eq_false, not_false_eq_true] <;> rfl) | simp [tellAnswer_, c8, c21, c41]) rfl
      · replace c41 := b2i_1 c41
        refine r_aload_n (pc := 44) hX dX10_tellAnswer_44 rfl ?_
        refine r_getr (pc := 45) hX dX10_tellAnswer_45 fl_X10_36 rfl (o_X10_k h) (o_X10_r2 h) ?_
        refine r_getr (pc := 48) hX dX10_tellAnswer_48 fl_X10_136 rfl (o_X9_k (o_X10_o2 h)) (o_X9_r5 (o_X10_o2 h)) ?_
        refine r_aload_n (pc := 51) hX dX10_tellAnswer_51 rfl ?_
        refine r_getr (pc := 52) hX dX10_tellAnswer_52 fl_X10_20 rfl (o_X10_k h) (o_X10_r0 h) ?_
        refine r_iload_n (pc := 55) hX dX10_tellAnswer_55 rfl ?_
        refine r_callV (Z := mX2_slotOf) (t := 2) (pc := 56) hX dX10_tellAnswer_56 ml_X10_102 mX2_slotOf_w ⟨by decide, rfl⟩ (o_X2_k (o_X10_o0 h)) (sp_X2_slotOf (o_X10_o0 h)) rfl rfl (Nat.le_of_ble_eq_true rfl) (by decide) rfl (Or.inl rfl) ?_
        refine r_callSN (Z := mX11_at) (pc := 59) hX dX10_tellAnswer_59 mn_X10_139 mX11_at_w (sp_X11_at (o_X9_a5 (o_X10_o2 h))) rfl rfl (Nat.le_of_ble_eq_true rfl) (by decide) rfl (Or.inl rfl) ?_
        refine r_goto (pc := 62) hX (tgt := 83) dX10_tellAnswer_62 (by decide) ?_
        exact r_ireturn (pc := 83) hX dX10_tellAnswer_83 rfl rfl (by first | with_reducible rfl | (simp only [tellAnswer_, c8, c21, c41, ↓reduceIte, if_true, if_false, decide_true, decide_false, eq_self, b2i_t, b2i_f, Bool.false_eq_true, and_true, true_and, and_false, false_and, or_true, true_or, or_false, false_or, not_true_eq_false, not_false_eq_true] <;> rfl) | simp [tellAnswer_, c8, c21, c41]) rfl
    · replace c21 := b2i_1 c21
      refine r_aload_n (pc := 24) hX dX10_tellAnswer_24 rfl ?_
      refine r_getr (pc := 25) hX dX10_tellAnswer_25 fl_X10_20 rfl (o_X10_k h) (o_X10_r0 h) ?_
      refine r_iload_n (pc := 28) hX dX10_tellAnswer_28 rfl ?_
      refine r_callV (Z := mX2_numberOf) (t := 2) (pc := 29) hX dX10_tellAnswer_29 ml_X10_132 mX2_numberOf_w ⟨by decide, rfl⟩ (o_X2_k (o_X10_o0 h)) (sp_X2_numberOf (o_X10_o0 h)) rfl rfl (Nat.le_of_ble_eq_true rfl) (by decide) rfl (Or.inl rfl) ?_
      exact r_ireturn (pc := 32) hX dX10_tellAnswer_32 rfl rfl (by first | with_reducible rfl | (simp only [tellAnswer_, c8, c21, ↓reduceIte, if_true, if_false, decide_true, decide_false, eq_self, b2i_t, b2i_f, Bool.false_eq_true, and_true, true_and, and_false, false_and, or_true, true_or, or_false, false_or, not_true_eq_false, not_false_eq_true] <;> rfl) | simp [tellAnswer_, c8, c21]) rfl
  · replace c8 := b2i_0 c8
    refine r_iconst (pc := 11) hX 0 dX10_tellAnswer_11 (by decide) ?_
    exact r_ireturn (pc := 12) hX dX10_tellAnswer_12 rfl rfl (by first | with_reducible rfl | (simp only [tellAnswer_, c8, ↓reduceIte, if_true, if_false, decide_true, decide_false, eq_self, b2i_t, b2i_f, Bool.false_eq_true, and_true, true_and, and_false, false_and, or_true, true_or, or_false, false_or, not_true_eq_false, not_false_eq_true] <;> rfl) | simp [tellAnswer_, c8]) rfl
set_option maxRecDepth 100000 in
set_option maxHeartbeats 1000000 in
theorem sp_X10_tellMany {l : Launch} {k : im_K} {S : im_S} {I : im_I} {a m : Nat} {b0 mb0 : Nat} {p1 : Int32} (h : o_X10 S a m) (hb0 : o_X7 S b0 mb0) (he : I (b0 + 10) 0 < 2147483647) : im_Runs l k 3 mX10_tellMany [.ref a, .ref b0, .int p1] (S, I) (some (.int (tellMany_ I a b0 p1))) (S, I) := by
  refine im_run (by decide +kernel) ⟨Nat.le_refl _, Nat.le_refl _⟩ (Nat.le_of_ble_eq_true rfl) ?_
  intro X hl hX hxn hxz hxc hxs
  subst hl
  change im_E X k _ 0 [some (.ref a), some (.ref b0), some (.int p1)] [] S I
  refine r_iload_n (pc := 0) hX dX10_tellMany_0 rfl ?_
  by_cases c1_0 : p1 = 0
  · refine r_tsIn (pc := 1) hX 76 dX10_tellMany_1 (by rw [c1_0]; decide) (by rw [c1_0]; decide) (by rw [c1_0]; rfl) (by decide) ?_
    refine r_aload_n (pc := 76) hX dX10_tellMany_76 rfl ?_
    refine r_getr (pc := 77) hX dX10_tellMany_77 fl_X10_9 rfl (o_X10_k h) (o_X10_r3 h) ?_
    refine r_geti (pc := 80) hX dX10_tellMany_80 fl_X10_146 rfl (o_X8_k (o_X10_o3 h)) ?_
    exact r_ireturn (pc := 83) hX dX10_tellMany_83 rfl rfl (by first | with_reducible rfl | (simp only [tellMany_, eq_true c1_0, ↓reduceIte, if_true, if_false, decide_true, decide_false, eq_self, b2i_t, b2i_f, Bool.false_eq_true, and_true, true_and, and_false, false_and, or_true, true_or, or_false, false_or, not_true_eq_false, not_false_eq_true] <;> rfl) | simp [tellMany_, eq_true c1_0]) rfl
  by_cases c1_1 : p1 = 1
  · refine r_tsIn (pc := 1) hX 84 dX10_tellMany_1 (by rw [c1_1]; decide) (by rw [c1_1]; decide) (by rw [c1_1]; rfl) (by decide) ?_
    refine r_aload_n (pc := 84) hX dX10_tellMany_84 rfl ?_
    refine r_getr (pc := 85) hX dX10_tellMany_85 fl_X10_9 rfl (o_X10_k h) (o_X10_r3 h) ?_
    refine r_callV (Z := mX8_looseCount) (t := 8) (pc := 88) hX dX10_tellMany_88 ml_X10_151 mX8_looseCount_w ⟨by decide, rfl⟩ (o_X8_k (o_X10_o3 h)) (sp_X8_looseCount (o_X10_o3 h)) rfl rfl (Nat.le_of_ble_eq_true rfl) (by decide) rfl (Or.inl rfl) ?_
    exact r_ireturn (pc := 91) hX dX10_tellMany_91 rfl rfl (by first | with_reducible rfl | (simp only [tellMany_, eq_false c1_0, eq_true c1_1, ↓reduceIte, if_true, if_false, decide_true, decide_false, eq_self, b2i_t, b2i_f, Bool.false_eq_true, and_true, true_and, and_false, false_and, or_true, true_or, or_false, false_or, not_true_eq_false, not_false_eq_true] <;> rfl) | simp [tellMany_, eq_false c1_0, eq_true c1_1]) rfl
  by_cases c1_2 : p1 = 2
  · refine r_tsIn (pc := 1) hX 92 dX10_tellMany_1 (by rw [c1_2]; decide) (by rw [c1_2]; decide) (by rw [c1_2]; rfl) (by decide) ?_
    refine r_aload_n (pc := 92) hX dX10_tellMany_92 rfl ?_
    refine r_getr (pc := 93) hX dX10_tellMany_93 fl_X10_9 rfl (o_X10_k h) (o_X10_r3 h) ?_
    refine r_geti (pc := 96) hX dX10_tellMany_96 fl_X10_155 rfl (o_X8_k (o_X10_o3 h)) ?_
    exact r_ireturn (pc := 99) hX dX10_tellMany_99 rfl rfl (by first | with_reducible rfl | (simp only [tellMany_, eq_false c1_0, eq_false c1_1, eq_true c1_2, ↓reduceIte, if_true, if_false, decide_true, decide_false, eq_self, b2i_t, b2i_f, Bool.false_eq_true, and_true, true_and, and_false, false_and, or_true, true_or, or_false, false_or, not_true_eq_false, not_false_eq_true] <;> rfl) | simp [tellMany_, eq_false c1_0, eq_false c1_1, eq_true c1_2]) rfl
  by_cases c1_3 : p1 = 3
  · refine r_tsIn (pc := 1) hX 100 dX10_tellMany_1 (by rw [c1_3]; decide) (by rw [c1_3]; decide) (by rw [c1_3]; rfl) (by decide) ?_
    refine r_aload_n (pc := 100) hX dX10_tellMany_100 rfl ?_
    refine r_getr (pc := 101) hX dX10_tellMany_101 fl_X10_40 rfl (o_X7_k hb0) (o_X7_r1 hb0) ?_
    refine r_geti (pc := 104) hX dX10_tellMany_104 fl_X10_158 rfl (o_X3_k (o_X7_o1 hb0)) ?_
    exact r_ireturn (pc := 107) hX dX10_tellMany_107 rfl rfl (by first | with_reducible rfl | (simp only [tellMany_, eq_false c1_0, eq_false c1_1, eq_false c1_2, eq_true c1_3, ↓reduceIte, if_true, if_false, decide_true, decide_false, eq_self, b2i_t, b2i_f, Bool.false_eq_true, and_true, true_and, and_false, false_and, or_true, true_or, or_false, false_or, not_true_eq_false, not_false_eq_true] <;> rfl) | simp [tellMany_, eq_false c1_0, eq_false c1_1, eq_false c1_2, eq_true c1_3]) rfl
  by_cases c1_4 : p1 = 4
  · refine r_tsIn (pc := 1) hX 108 dX10_tellMany_1 (by rw [c1_4]; decide) (by rw [c1_4]; decide) (by rw [c1_4]; rfl) (by decide) ?_
    refine r_aload_n (pc := 108) hX dX10_tellMany_108 rfl ?_
    refine r_getr (pc := 109) hX dX10_tellMany_109 fl_X10_46 rfl (o_X7_k hb0) (o_X7_r2 hb0) ?_
    refine r_geti (pc := 112) hX dX10_tellMany_112 fl_X10_161 rfl (o_X4_k (o_X7_o2 hb0)) ?_
    exact r_ireturn (pc := 115) hX dX10_tellMany_115 rfl rfl (by first | with_reducible rfl | (simp only [tellMany_, eq_false c1_0, eq_false c1_1, eq_false c1_2, eq_false c1_3, eq_true c1_4, ↓reduceIte, if_true, if_false, decide_true, decide_false, eq_self, b2i_t, b2i_f, Bool.false_eq_true, and_true, true_and, and_false, false_and, or_true, true_or, or_false, false_or, not_true_eq_false, not_false_eq_true] <;> rfl) | simp [tellMany_, eq_false c1_0, eq_false c1_1, eq_false c1_2, eq_false c1_3, eq_true c1_4]) rfl
  by_cases c1_5 : p1 = 5
  · refine r_tsIn (pc := 1) hX 116 dX10_tellMany_1 (by rw [c1_5]; decide) (by rw [c1_5]; decide) (by rw [c1_5]; rfl) (by decide) ?_
    refine r_aload_n (pc := 116) hX dX10_tellMany_116 rfl ?_
    refine r_getr (pc := 117) hX dX10_tellMany_117 fl_X10_20 rfl (o_X10_k h) (o_X10_r0 h) ?_
    refine r_geti (pc := 120) hX dX10_tellMany_120 fl_X10_164 rfl (o_X2_k (o_X10_o0 h)) ?_
    exact r_ireturn (pc := 123) hX dX10_tellMany_123 rfl rfl (by first | with_reducible rfl | (simp only [tellMany_, eq_false c1_0, eq_false c1_1, eq_false c1_2, eq_false c1_3, eq_false c1_4, eq_true c1_5, ↓reduceIte, if_true, if_false, decide_true, decide_false, eq_self, b2i_t, b2i_f, Bool.false_eq_true, and_true, true_and, and_false, false_and, or_true, true_or, or_false, false_or, not_true_eq_false, not_false_eq_true] <;> rfl) | simp [tellMany_, eq_false c1_0, eq_false c1_1, eq_false c1_2, eq_false c1_3, eq_false c1_4, eq_true c1_5]) rfl
  by_cases c1_6 : p1 = 6
  · refine r_tsIn (pc := 1) hX 124 dX10_tellMany_1 (by rw [c1_6]; decide) (by rw [c1_6]; decide) (by rw [c1_6]; rfl) (by decide) ?_
    refine r_aload_n (pc := 124) hX dX10_tellMany_124 rfl ?_
    refine r_getr (pc := 125) hX dX10_tellMany_125 fl_X10_20 rfl (o_X10_k h) (o_X10_r0 h) ?_
    refine r_geti (pc := 128) hX dX10_tellMany_128 fl_X10_167 rfl (o_X2_k (o_X10_o0 h)) ?_
    exact r_ireturn (pc := 131) hX dX10_tellMany_131 rfl rfl (by first | with_reducible rfl | (simp only [tellMany_, eq_false c1_0, eq_false c1_1, eq_false c1_2, eq_false c1_3, eq_false c1_4, eq_false c1_5, eq_true c1_6, ↓reduceIte, if_true, if_false, decide_true, decide_false, eq_self, b2i_t, b2i_f, Bool.false_eq_true, and_true, true_and, and_false, false_and, or_true, true_or, or_false, false_or, not_true_eq_false, not_false_eq_true] <;> rfl) | simp [tellMany_, eq_false c1_0, eq_false c1_1, eq_false c1_2, eq_false c1_3, eq_false c1_4, eq_false c1_5, eq_true c1_6]) rfl
  by_cases c1_7 : p1 = 7
  · refine r_tsIn (pc := 1) hX 132 dX10_tellMany_1 (by rw [c1_7]; decide) (by rw [c1_7]; decide) (by rw [c1_7]; rfl) (by decide) ?_
    refine r_aload_n (pc := 132) hX dX10_tellMany_132 rfl ?_
    refine r_getr (pc := 133) hX dX10_tellMany_133 fl_X10_20 rfl (o_X10_k h) (o_X10_r0 h) ?_
    refine r_geti (pc := 136) hX dX10_tellMany_136 fl_X10_170 rfl (o_X2_k (o_X10_o0 h)) ?_
    exact r_ireturn (pc := 139) hX dX10_tellMany_139 rfl rfl (by first | with_reducible rfl | (simp only [tellMany_, eq_false c1_0, eq_false c1_1, eq_false c1_2, eq_false c1_3, eq_false c1_4, eq_false c1_5, eq_false c1_6, eq_true c1_7, ↓reduceIte, if_true, if_false, decide_true, decide_false, eq_self, b2i_t, b2i_f, Bool.false_eq_true, and_true, true_and, and_false, false_and, or_true, true_or, or_false, false_or, not_true_eq_false, not_false_eq_true] <;> rfl) | simp [tellMany_, eq_false c1_0, eq_false c1_1, eq_false c1_2, eq_false c1_3, eq_false c1_4, eq_false c1_5, eq_false c1_6, eq_true c1_7]) rfl
  by_cases c1_8 : p1 = 8
  · refine r_tsIn (pc := 1) hX 140 dX10_tellMany_1 (by rw [c1_8]; decide) (by rw [c1_8]; decide) (by rw [c1_8]; rfl) (by decide) ?_
    refine r_aload_n (pc := 140) hX dX10_tellMany_140 rfl ?_
    refine r_getr (pc := 141) hX dX10_tellMany_141 fl_X10_20 rfl (o_X10_k h) (o_X10_r0 h) ?_
    refine r_geti (pc := 144) hX dX10_tellMany_144 fl_X10_173 rfl (o_X2_k (o_X10_o0 h)) ?_
    exact r_ireturn (pc := 147) hX dX10_tellMany_147 rfl rfl (by first | with_reducible rfl | (simp only [tellMany_, eq_false c1_0, eq_false c1_1, eq_false c1_2, eq_false c1_3, eq_false c1_4, eq_false c1_5, eq_false c1_6, eq_false c1_7, eq_true c1_8, ↓reduceIte, if_true, if_false, decide_true, decide_false, eq_self, b2i_t, b2i_f, Bool.false_eq_true, and_true, true_and, and_false, false_and, or_true, true_or, or_false, false_or, not_true_eq_false, not_false_eq_true] <;> rfl) | simp [tellMany_, eq_false c1_0, eq_false c1_1, eq_false c1_2, eq_false c1_3, eq_false c1_4, eq_false c1_5, eq_false c1_6, eq_false c1_7, eq_true c1_8]) rfl
  by_cases c1_9 : p1 = 9
  · refine r_tsIn (pc := 1) hX 148 dX10_tellMany_1 (by rw [c1_9]; decide) (by rw [c1_9]; decide) (by rw [c1_9]; rfl) (by decide) ?_
    refine r_aload_n (pc := 148) hX dX10_tellMany_148 rfl ?_
    refine r_getr (pc := 149) hX dX10_tellMany_149 fl_X10_27 rfl (o_X10_k h) (o_X10_r1 h) ?_
    refine r_geti (pc := 152) hX dX10_tellMany_152 fl_X10_176 rfl (o_X1_k (o_X10_o1 h)) ?_
    exact r_ireturn (pc := 155) hX dX10_tellMany_155 rfl rfl (by first | with_reducible rfl | (simp only [tellMany_, eq_false c1_0, eq_false c1_1, eq_false c1_2, eq_false c1_3, eq_false c1_4, eq_false c1_5, eq_false c1_6, eq_false c1_7, eq_false c1_8, eq_true c1_9, ↓reduceIte, if_true, if_false, decide_true, decide_false, eq_self, b2i_t, b2i_f, Bool.false_eq_true, and_true, true_and, and_false, false_and, or_true, true_or, or_false, false_or, not_true_eq_false, not_false_eq_true] <;> rfl) | simp [tellMany_, eq_false c1_0, eq_false c1_1, eq_false c1_2, eq_false c1_3, eq_false c1_4, eq_false c1_5, eq_false c1_6, eq_false c1_7, eq_false c1_8, eq_true c1_9]) rfl
  by_cases c1_10 : p1 = 10
  · refine r_tsIn (pc := 1) hX 156 dX10_tellMany_1 (by rw [c1_10]; decide) (by rw [c1_10]; decide) (by rw [c1_10]; rfl) (by decide) ?_
    refine r_aload_n (pc := 156) hX dX10_tellMany_156 rfl ?_
    refine r_getr (pc := 157) hX dX10_tellMany_157 fl_X10_27 rfl (o_X10_k h) (o_X10_r1 h) ?_
    refine r_iconst (pc := 160) hX 1 dX10_tellMany_160 (by decide) ?_
    refine r_callV (Z := mX1_countOf) (t := 1) (pc := 161) hX dX10_tellMany_161 ml_X10_179 mX1_countOf_w ⟨by decide, rfl⟩ (o_X1_k (o_X10_o1 h)) (sp_X1_countOf (o_X10_o1 h)) rfl rfl (Nat.le_of_ble_eq_true rfl) (by decide) rfl (Or.inl rfl) ?_
    exact r_ireturn (pc := 164) hX dX10_tellMany_164 rfl rfl (by first | with_reducible rfl | (simp only [tellMany_, eq_false c1_0, eq_false c1_1, eq_false c1_2, eq_false c1_3, eq_false c1_4, eq_false c1_5, eq_false c1_6, eq_false c1_7, eq_false c1_8, eq_false c1_9, eq_true c1_10, ↓reduceIte, if_true, if_false, decide_true, decide_false, eq_self, b2i_t, b2i_f, Bool.false_eq_true, and_true, true_and, and_false, false_and, or_true, true_or, or_false, false_or, not_true_eq_false, not_false_eq_true] <;> rfl) | simp [tellMany_, eq_false c1_0, eq_false c1_1, eq_false c1_2, eq_false c1_3, eq_false c1_4, eq_false c1_5, eq_false c1_6, eq_false c1_7, eq_false c1_8, eq_false c1_9, eq_true c1_10]) rfl
  by_cases c1_11 : p1 = 11
  · refine r_tsIn (pc := 1) hX 165 dX10_tellMany_1 (by rw [c1_11]; decide) (by rw [c1_11]; decide) (by rw [c1_11]; rfl) (by decide) ?_
    refine r_aload_n (pc := 165) hX dX10_tellMany_165 rfl ?_
    refine r_getr (pc := 166) hX dX10_tellMany_166 fl_X10_27 rfl (o_X10_k h) (o_X10_r1 h) ?_
    refine r_bipush (pc := 169) hX 7 dX10_tellMany_169 (by decide) ?_
    refine r_callV (Z := mX1_countOf) (t := 1) (pc := 171) hX dX10_tellMany_171 ml_X10_179 mX1_countOf_w ⟨by decide, rfl⟩ (o_X1_k (o_X10_o1 h)) (sp_X1_countOf (o_X10_o1 h)) rfl rfl (Nat.le_of_ble_eq_true rfl) (by decide) rfl (Or.inl rfl) ?_
    refine r_aload_n (pc := 174) hX dX10_tellMany_174 rfl ?_
    refine r_getr (pc := 175) hX dX10_tellMany_175 fl_X10_27 rfl (o_X10_k h) (o_X10_r1 h) ?_
    refine r_bipush (pc := 178) hX 8 dX10_tellMany_178 (by decide) ?_
    refine r_callV (Z := mX1_countOf) (t := 1) (pc := 180) hX dX10_tellMany_180 ml_X10_179 mX1_countOf_w ⟨by decide, rfl⟩ (o_X1_k (o_X10_o1 h)) (sp_X1_countOf (o_X10_o1 h)) rfl rfl (Nat.le_of_ble_eq_true rfl) (by decide) rfl (Or.inl rfl) ?_
    refine r_iadd (pc := 183) hX dX10_tellMany_183 ?_
    exact r_ireturn (pc := 184) hX dX10_tellMany_184 rfl rfl (by first | with_reducible rfl | (simp only [tellMany_, eq_false c1_0, eq_false c1_1, eq_false c1_2, eq_false c1_3, eq_false c1_4, eq_false c1_5, eq_false c1_6, eq_false c1_7, eq_false c1_8, eq_false c1_9, eq_false c1_10, eq_true c1_11, ↓reduceIte, if_true, if_false, decide_true, decide_false, eq_self, b2i_t, b2i_f, Bool.false_eq_true, and_true, true_and, and_false, false_and, or_true, true_or, or_false, false_or, not_true_eq_false, not_false_eq_true] <;> rfl) | simp [tellMany_, eq_false c1_0, eq_false c1_1, eq_false c1_2, eq_false c1_3, eq_false c1_4, eq_false c1_5, eq_false c1_6, eq_false c1_7, eq_false c1_8, eq_false c1_9, eq_false c1_10, eq_true c1_11]) rfl
  by_cases c1_12 : p1 = 12
  · refine r_tsIn (pc := 1) hX 185 dX10_tellMany_1 (by rw [c1_12]; decide) (by rw [c1_12]; decide) (by rw [c1_12]; rfl) (by decide) ?_
    refine r_aload_n (pc := 185) hX dX10_tellMany_185 rfl ?_
    refine r_getr (pc := 186) hX dX10_tellMany_186 fl_X10_36 rfl (o_X10_k h) (o_X10_r2 h) ?_
    refine r_geti (pc := 189) hX dX10_tellMany_189 fl_X10_182 rfl (o_X9_k (o_X10_o2 h)) ?_
    exact r_ireturn (pc := 192) hX dX10_tellMany_192 rfl rfl (by first | with_reducible rfl | (simp only [tellMany_, eq_false c1_0, eq_false c1_1, eq_false c1_2, eq_false c1_3, eq_false c1_4, eq_false c1_5, eq_false c1_6, eq_false c1_7, eq_false c1_8, eq_false c1_9, eq_false c1_10, eq_false c1_11, eq_true c1_12, ↓reduceIte, if_true, if_false, decide_true, decide_false, eq_self, b2i_t, b2i_f, Bool.false_eq_true, and_true, true_and, and_false, false_and, or_true, true_or, or_false, false_or, not_true_eq_false, not_false_eq_true] <;> rfl) | simp [tellMany_, eq_false c1_0, eq_false c1_1, eq_false c1_2, eq_false c1_3, eq_false c1_4, eq_false c1_5, eq_false c1_6, eq_false c1_7, eq_false c1_8, eq_false c1_9, eq_false c1_10, eq_false c1_11, eq_true c1_12]) rfl
  by_cases c1_13 : p1 = 13
  · refine r_tsIn (pc := 1) hX 193 dX10_tellMany_1 (by rw [c1_13]; decide) (by rw [c1_13]; decide) (by rw [c1_13]; rfl) (by decide) ?_
    refine r_aload_n (pc := 193) hX dX10_tellMany_193 rfl ?_
    refine r_getr (pc := 194) hX dX10_tellMany_194 fl_X10_36 rfl (o_X10_k h) (o_X10_r2 h) ?_
    refine r_geti (pc := 197) hX dX10_tellMany_197 fl_X10_185 rfl (o_X9_k (o_X10_o2 h)) ?_
    exact r_ireturn (pc := 200) hX dX10_tellMany_200 rfl rfl (by first | with_reducible rfl | (simp only [tellMany_, eq_false c1_0, eq_false c1_1, eq_false c1_2, eq_false c1_3, eq_false c1_4, eq_false c1_5, eq_false c1_6, eq_false c1_7, eq_false c1_8, eq_false c1_9, eq_false c1_10, eq_false c1_11, eq_false c1_12, eq_true c1_13, ↓reduceIte, if_true, if_false, decide_true, decide_false, eq_self, b2i_t, b2i_f, Bool.false_eq_true, and_true, true_and, and_false, false_and, or_true, true_or, or_false, false_or, not_true_eq_false, not_false_eq_true] <;> rfl) | simp [tellMany_, eq_false c1_0, eq_false c1_1, eq_false c1_2, eq_false c1_3, eq_false c1_4, eq_false c1_5, eq_false c1_6, eq_false c1_7, eq_false c1_8, eq_false c1_9, eq_false c1_10, eq_false c1_11, eq_false c1_12, eq_true c1_13]) rfl
  by_cases c1_14 : p1 = 14
  · refine r_tsIn (pc := 1) hX 201 dX10_tellMany_1 (by rw [c1_14]; decide) (by rw [c1_14]; decide) (by rw [c1_14]; rfl) (by decide) ?_
    refine r_aload_n (pc := 201) hX dX10_tellMany_201 rfl ?_
    refine r_getr (pc := 202) hX dX10_tellMany_202 fl_X10_36 rfl (o_X10_k h) (o_X10_r2 h) ?_
    refine r_geti (pc := 205) hX dX10_tellMany_205 fl_X10_188 rfl (o_X9_k (o_X10_o2 h)) ?_
    exact r_ireturn (pc := 208) hX dX10_tellMany_208 rfl rfl (by first | with_reducible rfl | (simp only [tellMany_, eq_false c1_0, eq_false c1_1, eq_false c1_2, eq_false c1_3, eq_false c1_4, eq_false c1_5, eq_false c1_6, eq_false c1_7, eq_false c1_8, eq_false c1_9, eq_false c1_10, eq_false c1_11, eq_false c1_12, eq_false c1_13, eq_true c1_14, ↓reduceIte, if_true, if_false, decide_true, decide_false, eq_self, b2i_t, b2i_f, Bool.false_eq_true, and_true, true_and, and_false, false_and, or_true, true_or, or_false, false_or, not_true_eq_false, not_false_eq_true] <;> rfl) | simp [tellMany_, eq_false c1_0, eq_false c1_1, eq_false c1_2, eq_false c1_3, eq_false c1_4, eq_false c1_5, eq_false c1_6, eq_false c1_7, eq_false c1_8, eq_false c1_9, eq_false c1_10, eq_false c1_11, eq_false c1_12, eq_false c1_13, eq_true c1_14]) rfl
  refine r_tsOut (pc := 1) hX 209 dX10_tellMany_1 (im_tsOut (fun z h1 h2 e => ?_)) (by decide) ?_
  · have hz : z = 0 ∨ z = 1 ∨ z = 2 ∨ z = 3 ∨ z = 4 ∨ z = 5 ∨ z = 6 ∨ z = 7 ∨ z = 8 ∨ z = 9 ∨ z = 10 ∨ z = 11 ∨ z = 12 ∨ z = 13 ∨ z = 14 := by omega
    rcases hz with rfl | rfl | rfl | rfl | rfl | rfl | rfl | rfl | rfl | rfl | rfl | rfl | rfl | rfl | rfl
    · exact c1_0 (im_toInt (y := 0) (e.trans (by decide)))
    · exact c1_1 (im_toInt (y := 1) (e.trans (by decide)))
    · exact c1_2 (im_toInt (y := 2) (e.trans (by decide)))
    · exact c1_3 (im_toInt (y := 3) (e.trans (by decide)))
    · exact c1_4 (im_toInt (y := 4) (e.trans (by decide)))
    · exact c1_5 (im_toInt (y := 5) (e.trans (by decide)))
    · exact c1_6 (im_toInt (y := 6) (e.trans (by decide)))
    · exact c1_7 (im_toInt (y := 7) (e.trans (by decide)))
    · exact c1_8 (im_toInt (y := 8) (e.trans (by decide)))
    · exact c1_9 (im_toInt (y := 9) (e.trans (by decide)))
    · exact c1_10 (im_toInt (y := 10) (e.trans (by decide)))
    · exact c1_11 (im_toInt (y := 11) (e.trans (by decide)))
    · exact c1_12 (im_toInt (y := 12) (e.trans (by decide)))
    · exact c1_13 (im_toInt (y := 13) (e.trans (by decide)))
    · exact c1_14 (im_toInt (y := 14) (e.trans (by decide)))
  refine r_aload_n (pc := 209) hX dX10_tellMany_209 rfl ?_
  refine r_getr (pc := 210) hX dX10_tellMany_210 fl_X10_46 rfl (o_X7_k hb0) (o_X7_r2 hb0) ?_
  refine r_aload_n (pc := 213) hX dX10_tellMany_213 rfl ?_
  refine r_getr (pc := 214) hX dX10_tellMany_214 fl_X10_40 rfl (o_X7_k hb0) (o_X7_r1 hb0) ?_
  refine r_geti (pc := 217) hX dX10_tellMany_217 fl_X10_158 rfl (o_X3_k (o_X7_o1 hb0)) ?_
  refine r_callV (Z := mX4_mostAtOnce) (t := 4) (pc := 220) hX dX10_tellMany_220 ml_X10_191 mX4_mostAtOnce_w ⟨by decide, rfl⟩ (o_X4_k (o_X7_o2 hb0)) (sp_X4_mostAtOnce (o_X7_o2 hb0) he) rfl rfl (Nat.le_of_ble_eq_true rfl) (by decide) rfl (Or.inl rfl) ?_
  exact r_ireturn (pc := 223) hX dX10_tellMany_223 rfl rfl (by first | with_reducible rfl | (simp only [tellMany_, eq_false c1_0, eq_false c1_1, eq_false c1_2, eq_false c1_3, eq_false c1_4, eq_false c1_5, eq_false c1_6, eq_false c1_7, eq_false c1_8, eq_false c1_9, eq_false c1_10, eq_false c1_11, eq_false c1_12, eq_false c1_13, eq_false c1_14, ↓reduceIte, if_true, if_false, decide_true, decide_false, eq_self, b2i_t, b2i_f, Bool.false_eq_true, and_true, true_and, and_false, false_and, or_true, true_or, or_false, false_or, not_true_eq_false, not_false_eq_true] <;> rfl) | simp [tellMany_, eq_false c1_0, eq_false c1_1, eq_false c1_2, eq_false c1_3, eq_false c1_4, eq_false c1_5, eq_false c1_6, eq_false c1_7, eq_false c1_8, eq_false c1_9, eq_false c1_10, eq_false c1_11, eq_false c1_12, eq_false c1_13, eq_false c1_14]) rfl
set_option maxRecDepth 100000 in
set_option maxHeartbeats 1000000 in
theorem sp_X7_build {l : Launch} {k : im_K} {S : im_S} {I : im_I} {a m : Nat} {p0 : Int32} (h : o_X7 S a m) (ha : 18 < a) (hs : ∀ b : Int32, -2147483648 < at_ (chooseAll_ (coverAll_ I (a + 1) m) a (a + 34)) 5 b) : im_Runs l k 5 mX7_build [.ref a, .int p0] (S, I) (none) (S, build_ I a m p0) := by
  refine im_run (by decide +kernel) ⟨Nat.le_refl _, Nat.le_refl _⟩ (Nat.le_of_ble_eq_true rfl) ?_
  intro X hl hX hxn hxz hxc hxs
  subst hl
  change im_E X k _ 0 [some (.ref a), some (.int p0), none, none, none] [] S I
  refine r_aload_n (pc := 0) hX dX7_build_0 rfl ?_
  refine r_getr (pc := 1) hX dX7_build_1 fl_X7_24 rfl (o_X7_k h) (o_X7_r0 h) ?_
  refine r_callV (Z := mX0_coverAll) (t := 0) (pc := 4) hX dX7_build_4 ml_X7_57 mX0_coverAll_w ⟨by decide, rfl⟩ (o_X0_k (o_X7_o0 h)) (sp_X0_coverAll (o_X7_o0 h) (by omega)) rfl rfl (Nat.le_of_ble_eq_true rfl) (by decide) rfl (Or.inl rfl) ?_
  refine r_aload_n (pc := 7) hX dX7_build_7 rfl ?_
  refine r_callV (Z := mX7_chooseAll) (t := 7) (pc := 8) hX dX7_build_8 ml_X7_60 mX7_chooseAll_w ⟨by decide, rfl⟩ (o_X7_k h) (sp_X7_chooseAll h) rfl rfl (Nat.le_of_ble_eq_true rfl) (by decide) rfl (Or.inl rfl) ?_
  refine r_aload_n (pc := 11) hX dX7_build_11 rfl ?_
  refine r_getr (pc := 12) hX dX7_build_12 fl_X7_31 rfl (o_X7_k h) (o_X7_r1 h) ?_
  refine r_callV (Z := mX3_clear) (t := 3) (pc := 15) hX dX7_build_15 ml_X7_63 mX3_clear_w ⟨by decide, rfl⟩ (o_X3_k (o_X7_o1 h)) (sp_X3_clear (o_X7_o1 h)) rfl rfl (Nat.le_of_ble_eq_true rfl) (by decide) rfl (Or.inl rfl) ?_
  refine r_aload_n (pc := 18) hX dX7_build_18 rfl ?_
  refine r_callV (Z := mX7_addEntry) (t := 7) (pc := 19) hX dX7_build_19 ml_X7_66 mX7_addEntry_w ⟨by decide, rfl⟩ (o_X7_k h) (sp_X7_addEntry h) rfl rfl (Nat.le_of_ble_eq_true rfl) (by decide) rfl (Or.inl rfl) ?_
  refine r_iconst (pc := 22) hX 0 dX7_build_22 (by decide) ?_
  refine r_istore_n (pc := 23) hX (L' := [_, _, _, _, _]) dX7_build_23 rfl rfl (Nat.le_of_ble_eq_true rfl) ?_
  have hL24 : ∀ (w1 : Nat) (i1 : Int32) (J1 : im_I), J1 (a + 34) = chooseAll_ (coverAll_ I (a + 1) m) a (a + 34) → cnt i1 (4) = w1 → loopN w1 i1 (buildBlock_ a m p0) J1 = loopN (cnt (0) (4)) (0) (buildBlock_ a m p0) (buildFirst_ I a m) → im_E X k (im_Q X k (none) (S, build_ I a m p0)) 24 [some (.ref a), some (.int p0), some (.int i1), none, none] [] S J1 := by
    intro w1
    induction w1 with
    | zero =>
      intro i1 J1 hf1 hm1 hR1
      refine r_iload_n (pc := 24) hX dX7_build_24 rfl ?_
      refine r_iconst (pc := 25) hX 4 dX7_build_25 (by decide) ?_
      refine r_icmp_ge (pc := 26) hX 99 dX7_build_26 (by decide) (fun c26 => ?_) (fun c26 => ?_)
      · have c26d := Int32.not_lt.mpr c26
        rw [loopN_0] at hR1
        subst hR1
        refine r_mem (I' := buildAll_ I a m p0) (by simp only [buildAll_, loopC]) ?_
        refine r_aload_n (pc := 99) hX dX7_build_99 rfl ?_
        refine r_getr (pc := 100) hX dX7_build_100 fl_X7_44 rfl (o_X7_k h) (o_X7_r3 h) ?_
        refine r_iconst (pc := 103) hX 4 dX7_build_103 (by decide) ?_
        refine r_aload_n (pc := 104) hX dX7_build_104 rfl ?_
        refine r_getr (pc := 105) hX dX7_build_105 fl_X7_31 rfl (o_X7_k h) (o_X7_r1 h) ?_
        refine r_geti (pc := 108) hX dX7_build_108 fl_X7_73 rfl (o_X3_k (o_X7_o1 h)) ?_
        refine r_callSN (Z := mX11_put) (pc := 111) hX dX7_build_111 mn_X7_77 mX11_put_w (sp_X11_put (o_X7_a3 h)) rfl rfl (Nat.le_of_ble_eq_true rfl) (by decide) rfl (Or.inl rfl) ?_
        refine r_aload_n (pc := 114) hX dX7_build_114 rfl ?_
        refine r_getr (pc := 115) hX dX7_build_115 fl_X7_40 rfl (o_X7_k h) (o_X7_r2 h) ?_
        refine r_aload_n (pc := 118) hX dX7_build_118 rfl ?_
        refine r_getr (pc := 119) hX dX7_build_119 fl_X7_31 rfl (o_X7_k h) (o_X7_r1 h) ?_
        refine r_aload_n (pc := 122) hX dX7_build_122 rfl ?_
        refine r_getr (pc := 123) hX dX7_build_123 fl_X7_44 rfl (o_X7_k h) (o_X7_r3 h) ?_
        refine r_callV (Z := mX4_measure) (t := 4) (pc := 126) hX dX7_build_126 ml_X7_91 mX4_measure_w ⟨by decide, rfl⟩ (o_X4_k (o_X7_o2 h)) (sp_X4_measure (o_X7_o2 h) (o_X7_o1 h) (o_X7_a3 h) (by decide) (by omega)) rfl rfl (Nat.le_of_ble_eq_true rfl) (by decide) rfl (Or.inl rfl) ?_
        exact r_return (pc := 129) hX dX7_build_129 rfl rfl (by first | with_reducible rfl | (simp only [build_, eq_true c26, eq_false c26d, ↓reduceIte, if_true, if_false, decide_true, decide_false, eq_self, b2i_t, b2i_f, Bool.false_eq_true, and_true, true_and, and_false, false_and, or_true, true_or, or_false, false_or, not_true_eq_false, not_false_eq_true] <;> rfl) | simp [build_, eq_true c26, eq_false c26d])
      · have c26d := Int32.not_le.mp c26
        exact (cnt_ex hm1  c26).elim
    | succ w1 ih1 =>
      intro i1 J1 hf1 hm1 hR1
      refine r_iload_n (pc := 24) hX dX7_build_24 rfl ?_
      refine r_iconst (pc := 25) hX 4 dX7_build_25 (by decide) ?_
      refine r_icmp_ge (pc := 26) hX 99 dX7_build_26 (by decide) (fun c26 => ?_) (fun c26 => ?_)
      · have c26d := Int32.not_lt.mpr c26
        exact (cnt_go hm1  c26).elim
      · have c26d := Int32.not_le.mp c26
        refine r_aload_n (pc := 29) hX dX7_build_29 rfl ?_
        refine r_getr (pc := 30) hX dX7_build_30 fl_X7_51 rfl (o_X7_k h) (o_X7_r7 h) ?_
        refine r_iload_n (pc := 33) hX dX7_build_33 rfl ?_
        refine r_callSN (Z := mX11_at) (pc := 34) hX dX7_build_34 mn_X7_69 mX11_at_w (sp_X11_at (o_X7_a7 h)) rfl rfl (Nat.le_of_ble_eq_true rfl) (by decide) rfl (Or.inl rfl) ?_
        refine r_istore_n (pc := 37) hX (L' := [_, _, _, _, _]) dX7_build_37 rfl rfl (Nat.le_of_ble_eq_true rfl) ?_
        refine r_aload_n (pc := 38) hX dX7_build_38 rfl ?_
        refine r_getr (pc := 39) hX dX7_build_39 fl_X7_51 rfl (o_X7_k h) (o_X7_r7 h) ?_
        refine r_iload_n (pc := 42) hX dX7_build_42 rfl ?_
        refine r_iconst (pc := 43) hX 1 dX7_build_43 (by decide) ?_
        refine r_iadd (pc := 44) hX dX7_build_44 ?_
        refine r_callSN (Z := mX11_at) (pc := 45) hX dX7_build_45 mn_X7_69 mX11_at_w (sp_X11_at (o_X7_a7 h)) rfl rfl (Nat.le_of_ble_eq_true rfl) (by decide) rfl (Or.inl rfl) ?_
        refine r_istore (pc := 48) hX (L' := [_, _, _, _, _]) dX7_build_48 rfl rfl (Nat.le_of_ble_eq_true rfl) ?_
        refine r_aload_n (pc := 50) hX dX7_build_50 rfl ?_
        refine r_getr (pc := 51) hX dX7_build_51 fl_X7_44 rfl (o_X7_k h) (o_X7_r3 h) ?_
        refine r_iload_n (pc := 54) hX dX7_build_54 rfl ?_
        refine r_aload_n (pc := 55) hX dX7_build_55 rfl ?_
        refine r_getr (pc := 56) hX dX7_build_56 fl_X7_31 rfl (o_X7_k h) (o_X7_r1 h) ?_
        refine r_geti (pc := 59) hX dX7_build_59 fl_X7_73 rfl (o_X3_k (o_X7_o1 h)) ?_
        have hf9 : J1 (a + 34) = _ := hf1
        refine r_callSN (Z := mX11_put) (pc := 62) hX dX7_build_62 mn_X7_77 mX11_put_w (sp_X11_put (o_X7_a3 h)) rfl rfl (Nat.le_of_ble_eq_true rfl) (by decide) rfl (Or.inl rfl) ?_
        refine r_aload_n (pc := 65) hX dX7_build_65 rfl ?_
        refine r_iload_n (pc := 66) hX dX7_build_66 rfl ?_
        refine r_iload (pc := 67) hX dX7_build_67 rfl ?_
        refine r_callV (Z := mX7_measureHeights) (t := 7) (pc := 69) hX dX7_build_69 ml_X7_81 mX7_measureHeights_w ⟨by decide, rfl⟩ (o_X7_k h) (sp_X7_measureHeights h (by rw [show J1 (a + 34) = _ from hf1]; exact hs i1)) rfl rfl (Nat.le_of_ble_eq_true rfl) (by decide) rfl (Or.inl rfl) ?_
        refine r_iload_n (pc := 72) hX dX7_build_72 rfl ?_
        refine r_if_eq (pc := 73) hX 86 dX7_build_73 (by decide) (fun c73 => ?_) (fun c73 => ?_)
        · refine r_aload_n (pc := 86) hX dX7_build_86 rfl ?_
          refine r_iload_n (pc := 87) hX dX7_build_87 rfl ?_
          refine r_iload (pc := 88) hX dX7_build_88 rfl ?_
          refine r_callV (Z := mX7_placeAsChosen) (t := 7) (pc := 90) hX dX7_build_90 ml_X7_88 mX7_placeAsChosen_w ⟨by decide, rfl⟩ (o_X7_k h) (sp_X7_placeAsChosen h) rfl rfl (Nat.le_of_ble_eq_true rfl) (by decide) rfl (Or.inl rfl) ?_
          refine r_iinc (pc := 93) hX 1 (L' := [_, _, _, _, _]) dX7_build_93 rfl (by decide) rfl rfl ?_
          refine r_goto (pc := 96) hX (tgt := 24) dX7_build_96 (by decide) ?_
          refine r_weak (L' := [some _, some _, some _, none, none]) (And.intro rfl (And.intro rfl (And.intro rfl trivial))) ?_
          refine r_mem (I' := (buildBlock_ a m p0) i1 J1) (by first | with_reducible rfl | (simp only [buildBlock_, eq_false c26, eq_true c26d, eq_true c73, ↓reduceIte, if_true, if_false, decide_true, decide_false, eq_self, b2i_t, b2i_f, Bool.false_eq_true, and_true, true_and, and_false, false_and, or_true, true_or, or_false, false_or, not_true_eq_false, not_false_eq_true] <;> rfl) | simp [buildBlock_, eq_false c26, eq_true c26d, eq_true c73]) ?_
          exact ih1 _ _ ((buildBlock_fr (by omega)).trans hf1) (cnt_nx hm1) (loopN_s.symm.trans hR1)
        · refine r_aload_n (pc := 76) hX dX7_build_76 rfl ?_
          refine r_iload_n (pc := 77) hX dX7_build_77 rfl ?_
          refine r_iload (pc := 78) hX dX7_build_78 rfl ?_
          refine r_callV (Z := mX7_placeByHeight) (t := 7) (pc := 80) hX dX7_build_80 ml_X7_85 mX7_placeByHeight_w ⟨by decide, rfl⟩ (o_X7_k h) (sp_X7_placeByHeight h) rfl rfl (Nat.le_of_ble_eq_true rfl) (by decide) rfl (Or.inl rfl) ?_
          refine r_goto (pc := 83) hX (tgt := 93) dX7_build_83 (by decide) ?_
          refine r_iinc (pc := 93) hX 1 (L' := [_, _, _, _, _]) dX7_build_93 rfl (by decide) rfl rfl ?_
          refine r_goto (pc := 96) hX (tgt := 24) dX7_build_96 (by decide) ?_
          refine r_weak (L' := [some _, some _, some _, none, none]) (And.intro rfl (And.intro rfl (And.intro rfl trivial))) ?_
          refine r_mem (I' := (buildBlock_ a m p0) i1 J1) (by first | with_reducible rfl | (simp only [buildBlock_, eq_false c26, eq_true c26d, eq_false c73, ↓reduceIte, if_true, if_false, decide_true, decide_false, eq_self, b2i_t, b2i_f, Bool.false_eq_true, and_true, true_and, and_false, false_and, or_true, true_or, or_false, false_or, not_true_eq_false, not_false_eq_true] <;> rfl) | simp [buildBlock_, eq_false c26, eq_true c26d, eq_false c73]) ?_
          exact ih1 _ _ ((buildBlock_fr (by omega)).trans hf1) (cnt_nx hm1) (loopN_s.symm.trans hR1)
  refine r_mem (I' := buildFirst_ I a m) (by first | with_reducible rfl | (simp only [buildFirst_, ↓reduceIte, if_true, if_false, decide_true, decide_false, eq_self, b2i_t, b2i_f, Bool.false_eq_true, and_true, true_and, and_false, false_and, or_true, true_or, or_false, false_or, not_true_eq_false, not_false_eq_true] <;> rfl) | simp [buildFirst_]) ?_
  exact hL24 (cnt (0) (4)) (0) (buildFirst_ I a m) buildFirst_34 rfl rfl
