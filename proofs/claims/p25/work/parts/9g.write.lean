/-! the law's write, its loop, by gen23.py -/
set_option maxRecDepth 100000 in
set_option maxHeartbeats 1000000 in
theorem wr_pre {X : im_X} {k : im_K} {d : Nat} {Q : State → Prop} {S S1 : im_S} {I I1 : im_I} {rn nn rs ns mm i : Nat} {p v : Int32} (hX : im_Ok X k mL_write d) (hd : 8 < d) (hm : o_X11 S 2) (ho : o_X12 S 125 rn nn rs ns) (hkL : kL k < 2 ^ 31) (hip : ¬ Int32.ofNat i + p < 0) (hlt : ¬ Int32.ofNat mm ≤ Int32.ofNat i) (hmm0 : ¬ Int32.ofNat mm = 0)
    (hr1 : im_Runs (xl X) k 8 mL_tree [.ref 2, .ref 125, .ref 0, .int (11 * Int32.ofNat i + p), .int 3] (S, I) (some (.int v)) (S1, I1)) (hroom1 : im_n S1 - xn X ≤ (xR X).cells ∧ im_z S1 - xz X ≤ (xR X).slots)
    (h73 : im_E X k Q 73 [some (.ref 2), some (.ref 125), some (.ref 0), some (.int p), some (.int (Int32.ofNat mm)), some (.int (Int32.ofNat i)), some (.int (wrX_ k p (Int32.ofNat i))), some (.int (wrB_ k p (Int32.ofNat mm) (Int32.ofNat i))), some (.int (v)), none, none, none, none, none, none] [] S1 I1) : im_E X k Q 17 [some (.ref 2), some (.ref 125), some (.ref 0), some (.int p), some (.int (Int32.ofNat mm)), some (.int (Int32.ofNat i)), none, none, none, none, none, none, none, none, none] [] S I := by
  refine r_iload (pc := 17) hX dL_write_17 rfl ?_
  refine r_iload (pc := 19) hX dL_write_19 rfl ?_
  refine r_icmp_ge (pc := 21) hX 200 dL_write_21 (by decide) (fun c21 => ?_) (fun c21 => ?_)
  · have c21d := Int32.not_lt.mpr c21
    exact absurd c21 hlt
  · have c21d := Int32.not_le.mp c21
    refine r_aload_n (pc := 24) hX dL_write_24 rfl ?_
    refine r_iload (pc := 25) hX dL_write_25 rfl ?_
    refine r_iload_n (pc := 27) hX dL_write_27 rfl ?_
    refine r_iadd (pc := 28) hX dL_write_28 ?_
    refine r_bipush (pc := 29) hX 16 dL_write_29 (by decide) ?_
    refine r_irem (pc := 31) hX dL_write_31 (by decide) ?_
    refine r_callS (Z := mL_cell) (pc := 32) hX dL_write_32 ml_L_25 mL_cell_w (sp_L_cell  (rem_nn hip) hkL) rfl rfl (Nat.le_of_ble_eq_true rfl) (by omega) rfl (Or.inl rfl) ?_
    refine r_istore (pc := 35) hX (L' := [_, _, _, _, _, _, _, _, _, _, _, _, _, _, _]) dL_write_35 rfl rfl (Nat.le_of_ble_eq_true rfl) ?_
    refine r_iconst (pc := 37) hX 3 dL_write_37 (by decide) ?_
    refine r_iload (pc := 38) hX dL_write_38 rfl ?_
    refine r_iconst (pc := 40) hX 4 dL_write_40 (by decide) ?_
    refine r_imul (pc := 41) hX dL_write_41 ?_
    refine r_iload (pc := 42) hX dL_write_42 rfl ?_
    refine r_idiv (pc := 44) hX dL_write_44 hmm0 ?_
    refine r_iload (pc := 45) hX dL_write_45 rfl ?_
    refine r_iconst (pc := 47) hX 2 dL_write_47 (by decide) ?_
    refine r_callS (Z := mL_below) (pc := 48) hX dL_write_48 ml_L_31 mL_below_w (sp_L_below (by decide)) rfl rfl (Nat.le_of_ble_eq_true rfl) (by omega) rfl (Or.inl rfl) ?_
    refine r_iadd (pc := 51) hX dL_write_51 ?_
    refine r_mmin (pc := 52) hX dL_write_52 ml_L_42 w_mmin (Nat.le_of_ble_eq_true rfl) (by omega) rfl ?_
    refine r_istore (pc := 55) hX (L' := [_, _, _, _, _, _, _, _, _, _, _, _, _, _, _]) dL_write_55 rfl rfl (Nat.le_of_ble_eq_true rfl) ?_
    refine r_aload_n (pc := 57) hX dL_write_57 rfl ?_
    refine r_aload_n (pc := 58) hX dL_write_58 rfl ?_
    refine r_aload_n (pc := 59) hX dL_write_59 rfl ?_
    refine r_bipush (pc := 60) hX 11 dL_write_60 (by decide) ?_
    refine r_iload (pc := 62) hX dL_write_62 rfl ?_
    refine r_imul (pc := 64) hX dL_write_64 ?_
    refine r_iload_n (pc := 65) hX dL_write_65 rfl ?_
    refine r_iadd (pc := 66) hX dL_write_66 ?_
    refine r_iconst (pc := 67) hX 3 dL_write_67 (by decide) ?_
    refine r_callS (Z := mL_tree) (pc := 68) hX dL_write_68 ml_L_38 mL_tree_w ((fun (_ : o_X11 S 2) (_ : o_X12 S 125 rn nn rs ns) => hr1) hm ho ) rfl rfl (Nat.le_of_ble_eq_true rfl) (by omega) rfl (Or.inr hroom1) ?_
    refine r_istore (pc := 71) hX (L' := [_, _, _, _, _, _, _, _, _, _, _, _, _, _, _]) dL_write_71 rfl rfl (Nat.le_of_ble_eq_true rfl) ?_
    exact h73
set_option maxRecDepth 100000 in
theorem wr_skip {X : im_X} {k : im_K} {d : Nat} {Q : State → Prop} {S1 : im_S} {I1 : im_I} {mm i : Nat} {p x b : Int32} (hX : im_Ok X k mL_write d) (hi : i < 100) (hK : im_E X k Q 17 [some (.ref 2), some (.ref 125), some (.ref 0), some (.int p), some (.int (Int32.ofNat mm)), some (.int (Int32.ofNat (i + 1))), none, none, none, none, none, none, none, none, none] [] S1 I1) : im_E X k Q 73 [some (.ref 2), some (.ref 125), some (.ref 0), some (.int p), some (.int (Int32.ofNat mm)), some (.int (Int32.ofNat i)), some (.int x), some (.int b), some (.int (-1)), none, none, none, none, none, none] [] S1 I1 := by
  refine r_iload (pc := 73) hX dL_write_73 rfl ?_
  refine r_if_ge (pc := 75) hX 81 dL_write_75 (by decide) (fun c75 => ?_) (fun c75 => ?_)
  · have c75d := Int32.not_lt.mpr c75
    exact absurd c75 (by decide)
  · have c75d := Int32.not_le.mp c75
    refine r_goto (pc := 78) hX (tgt := 194) dL_write_78 (by decide) ?_
    refine r_iinc (pc := 194) hX 1 (L' := [_, _, _, _, _, _, _, _, _, _, _, _, _, _, _]) dL_write_194 rfl (by decide) rfl rfl ?_
    refine r_goto (pc := 197) hX (tgt := 17) dL_write_197 (by decide) ?_
    refine r_weak (L' := [some _, some _, some _, some _, some _, some _, none, none, none, none, none, none, none, none, none]) (And.intro rfl (And.intro rfl (And.intro rfl (And.intro rfl (And.intro rfl (And.intro rfl trivial)))))) ?_
    rw [ofNat_succ (by omega)]
    exact hK
set_option maxRecDepth 100000 in
set_option maxHeartbeats 1000000 in
theorem wr_main {X : im_X} {k : im_K} {d : Nat} {Q : State → Prop} {S1 : im_S} {I1 : im_I} {rn nn rs ns mm i bl j1 : Nat} {p : Int32} (hX : im_Ok X k mL_write d) (hd : 8 < d) (hmo : o_X11 S1 2) (hoo : o_X12 S1 125 rn nn rs ns) (hqs : rowsOk S1 rs ns) (hns31 : ns < 2 ^ 31) (hj1 : ¬ Int32.ofNat j1 < 0)
    (hw1 : isBelow_ (Int32.ofNat bl) 4 = true) (hw2 : isBelow_ (wrV_ k p (Int32.ofNat i)) 8 = true) (hw3 : isBelow_ (Int32.ofNat j1) (I1 3 0) = true) (hw4 : isLoose_ I1 3 (Int32.ofNat j1) = true) (hw5 : I1 3 1 < 24)
    (hst : statementsIn_ (forget_ I1 2) 3 (Int32.ofNat bl) + 1 = loopN (cnt 0 (Int32.ofNat ns)) 0 (there_ S1 I1 rs (Int32.ofNat bl)) 1)
    (h165 : im_E X k Q 165 [some (.ref 2), some (.ref 125), some (.ref 0), some (.int p), some (.int (Int32.ofNat mm)), some (.int (Int32.ofNat i)), some (.int (wrX_ k p (Int32.ofNat i))), some (.int (Int32.ofNat bl)), some (.int (Int32.ofNat j1)), some (.int (wrV_ k p (Int32.ofNat i))), none, none, none, none, none] [] S1 (addStatement_ (forget_ I1 2) 3 (Int32.ofNat bl) (wrV_ k p (Int32.ofNat i)) (Int32.ofNat j1))) : im_E X k Q 73 [some (.ref 2), some (.ref 125), some (.ref 0), some (.int p), some (.int (Int32.ofNat mm)), some (.int (Int32.ofNat i)), some (.int (wrX_ k p (Int32.ofNat i))), some (.int (Int32.ofNat bl)), some (.int (Int32.ofNat j1)), none, none, none, none, none, none] [] S1 I1 := by
  refine r_iload (pc := 73) hX dL_write_73 rfl ?_
  refine r_if_ge (pc := 75) hX 81 dL_write_75 (by decide) (fun c75 => ?_) (fun c75 => ?_)
  · have c75d := Int32.not_lt.mpr c75
    refine r_iload (pc := 81) hX dL_write_81 rfl ?_
    refine r_iconst (pc := 83) hX 3 dL_write_83 (by decide) ?_
    refine r_ishr (pc := 84) hX dL_write_84 ?_
    refine r_bipush (pc := 85) hX 6 dL_write_85 (by decide) ?_
    refine r_callS (Z := mL_below) (pc := 87) hX dL_write_87 ml_L_31 mL_below_w (sp_L_below (by decide)) rfl rfl (Nat.le_of_ble_eq_true rfl) (by omega) rfl (Or.inl rfl) ?_
    refine r_istore (pc := 90) hX (L' := [_, _, _, _, _, _, _, _, _, _, _, _, _, _, _]) dL_write_90 rfl rfl (Nat.le_of_ble_eq_true rfl) ?_
    refine r_iconst (pc := 92) hX 1 dL_write_92 (by decide) ?_
    refine r_istore (pc := 93) hX (L' := [_, _, _, _, _, _, _, _, _, _, _, _, _, _, _]) dL_write_93 rfl rfl (Nat.le_of_ble_eq_true rfl) ?_
    refine r_aload_n (pc := 95) hX dL_write_95 rfl ?_
    refine r_getr (pc := 96) hX dL_write_96 fl_L_47 rfl (o_X12_k hoo) (o_X12_r1 hoo) ?_
    refine r_astore (pc := 99) hX (L' := [_, _, _, _, _, _, _, _, _, _, _, _, _, _, _]) dL_write_99 rfl rfl (Nat.le_of_ble_eq_true rfl) ?_
    refine r_aload (pc := 101) hX dL_write_101 rfl ?_
    refine r_alenR (pc := 103) hX _ dL_write_103 (o_X12_a1 hoo) rfl ?_
    refine r_istore (pc := 104) hX (L' := [_, _, _, _, _, _, _, _, _, _, _, _, _, _, _]) dL_write_104 rfl rfl (Nat.le_of_ble_eq_true rfl) ?_
    refine r_iconst (pc := 106) hX 0 dL_write_106 (by decide) ?_
    refine r_istore (pc := 107) hX (L' := [_, _, _, _, _, _, _, _, _, _, _, _, _, _, _]) dL_write_107 rfl rfl (Nat.le_of_ble_eq_true rfl) ?_
    have hL109 : ∀ (w1 : Nat) (i1 : Int32) (J1 : Int32), ¬ i1 < 0 → cnt i1 (Int32.ofNat ns) = w1 → loopN w1 i1 (there_ S1 I1 rs (Int32.ofNat bl)) J1 = loopN (cnt (0) (Int32.ofNat ns)) (0) (there_ S1 I1 rs (Int32.ofNat bl)) (1) → im_E X k Q 109 [some (.ref 2), some (.ref 125), some (.ref 0), some (.int p), some (.int (Int32.ofNat mm)), some (.int (Int32.ofNat i)), some (.int (wrX_ k p (Int32.ofNat i))), some (.int (Int32.ofNat bl)), some (.int (Int32.ofNat j1)), some (.int (wrV_ k p (Int32.ofNat i))), some (.int J1), some (.ref rs), some (.int (Int32.ofNat ns)), some (.int i1), none] [] S1 I1 := by
      intro w1
      induction w1 with
      | zero =>
        intro i1 J1 hp1 hm1 hR1
        refine r_iload (pc := 109) hX dL_write_109 rfl ?_
        refine r_iload (pc := 111) hX dL_write_111 rfl ?_
        refine r_icmp_ge (pc := 113) hX 148 dL_write_113 (by decide) (fun c113 => ?_) (fun c113 => ?_)
        · have c113d := Int32.not_lt.mpr c113
          rw [loopN_0] at hR1
          subst hR1
          refine r_aload_n (pc := 148) hX dL_write_148 rfl ?_
          refine r_iload (pc := 149) hX dL_write_149 rfl ?_
          refine r_iload (pc := 151) hX dL_write_151 rfl ?_
          refine r_iload (pc := 153) hX dL_write_153 rfl ?_
          refine r_callV (Z := mX11_statement) (t := 11) (pc := 155) hX dL_write_155 ml_L_50 mX11_statement_w ⟨by decide, rfl⟩ (o_X11_k hmo) (sp_X11_statement hmo hw1 hw2 hw3 hw4 hw5) rfl rfl (Nat.le_of_ble_eq_true rfl) (by omega) rfl (Or.inl rfl) ?_
          refine r_iload (pc := 158) hX dL_write_158 rfl ?_
          refine r_icmp_eq (pc := 160) hX 165 dL_write_160 (by decide) (fun c160 => ?_) (fun c160 => ?_)
          · refine r_weak (L' := [some _, some _, some _, some _, some _, some _, some _, some _, some _, some _, none, none, none, none, none]) (And.intro rfl (And.intro rfl (And.intro rfl (And.intro rfl (And.intro rfl (And.intro rfl (And.intro rfl (And.intro rfl (And.intro rfl (And.intro rfl trivial)))))))))) ?_
            exact h165
          · exact absurd hst c160
        · have c113d := Int32.not_le.mp c113
          exact (cnt_ex hm1  c113).elim
      | succ w1 ih1 =>
        intro i1 J1 hp1 hm1 hR1
        refine r_iload (pc := 109) hX dL_write_109 rfl ?_
        refine r_iload (pc := 111) hX dL_write_111 rfl ?_
        refine r_icmp_ge (pc := 113) hX 148 dL_write_113 (by decide) (fun c113 => ?_) (fun c113 => ?_)
        · have c113d := Int32.not_lt.mpr c113
          exact (cnt_go hm1  c113).elim
        · have c113d := Int32.not_le.mp c113
          refine r_aload (pc := 116) hX dL_write_116 rfl ?_
          refine r_iload (pc := 118) hX dL_write_118 rfl ?_
          refine r_aald (pc := 120) hX dL_write_120 (o_X12_a1 hoo) (im_vp hp1 c113 hns31) (hqs _ (vp_nat (im_vp hp1 c113 hns31))).1 ?_
          refine r_astore (pc := 121) hX (L' := [_, _, _, _, _, _, _, _, _, _, _, _, _, _, _]) dL_write_121 rfl rfl (Nat.le_of_ble_eq_true rfl) ?_
          refine r_iload (pc := 123) hX dL_write_123 rfl ?_
          refine r_aload (pc := 125) hX dL_write_125 rfl ?_
          refine r_iconst (pc := 127) hX 0 dL_write_127 (by decide) ?_
          refine r_ialdc (pc := 128) hX 0 rfl dL_write_128 (hqs _ (vp_nat (im_vp hp1 c113 hns31))).2 (vp_in3 _ _ (by decide)) ?_
          refine r_iload (pc := 129) hX dL_write_129 rfl ?_
          refine r_icmp_ne (pc := 131) hX 138 dL_write_131 (by decide) (fun c131 => ?_) (fun c131 => ?_)
          · refine r_iconst (pc := 138) hX 0 dL_write_138 (by decide) ?_
            refine r_iadd (pc := 139) hX dL_write_139 ?_
            refine r_istore (pc := 140) hX (L' := [_, _, _, _, _, _, _, _, _, _, _, _, _, _, _]) dL_write_140 rfl rfl (Nat.le_of_ble_eq_true rfl) ?_
            refine r_iinc (pc := 142) hX 1 (L' := [_, _, _, _, _, _, _, _, _, _, _, _, _, _, _]) dL_write_142 rfl (by decide) rfl rfl ?_
            refine r_goto (pc := 145) hX (tgt := 109) dL_write_145 (by decide) ?_
            refine r_weak (L' := [some _, some _, some _, some _, some _, some _, some _, some _, some _, some _, some _, some _, some _, some _, none]) (And.intro rfl (And.intro rfl (And.intro rfl (And.intro rfl (And.intro rfl (And.intro rfl (And.intro rfl (And.intro rfl (And.intro rfl (And.intro rfl (And.intro rfl (And.intro rfl (And.intro rfl (And.intro rfl trivial)))))))))))))) ?_
            exact ih1 _ _ (nneg_step hp1 c113) (cnt_nx hm1) (by refine Eq.trans (congrArg (loopN w1 (i1 + 1) (there_ S1 I1 rs (Int32.ofNat bl))) ?_) (loopN_s.symm.trans hR1); exact (by first | with_reducible rfl | (simp only [there_, rowAt, eq_true c75, eq_false c75d, eq_false c113, eq_true c113d, eq_false c131, ↓reduceIte, if_true, if_false, decide_true, decide_false, eq_self, b2i_t, b2i_f, Bool.false_eq_true, and_true, true_and, and_false, false_and, or_true, true_or, or_false, false_or, not_true_eq_false, not_false_eq_true] <;> rfl) | simp [there_, rowAt, eq_true c75, eq_false c75d, eq_false c113, eq_true c113d, eq_false c131]))
          · refine r_iconst (pc := 134) hX 1 dL_write_134 (by decide) ?_
            refine r_goto (pc := 135) hX (tgt := 139) dL_write_135 (by decide) ?_
            refine r_iadd (pc := 139) hX dL_write_139 ?_
            refine r_istore (pc := 140) hX (L' := [_, _, _, _, _, _, _, _, _, _, _, _, _, _, _]) dL_write_140 rfl rfl (Nat.le_of_ble_eq_true rfl) ?_
            refine r_iinc (pc := 142) hX 1 (L' := [_, _, _, _, _, _, _, _, _, _, _, _, _, _, _]) dL_write_142 rfl (by decide) rfl rfl ?_
            refine r_goto (pc := 145) hX (tgt := 109) dL_write_145 (by decide) ?_
            refine r_weak (L' := [some _, some _, some _, some _, some _, some _, some _, some _, some _, some _, some _, some _, some _, some _, none]) (And.intro rfl (And.intro rfl (And.intro rfl (And.intro rfl (And.intro rfl (And.intro rfl (And.intro rfl (And.intro rfl (And.intro rfl (And.intro rfl (And.intro rfl (And.intro rfl (And.intro rfl (And.intro rfl trivial)))))))))))))) ?_
            exact ih1 _ _ (nneg_step hp1 c113) (cnt_nx hm1) (by refine Eq.trans (congrArg (loopN w1 (i1 + 1) (there_ S1 I1 rs (Int32.ofNat bl))) ?_) (loopN_s.symm.trans hR1); exact (by first | with_reducible rfl | (simp only [there_, rowAt, eq_true c75, eq_false c75d, eq_false c113, eq_true c113d, eq_true c131, ↓reduceIte, if_true, if_false, decide_true, decide_false, eq_self, b2i_t, b2i_f, Bool.false_eq_true, and_true, true_and, and_false, false_and, or_true, true_or, or_false, false_or, not_true_eq_false, not_false_eq_true] <;> rfl) | simp [there_, rowAt, eq_true c75, eq_false c75d, eq_false c113, eq_true c113d, eq_true c131]))
    exact hL109 (cnt (0) (Int32.ofNat ns)) (0) (1) (by decide) rfl rfl
  · have c75d := Int32.not_le.mp c75
    exact absurd (Int32.not_lt.mp hj1) c75
set_option maxRecDepth 100000 in
theorem wr_tail {X : im_X} {k : im_K} {d : Nat} {Q : State → Prop} {S1 : im_S} {I1 : im_I} {rn nn rs ns mm i bl j1 b : Nat} {p x v : Int32} (hX : im_Ok X k mL_write d) (hd : 8 < d) (hi : i < 100) (ho : o_X12 S1 125 rn nn rs ns) (hro : rowsOk S1 rs ns) (hns : ns ≤ 24) (hb : im_n S1 + 2 = b)
    (hroom : im_n S1 + 2 - xn X ≤ (xR X).cells ∧ im_z S1 + 3 + (ns + 1) - xz X ≤ (xR X).slots)
    (hK : im_E X k Q 17 [some (.ref 2), some (.ref 125), some (.ref 0), some (.int p), some (.int (Int32.ofNat mm)), some (.int (Int32.ofNat (i + 1))), none, none, none, none, none, none, none, none, none] [] (stmtS_ S1 125 rs ns b) (rowI_ I1 b (Int32.ofNat bl) v (Int32.ofNat j1))) : im_E X k Q 165 [some (.ref 2), some (.ref 125), some (.ref 0), some (.int p), some (.int (Int32.ofNat mm)), some (.int (Int32.ofNat i)), some (.int x), some (.int (Int32.ofNat bl)), some (.int (Int32.ofNat j1)), some (.int v), none, none, none, none, none] [] S1 I1 := by
  have hrb : rs ≠ b := by
    obtain ⟨i, rfl, hi⟩ := im_k_lt (o_X12_a1 ho) (by omega)
    omega
  have hab : 125 ≠ b := by
    obtain ⟨i, e, hi⟩ := im_k_lt (o_X12_k ho) (by omega)
    omega
  have hb2 : im_n (im_alS S1 b 20 3) + 2 = b + 1 := by show im_n S1 + 1 + 2 = b + 1; omega
  refine r_aload_n (pc := 165) hX dL_write_165 rfl ?_
  refine r_aload_n (pc := 166) hX dL_write_166 rfl ?_
  refine r_getr (pc := 167) hX dL_write_167 fl_L_47 rfl (o_X12_k ho) (o_X12_r1 ho) ?_
  refine r_iconst (pc := 170) hX 3 dL_write_170 (by decide) ?_
  refine r_newa2 (pc := 171) hX b 3 hb dL_write_171 (by decide) (by decide) (by decide) ⟨by omega, by omega⟩ ?_
  have hk := kk_new (t := 20) (n := 3) hb
  have ho2 := o_X12_al (t := 20) (n := 3) hb ho hab
  have hro2 := rowsOk_al (t := 20) (n := 3) hb hrb hro
  refine r_dup (pc := 173) hX dL_write_173 rfl ?_
  refine r_iconst (pc := 174) hX 0 dL_write_174 (by decide) ?_
  refine r_iload (pc := 175) hX dL_write_175 rfl ?_
  refine r_iast (pc := 177) hX dL_write_177 hk (vp_in3 _ _ (by decide)) ?_
  refine r_dup (pc := 178) hX dL_write_178 rfl ?_
  refine r_iconst (pc := 179) hX 1 dL_write_179 (by decide) ?_
  refine r_iload (pc := 180) hX dL_write_180 rfl ?_
  refine r_iast (pc := 182) hX dL_write_182 hk (vp_in3 _ _ (by decide)) ?_
  refine r_dup (pc := 183) hX dL_write_183 rfl ?_
  refine r_iconst (pc := 184) hX 2 dL_write_184 (by decide) ?_
  refine r_iload (pc := 185) hX dL_write_185 rfl ?_
  refine r_iast (pc := 187) hX dL_write_187 hk (vp_in3 _ _ (by decide)) ?_
  refine r_callS (Z := mX12_with) (pc := 188) hX dL_write_188 ml_L_21 mX12_with_w (sp_X12_with (o_X12_a1 ho2) hk hro2 hb2 (by omega)) rfl rfl (Nat.le_of_ble_eq_true rfl) (by omega) rfl (Or.inr ⟨(show im_n S1 + 1 + 1 - xn X ≤ (xR X).cells by omega), (show im_z S1 + 3 + (ns + 1) - xz X ≤ (xR X).slots by omega)⟩) ?_
  refine r_putr (pc := 191) hX dL_write_191 fl_L_47 (Or.inl rfl) rfl (show im_k (withS_ (im_alS S1 b 20 3) rs b ns (b + 1)) 125 = (12, im_N 12) from kk_al hb2 (o_X12_k ho2) (by decide)) ?_
  refine r_iinc (pc := 194) hX 1 (L' := [_, _, _, _, _, _, _, _, _, _, _, _, _, _, _]) dL_write_194 rfl (by decide) rfl rfl ?_
  refine r_goto (pc := 197) hX (tgt := 17) dL_write_197 (by decide) ?_
  refine r_weak (L' := [some _, some _, some _, some _, some _, some _, none, none, none, none, none, none, none, none, none]) (And.intro rfl (And.intro rfl (And.intro rfl (And.intro rfl (And.intro rfl (And.intro rfl trivial)))))) ?_
  rw [ofNat_succ (by omega)]
  exact hK
