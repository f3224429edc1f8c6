/-! the law's machine, by gen20.py -/
theorem p_nn {p c : Int32} (h : ¬ p < 0) (hc : 0 ≤ c ∧ c ≤ 1000) (h3 : p < 2000000) : ¬ p + c < 0 := by
  have c1 := Int32.le_iff_toInt_le.mp (Int32.not_lt.mp h)
  have c2 := Int32.lt_iff_toInt_lt.mp h3
  have c3 := Int32.le_iff_toInt_le.mp hc.1
  have c4 := Int32.le_iff_toInt_le.mp hc.2
  have e0 : (0 : Int32).toInt = 0 := by decide
  have e2 : (2000000 : Int32).toInt = 2000000 := by decide
  have e3 : (1000 : Int32).toInt = 1000 := by decide
  rw [Int32.lt_iff_toInt_lt, Int32.toInt_add, Int.bmod_eq_of_le (by omega) (by omega)]
  omega
theorem lt8 {i : Int32} (h : ¬ 8 ≤ i) : i < 2000000 := by
  have c2 := Int32.lt_iff_toInt_lt.mp (Int32.not_le.mp h)
  have e8 : (8 : Int32).toInt = 8 := by decide
  have e2 : (2000000 : Int32).toInt = 2000000 := by decide
  rw [Int32.lt_iff_toInt_lt]
  omega
set_option maxRecDepth 100000 in
set_option maxHeartbeats 1000000 in
theorem sp_L_machine {l : Launch} {k : im_K} {S : im_S} {I : im_I} {a rn nn rs ns : Nat} {p3 : Int32} (hm : o_X11 S 2) (ho : o_X12 S a rn nn rs ns) (ha : 16 < a) (hp : ¬ p3 < 0) (hp3 : p3 < 2000000) (hkL : kL k < 2 ^ 31)
    (hwas : I 15 0 = I a 4) (hls : latSame a (mach1_ k a p3 I)) (hmk : isMachine_ ((mach0_ k a p3 I) a 4) ((mach0_ k a p3 I) a 5) = true) (hms0 : ¬ (mach0_ k a p3 I) a 6 < 0) (hms1 : (mach0_ k a p3 I) a 6 ≤ 99) (hmf : (mach0_ k a p3 I) a 7 = 0 ∨ (mach0_ k a p3 I) a 7 = 1) (hmt : (mach0_ k a p3 I) a 8 = 0 ∨ (mach0_ k a p3 I) a 8 = 1)
    (latV_ge : ∀ (k : im_K) (i : Int32), ¬ latV_ k i < 1) (latV_le : ∀ (k : im_K) (i : Int32), latV_ k i ≤ 9) :
    im_Runs l k 3 mL_machine [.ref 2, .ref a, .ref 0, .int p3] (S, I) (some (.int 1)) (S, mach_ k a p3 I) := by
  refine im_run (by decide +kernel) ⟨Nat.le_refl _, Nat.le_refl _⟩ (Nat.le_of_ble_eq_true rfl) ?_
  intro X hl hX hxn hxz hxc hxs
  subst hl
  change im_E X k _ 0 [some (.ref 2), some (.ref a), some (.ref 0), some (.int p3), none, none, none] [] S I
  refine r_aload_n (pc := 0) hX dL_machine_0 rfl ?_
  refine r_geti (pc := 1) hX dL_machine_1 fl_L_70 rfl (o_X12_k ho) ?_
  refine r_istore (pc := 4) hX (L' := [_, _, _, _, _, _, _]) dL_machine_4 rfl rfl (Nat.le_of_ble_eq_true rfl) ?_
  refine r_aload_n (pc := 6) hX dL_machine_6 rfl ?_
  refine r_iconst (pc := 7) hX 5 dL_machine_7 (by decide) ?_
  refine r_aload_n (pc := 8) hX dL_machine_8 rfl ?_
  refine r_iload_n (pc := 9) hX dL_machine_9 rfl ?_
  refine r_bipush (pc := 10) hX 6 dL_machine_10 (by decide) ?_
  refine r_iadd (pc := 12) hX dL_machine_12 ?_
  refine r_callS (Z := mL_cell) (pc := 13) hX dL_machine_13 ml_L_25 mL_cell_w (sp_L_cell  (p_nn hp (by decide) hp3) hkL) rfl rfl (Nat.le_of_ble_eq_true rfl) (by decide) rfl (Or.inl rfl) ?_
  refine r_iconst (pc := 16) hX 2 dL_machine_16 (by decide) ?_
  refine r_ishr (pc := 17) hX dL_machine_17 ?_
  refine r_bipush (pc := 18) hX 7 dL_machine_18 (by decide) ?_
  refine r_callS (Z := mL_below) (pc := 20) hX dL_machine_20 ml_L_31 mL_below_w (sp_L_below (by decide)) rfl rfl (Nat.le_of_ble_eq_true rfl) (by decide) rfl (Or.inl rfl) ?_
  refine r_iadd (pc := 23) hX dL_machine_23 ?_
  refine r_puti (pc := 24) hX dL_machine_24 fl_L_70 rfl rfl (o_X12_k ho) ?_
  refine r_aload_n (pc := 27) hX dL_machine_27 rfl ?_
  refine r_aload_n (pc := 28) hX dL_machine_28 rfl ?_
  refine r_iload_n (pc := 29) hX dL_machine_29 rfl ?_
  refine r_bipush (pc := 30) hX 7 dL_machine_30 (by decide) ?_
  refine r_iadd (pc := 32) hX dL_machine_32 ?_
  refine r_callS (Z := mL_cell) (pc := 33) hX dL_machine_33 ml_L_25 mL_cell_w (sp_L_cell  (p_nn hp (by decide) hp3) hkL) rfl rfl (Nat.le_of_ble_eq_true rfl) (by decide) rfl (Or.inl rfl) ?_
  refine r_sipush (pc := 36) hX 256 dL_machine_36 (by decide) ?_
  refine r_callS (Z := mL_below) (pc := 39) hX dL_machine_39 ml_L_31 mL_below_w (sp_L_below (by decide)) rfl rfl (Nat.le_of_ble_eq_true rfl) (by decide) rfl (Or.inl rfl) ?_
  refine r_iconst (pc := 42) hX 1 dL_machine_42 (by decide) ?_
  refine r_aload_n (pc := 43) hX dL_machine_43 rfl ?_
  refine r_geti (pc := 44) hX dL_machine_44 fl_L_70 rfl (o_X12_k ho) ?_
  refine r_iconst (pc := 47) hX 3 dL_machine_47 (by decide) ?_
  refine r_isub (pc := 48) hX dL_machine_48 ?_
  refine r_ishl (pc := 49) hX dL_machine_49 ?_
  refine r_iconst (pc := 50) hX 4 dL_machine_50 (by decide) ?_
  refine r_isub (pc := 51) hX dL_machine_51 ?_
  refine r_iand (pc := 52) hX dL_machine_52 ?_
  refine r_puti (pc := 53) hX dL_machine_53 fl_L_73 rfl rfl (o_X12_k ho) ?_
  refine r_aload_n (pc := 56) hX dL_machine_56 rfl ?_
  refine r_aload_n (pc := 57) hX dL_machine_57 rfl ?_
  refine r_iload_n (pc := 58) hX dL_machine_58 rfl ?_
  refine r_bipush (pc := 59) hX 8 dL_machine_59 (by decide) ?_
  refine r_iadd (pc := 61) hX dL_machine_61 ?_
  refine r_callS (Z := mL_cell) (pc := 62) hX dL_machine_62 ml_L_25 mL_cell_w (sp_L_cell  (p_nn hp (by decide) hp3) hkL) rfl rfl (Nat.le_of_ble_eq_true rfl) (by decide) rfl (Or.inl rfl) ?_
  refine r_bipush (pc := 65) hX 25 dL_machine_65 (by decide) ?_
  refine r_callS (Z := mL_below) (pc := 67) hX dL_machine_67 ml_L_31 mL_below_w (sp_L_below (by decide)) rfl rfl (Nat.le_of_ble_eq_true rfl) (by decide) rfl (Or.inl rfl) ?_
  refine r_puti (pc := 70) hX dL_machine_70 fl_L_76 rfl rfl (o_X12_k ho) ?_
  refine r_aload_n (pc := 73) hX dL_machine_73 rfl ?_
  refine r_aload_n (pc := 74) hX dL_machine_74 rfl ?_
  refine r_iload_n (pc := 75) hX dL_machine_75 rfl ?_
  refine r_bipush (pc := 76) hX 9 dL_machine_76 (by decide) ?_
  refine r_iadd (pc := 78) hX dL_machine_78 ?_
  refine r_callS (Z := mL_cell) (pc := 79) hX dL_machine_79 ml_L_25 mL_cell_w (sp_L_cell  (p_nn hp (by decide) hp3) hkL) rfl rfl (Nat.le_of_ble_eq_true rfl) (by decide) rfl (Or.inl rfl) ?_
  refine r_iconst (pc := 82) hX 3 dL_machine_82 (by decide) ?_
  refine r_callS (Z := mL_below) (pc := 83) hX dL_machine_83 ml_L_31 mL_below_w (sp_L_below (by decide)) rfl rfl (Nat.le_of_ble_eq_true rfl) (by decide) rfl (Or.inl rfl) ?_
  refine r_if_le (pc := 86) hX 93 dL_machine_86 (by decide) (fun c86 => ?_) (fun c86 => ?_)
  · have c86d := Int32.not_lt.mpr c86
    refine r_iconst (pc := 93) hX 0 dL_machine_93 (by decide) ?_
    refine r_puti (pc := 94) hX dL_machine_94 fl_L_79 rfl (by first | rfl | decide) (o_X12_k ho) ?_
    refine r_aload_n (pc := 97) hX dL_machine_97 rfl ?_
    refine r_aload_n (pc := 98) hX dL_machine_98 rfl ?_
    refine r_iload_n (pc := 99) hX dL_machine_99 rfl ?_
    refine r_bipush (pc := 100) hX 10 dL_machine_100 (by decide) ?_
    refine r_iadd (pc := 102) hX dL_machine_102 ?_
    refine r_callS (Z := mL_cell) (pc := 103) hX dL_machine_103 ml_L_25 mL_cell_w (sp_L_cell  (p_nn hp (by decide) hp3) hkL) rfl rfl (Nat.le_of_ble_eq_true rfl) (by decide) rfl (Or.inl rfl) ?_
    refine r_iconst (pc := 106) hX 2 dL_machine_106 (by decide) ?_
    refine r_callS (Z := mL_below) (pc := 107) hX dL_machine_107 ml_L_31 mL_below_w (sp_L_below (by decide)) rfl rfl (Nat.le_of_ble_eq_true rfl) (by decide) rfl (Or.inl rfl) ?_
    refine r_if_ne (pc := 110) hX 117 dL_machine_110 (by decide) (fun c110 => ?_) (fun c110 => ?_)
    · refine r_iconst (pc := 117) hX 0 dL_machine_117 (by decide) ?_
      refine r_puti (pc := 118) hX dL_machine_118 fl_L_83 rfl (by first | rfl | decide) (o_X12_k ho) ?_
      refine r_mem (I' := (mach0_ k a p3 I)) (by first | with_reducible rfl | (simp only [mach0_, machR_, machK_, machS_, machF_, machT_, im_up_same, eq_true c86, eq_false c86d, eq_false c110, ↓reduceIte, if_true, if_false, decide_true, decide_false, eq_self, b2i_t, b2i_f, Bool.false_eq_true, and_true, true_and, and_false, false_and, or_true, true_or, or_false, false_or, not_true_eq_false, not_false_eq_true] <;> rfl) | simp [mach0_, machR_, machK_, machS_, machF_, machT_, im_up_same, eq_true c86, eq_false c86d, eq_false c110]) ?_
      refine r_aload_n (pc := 121) hX dL_machine_121 rfl ?_
      refine r_aload_n (pc := 122) hX dL_machine_122 rfl ?_
      refine r_geti (pc := 123) hX dL_machine_123 fl_L_70 rfl (o_X12_k ho) ?_
      refine r_aload_n (pc := 126) hX dL_machine_126 rfl ?_
      refine r_geti (pc := 127) hX dL_machine_127 fl_L_73 rfl (o_X12_k ho) ?_
      refine r_aload_n (pc := 130) hX dL_machine_130 rfl ?_
      refine r_geti (pc := 131) hX dL_machine_131 fl_L_76 rfl (o_X12_k ho) ?_
      refine r_aload_n (pc := 134) hX dL_machine_134 rfl ?_
      refine r_geti (pc := 135) hX dL_machine_135 fl_L_79 rfl (o_X12_k ho) ?_
      refine r_aload_n (pc := 138) hX dL_machine_138 rfl ?_
      refine r_geti (pc := 139) hX dL_machine_139 fl_L_83 rfl (o_X12_k ho) ?_
      refine r_callV (Z := mX11_machine) (t := 11) (pc := 142) hX dL_machine_142 ml_L_86 mX11_machine_w ⟨by decide, rfl⟩ (o_X11_k hm) (sp_X11_machine hm hmk hms0 hms1 hmf hmt) rfl rfl (Nat.le_of_ble_eq_true rfl) (by decide) rfl (Or.inl rfl) ?_
      refine r_iload (pc := 145) hX dL_machine_145 rfl ?_
      refine r_icmp_eq (pc := 147) hX 152 dL_machine_147 (by decide) (fun c147 => ?_) (fun c147 => ?_)
      · refine r_iconst (pc := 152) hX 0 dL_machine_152 (by decide) ?_
        refine r_istore (pc := 153) hX (L' := [_, _, _, _, _, _, _]) dL_machine_153 rfl rfl (Nat.le_of_ble_eq_true rfl) ?_
        have hL155 : ∀ (w1 : Nat) (i1 : Int32) (J1 : im_I), ¬ i1 < 0 → latSame a J1 → cnt i1 (8) = w1 → loopN w1 i1 (latStep_ k a) J1 = loopN (cnt (0) (8)) (0) (latStep_ k a) (mach1_ k a p3 I) → im_E X k (im_Q X k (some (.int 1)) (S, mach_ k a p3 I)) 155 [some (.ref 2), some (.ref a), some (.ref 0), some (.int p3), some (.int (I a 4)), some (.int i1), none] [] S J1 := by
          intro w1
          induction w1 with
          | zero =>
            intro i1 J1 hp1 hls1 hm1 hR1
            refine r_iload (pc := 155) hX dL_machine_155 rfl ?_
            refine r_bipush (pc := 157) hX 8 dL_machine_157 (by decide) ?_
            refine r_icmp_ge (pc := 159) hX 241 dL_machine_159 (by decide) (fun c159 => ?_) (fun c159 => ?_)
            · have c159d := Int32.not_lt.mpr c159
              rw [loopN_0] at hR1
              subst hR1
              refine r_iconst (pc := 241) hX 1 dL_machine_241 (by decide) ?_
              exact r_ireturn (pc := 242) hX dL_machine_242 rfl rfl (by first | with_reducible rfl | (simp only [mach0_, machR_, machK_, machS_, machF_, machT_, im_up_same, eq_true c86, eq_false c86d, eq_false c110, eq_true c147, eq_true c159, eq_false c159d, ↓reduceIte, if_true, if_false, decide_true, decide_false, eq_self, b2i_t, b2i_f, Bool.false_eq_true, and_true, true_and, and_false, false_and, or_true, true_or, or_false, false_or, not_true_eq_false, not_false_eq_true] <;> rfl) | simp [mach0_, machR_, machK_, machS_, machF_, machT_, im_up_same, eq_true c86, eq_false c86d, eq_false c110, eq_true c147, eq_true c159, eq_false c159d]) rfl
            · have c159d := Int32.not_le.mp c159
              exact (cnt_ex hm1  c159).elim
          | succ w1 ih1 =>
            intro i1 J1 hp1 hls1 hm1 hR1
            refine r_iload (pc := 155) hX dL_machine_155 rfl ?_
            refine r_bipush (pc := 157) hX 8 dL_machine_157 (by decide) ?_
            refine r_icmp_ge (pc := 159) hX 241 dL_machine_159 (by decide) (fun c159 => ?_) (fun c159 => ?_)
            · have c159d := Int32.not_lt.mpr c159
              exact (cnt_go hm1  c159).elim
            · have c159d := Int32.not_le.mp c159
              refine r_aload_n (pc := 162) hX dL_machine_162 rfl ?_
              refine r_iload (pc := 163) hX dL_machine_163 rfl ?_
              refine r_iconst (pc := 165) hX 2 dL_machine_165 (by decide) ?_
              refine r_iadd (pc := 166) hX dL_machine_166 ?_
              refine r_callS (Z := mL_cell) (pc := 167) hX dL_machine_167 ml_L_25 mL_cell_w (sp_L_cell  (p_nn hp1 (by decide) (lt8 c159)) hkL) rfl rfl (Nat.le_of_ble_eq_true rfl) (by decide) rfl (Or.inl rfl) ?_
              refine r_iconst (pc := 170) hX 5 dL_machine_170 (by decide) ?_
              refine r_ishr (pc := 171) hX dL_machine_171 ?_
              refine r_iconst (pc := 172) hX 3 dL_machine_172 (by decide) ?_
              refine r_callS (Z := mL_below) (pc := 173) hX dL_machine_173 ml_L_31 mL_below_w (sp_L_below (by decide)) rfl rfl (Nat.le_of_ble_eq_true rfl) (by decide) rfl (Or.inl rfl) ?_
              refine r_if_le (pc := 176) hX 182 dL_machine_176 (by decide) (fun c176 => ?_) (fun c176 => ?_)
              · have c176d := Int32.not_lt.mpr c176
                refine r_aload_n (pc := 182) hX dL_machine_182 rfl ?_
                refine r_getr (pc := 183) hX dL_machine_183 fl_L_89 rfl (o_X12_k ho) (o_X12_r3 ho) ?_
                refine r_iload (pc := 186) hX dL_machine_186 rfl ?_
                refine r_iald (pc := 188) hX dL_machine_188 (o_X12_a3 ho) (im_vp hp1 c159 (by decide)) ?_
                refine r_istore (pc := 189) hX (L' := [_, _, _, _, _, _, _]) dL_machine_189 rfl rfl (Nat.le_of_ble_eq_true rfl) ?_
                refine r_aload_n (pc := 191) hX dL_machine_191 rfl ?_
                refine r_getr (pc := 192) hX dL_machine_192 fl_L_89 rfl (o_X12_k ho) (o_X12_r3 ho) ?_
                refine r_iload (pc := 195) hX dL_machine_195 rfl ?_
                refine r_iconst (pc := 197) hX 1 dL_machine_197 (by decide) ?_
                refine r_aload_n (pc := 198) hX dL_machine_198 rfl ?_
                refine r_iload (pc := 199) hX dL_machine_199 rfl ?_
                refine r_iconst (pc := 201) hX 4 dL_machine_201 (by decide) ?_
                refine r_iadd (pc := 202) hX dL_machine_202 ?_
                refine r_callS (Z := mL_cell) (pc := 203) hX dL_machine_203 ml_L_25 mL_cell_w (sp_L_cell  (p_nn hp1 (by decide) (lt8 c159)) hkL) rfl rfl (Nat.le_of_ble_eq_true rfl) (by decide) rfl (Or.inl rfl) ?_
                refine r_iconst (pc := 206) hX 3 dL_machine_206 (by decide) ?_
                refine r_ishr (pc := 207) hX dL_machine_207 ?_
                refine r_bipush (pc := 208) hX 9 dL_machine_208 (by decide) ?_
                refine r_callS (Z := mL_below) (pc := 210) hX dL_machine_210 ml_L_31 mL_below_w (sp_L_below (by decide)) rfl rfl (Nat.le_of_ble_eq_true rfl) (by decide) rfl (Or.inl rfl) ?_
                refine r_iadd (pc := 213) hX dL_machine_213 ?_
                refine r_iast (pc := 214) hX dL_machine_214 (o_X12_a3 ho) (im_vp hp1 c159 (by decide)) ?_
                refine r_mem (I' := im_up J1 (a + 4) i1.toNatClampNeg (latV_ k i1)) rfl ?_
                refine r_aload_n (pc := 215) hX dL_machine_215 rfl ?_
                refine r_iload (pc := 216) hX dL_machine_216 rfl ?_
                refine r_aload_n (pc := 218) hX dL_machine_218 rfl ?_
                refine r_getr (pc := 219) hX dL_machine_219 fl_L_89 rfl (o_X12_k ho) (o_X12_r3 ho) ?_
                refine r_iload (pc := 222) hX dL_machine_222 rfl ?_
                refine r_iald (pc := 224) hX dL_machine_224 (o_X12_a3 ho) (im_vp hp1 c159 (by decide)) ?_
                rw [im_up_same]
                refine r_callV (Z := mX11_latency) (t := 11) (pc := 225) hX dL_machine_225 ml_L_92 mX11_latency_w ⟨by decide, rfl⟩ (o_X11_k hm) (sp_X11_latency hm (below_ok hp1 c159) (latV_ge k i1) (latV_le k i1)) rfl rfl (Nat.le_of_ble_eq_true rfl) (by decide) rfl (Or.inl rfl) ?_
                refine r_iload (pc := 228) hX dL_machine_228 rfl ?_
                refine r_icmp_eq (pc := 230) hX 235 dL_machine_230 (by decide) (fun c230 => ?_) (fun c230 => ?_)
                · refine r_iinc (pc := 235) hX 1 (L' := [_, _, _, _, _, _, _]) dL_machine_235 rfl (by decide) rfl rfl ?_
                  refine r_goto (pc := 238) hX (tgt := 155) dL_machine_238 (by decide) ?_
                  refine r_weak (L' := [some _, some _, some _, some _, some _, some _, none]) (And.intro rfl (And.intro rfl (And.intro rfl (And.intro rfl (And.intro rfl (And.intro rfl trivial)))))) ?_
                  refine r_mem (I' := (latStep_ k a) i1 J1) (by first | with_reducible rfl | (simp only [latStep_, eq_true c86, eq_false c86d, eq_false c110, eq_true c147, eq_false c159, eq_true c159d, eq_true c176, eq_false c176d, eq_true c230, ↓reduceIte, if_true, if_false, decide_true, decide_false, eq_self, b2i_t, b2i_f, Bool.false_eq_true, and_true, true_and, and_false, false_and, or_true, true_or, or_false, false_or, not_true_eq_false, not_false_eq_true] <;> rfl) | simp [latStep_, eq_true c86, eq_false c86d, eq_false c110, eq_true c147, eq_false c159, eq_true c159d, eq_true c176, eq_false c176d, eq_true c230]) ?_
                  exact ih1 _ _ (nneg_step hp1 c159) (latSame_step ha hp1 c159 hls1) (cnt_nx hm1) (loopN_s.symm.trans hR1)
                · exact absurd ((congrArg (fun r => at_ r 8 i1) (up_fr (show 16 ≠ a + 4 by omega))).trans (hls1 i1 hp1 c159)) c230
              · have c176d := Int32.not_le.mp c176
                refine r_goto (pc := 179) hX (tgt := 235) dL_machine_179 (by decide) ?_
                refine r_iinc (pc := 235) hX 1 (L' := [_, _, _, _, _, _, _]) dL_machine_235 rfl (by decide) rfl rfl ?_
                refine r_goto (pc := 238) hX (tgt := 155) dL_machine_238 (by decide) ?_
                refine r_mem (I' := (latStep_ k a) i1 J1) (by first | with_reducible rfl | (simp only [latStep_, eq_true c86, eq_false c86d, eq_false c110, eq_true c147, eq_false c159, eq_true c159d, eq_false c176, eq_true c176d, ↓reduceIte, if_true, if_false, decide_true, decide_false, eq_self, b2i_t, b2i_f, Bool.false_eq_true, and_true, true_and, and_false, false_and, or_true, true_or, or_false, false_or, not_true_eq_false, not_false_eq_true] <;> rfl) | simp [latStep_, eq_true c86, eq_false c86d, eq_false c110, eq_true c147, eq_false c159, eq_true c159d, eq_false c176, eq_true c176d]) ?_
                exact ih1 _ _ (nneg_step hp1 c159) (latSame_step ha hp1 c159 hls1) (cnt_nx hm1) (loopN_s.symm.trans hR1)
        refine r_mem (I' := mach1_ k a p3 I) rfl ?_
        exact hL155 (cnt (0) (8)) (0) (mach1_ k a p3 I) (by decide) hls rfl rfl
      · exact absurd ((congrFun (mach0_fr (by omega)) 0).trans hwas) c147
    · refine r_iconst (pc := 113) hX 1 dL_machine_113 (by decide) ?_
      refine r_goto (pc := 114) hX (tgt := 118) dL_machine_114 (by decide) ?_
      refine r_puti (pc := 118) hX dL_machine_118 fl_L_83 rfl (by first | rfl | decide) (o_X12_k ho) ?_
      refine r_mem (I' := (mach0_ k a p3 I)) (by first | with_reducible rfl | (simp only [mach0_, machR_, machK_, machS_, machF_, machT_, im_up_same, eq_true c86, eq_false c86d, eq_true c110, ↓reduceIte, if_true, if_false, decide_true, decide_false, eq_self, b2i_t, b2i_f, Bool.false_eq_true, and_true, true_and, and_false, false_and, or_true, true_or, or_false, false_or, not_true_eq_false, not_false_eq_true] <;> rfl) | simp [mach0_, machR_, machK_, machS_, machF_, machT_, im_up_same, eq_true c86, eq_false c86d, eq_true c110]) ?_
      refine r_aload_n (pc := 121) hX dL_machine_121 rfl ?_
      refine r_aload_n (pc := 122) hX dL_machine_122 rfl ?_
      refine r_geti (pc := 123) hX dL_machine_123 fl_L_70 rfl (o_X12_k ho) ?_
      refine r_aload_n (pc := 126) hX dL_machine_126 rfl ?_
      refine r_geti (pc := 127) hX dL_machine_127 fl_L_73 rfl (o_X12_k ho) ?_
      refine r_aload_n (pc := 130) hX dL_machine_130 rfl ?_
      refine r_geti (pc := 131) hX dL_machine_131 fl_L_76 rfl (o_X12_k ho) ?_
      refine r_aload_n (pc := 134) hX dL_machine_134 rfl ?_
      refine r_geti (pc := 135) hX dL_machine_135 fl_L_79 rfl (o_X12_k ho) ?_
      refine r_aload_n (pc := 138) hX dL_machine_138 rfl ?_
      refine r_geti (pc := 139) hX dL_machine_139 fl_L_83 rfl (o_X12_k ho) ?_
      refine r_callV (Z := mX11_machine) (t := 11) (pc := 142) hX dL_machine_142 ml_L_86 mX11_machine_w ⟨by decide, rfl⟩ (o_X11_k hm) (sp_X11_machine hm hmk hms0 hms1 hmf hmt) rfl rfl (Nat.le_of_ble_eq_true rfl) (by decide) rfl (Or.inl rfl) ?_
      refine r_iload (pc := 145) hX dL_machine_145 rfl ?_
      refine r_icmp_eq (pc := 147) hX 152 dL_machine_147 (by decide) (fun c147 => ?_) (fun c147 => ?_)
      · refine r_iconst (pc := 152) hX 0 dL_machine_152 (by decide) ?_
        refine r_istore (pc := 153) hX (L' := [_, _, _, _, _, _, _]) dL_machine_153 rfl rfl (Nat.le_of_ble_eq_true rfl) ?_
        have hL155 : ∀ (w1 : Nat) (i1 : Int32) (J1 : im_I), ¬ i1 < 0 → latSame a J1 → cnt i1 (8) = w1 → loopN w1 i1 (latStep_ k a) J1 = loopN (cnt (0) (8)) (0) (latStep_ k a) (mach1_ k a p3 I) → im_E X k (im_Q X k (some (.int 1)) (S, mach_ k a p3 I)) 155 [some (.ref 2), some (.ref a), some (.ref 0), some (.int p3), some (.int (I a 4)), some (.int i1), none] [] S J1 := by
          intro w1
          induction w1 with
          | zero =>
            intro i1 J1 hp1 hls1 hm1 hR1
            refine r_iload (pc := 155) hX dL_machine_155 rfl ?_
            refine r_bipush (pc := 157) hX 8 dL_machine_157 (by decide) ?_
            refine r_icmp_ge (pc := 159) hX 241 dL_machine_159 (by decide) (fun c159 => ?_) (fun c159 => ?_)
            · have c159d := Int32.not_lt.mpr c159
              rw [loopN_0] at hR1
              subst hR1
              refine r_iconst (pc := 241) hX 1 dL_machine_241 (by decide) ?_
              exact r_ireturn (pc := 242) hX dL_machine_242 rfl rfl (by first | with_reducible rfl | (simp only [mach0_, machR_, machK_, machS_, machF_, machT_, im_up_same, eq_true c86, eq_false c86d, eq_true c110, eq_true c147, eq_true c159, eq_false c159d, ↓reduceIte, if_true, if_false, decide_true, decide_false, eq_self, b2i_t, b2i_f, Bool.false_eq_true, and_true, true_and, and_false, false_and, or_true, true_or, or_false, false_or, not_true_eq_false, not_false_eq_true] <;> rfl) | simp [mach0_, machR_, machK_, machS_, machF_, machT_, im_up_same, eq_true c86, eq_false c86d, eq_true c110, eq_true c147, eq_true c159, eq_false c159d]) rfl
            · have c159d := Int32.not_le.mp c159
              exact (cnt_ex hm1  c159).elim
          | succ w1 ih1 =>
            intro i1 J1 hp1 hls1 hm1 hR1
            refine r_iload (pc := 155) hX dL_machine_155 rfl ?_
            refine r_bipush (pc := 157) hX 8 dL_machine_157 (by decide) ?_
            refine r_icmp_ge (pc := 159) hX 241 dL_machine_159 (by decide) (fun c159 => ?_) (fun c159 => ?_)
            · have c159d := Int32.not_lt.mpr c159
              exact (cnt_go hm1  c159).elim
            · have c159d := Int32.not_le.mp c159
              refine r_aload_n (pc := 162) hX dL_machine_162 rfl ?_
              refine r_iload (pc := 163) hX dL_machine_163 rfl ?_
              refine r_iconst (pc := 165) hX 2 dL_machine_165 (by decide) ?_
              refine r_iadd (pc := 166) hX dL_machine_166 ?_
              refine r_callS (Z := mL_cell) (pc := 167) hX dL_machine_167 ml_L_25 mL_cell_w (sp_L_cell  (p_nn hp1 (by decide) (lt8 c159)) hkL) rfl rfl (Nat.le_of_ble_eq_true rfl) (by decide) rfl (Or.inl rfl) ?_
              refine r_iconst (pc := 170) hX 5 dL_machine_170 (by decide) ?_
              refine r_ishr (pc := 171) hX dL_machine_171 ?_
              refine r_iconst (pc := 172) hX 3 dL_machine_172 (by decide) ?_
              refine r_callS (Z := mL_below) (pc := 173) hX dL_machine_173 ml_L_31 mL_below_w (sp_L_below (by decide)) rfl rfl (Nat.le_of_ble_eq_true rfl) (by decide) rfl (Or.inl rfl) ?_
              refine r_if_le (pc := 176) hX 182 dL_machine_176 (by decide) (fun c176 => ?_) (fun c176 => ?_)
              · have c176d := Int32.not_lt.mpr c176
                refine r_aload_n (pc := 182) hX dL_machine_182 rfl ?_
                refine r_getr (pc := 183) hX dL_machine_183 fl_L_89 rfl (o_X12_k ho) (o_X12_r3 ho) ?_
                refine r_iload (pc := 186) hX dL_machine_186 rfl ?_
                refine r_iald (pc := 188) hX dL_machine_188 (o_X12_a3 ho) (im_vp hp1 c159 (by decide)) ?_
                refine r_istore (pc := 189) hX (L' := [_, _, _, _, _, _, _]) dL_machine_189 rfl rfl (Nat.le_of_ble_eq_true rfl) ?_
                refine r_aload_n (pc := 191) hX dL_machine_191 rfl ?_
                refine r_getr (pc := 192) hX dL_machine_192 fl_L_89 rfl (o_X12_k ho) (o_X12_r3 ho) ?_
                refine r_iload (pc := 195) hX dL_machine_195 rfl ?_
                refine r_iconst (pc := 197) hX 1 dL_machine_197 (by decide) ?_
                refine r_aload_n (pc := 198) hX dL_machine_198 rfl ?_
                refine r_iload (pc := 199) hX dL_machine_199 rfl ?_
                refine r_iconst (pc := 201) hX 4 dL_machine_201 (by decide) ?_
                refine r_iadd (pc := 202) hX dL_machine_202 ?_
                refine r_callS (Z := mL_cell) (pc := 203) hX dL_machine_203 ml_L_25 mL_cell_w (sp_L_cell  (p_nn hp1 (by decide) (lt8 c159)) hkL) rfl rfl (Nat.le_of_ble_eq_true rfl) (by decide) rfl (Or.inl rfl) ?_
                refine r_iconst (pc := 206) hX 3 dL_machine_206 (by decide) ?_
                refine r_ishr (pc := 207) hX dL_machine_207 ?_
                refine r_bipush (pc := 208) hX 9 dL_machine_208 (by decide) ?_
                refine r_callS (Z := mL_below) (pc := 210) hX dL_machine_210 ml_L_31 mL_below_w (sp_L_below (by decide)) rfl rfl (Nat.le_of_ble_eq_true rfl) (by decide) rfl (Or.inl rfl) ?_
                refine r_iadd (pc := 213) hX dL_machine_213 ?_
                refine r_iast (pc := 214) hX dL_machine_214 (o_X12_a3 ho) (im_vp hp1 c159 (by decide)) ?_
                refine r_mem (I' := im_up J1 (a + 4) i1.toNatClampNeg (latV_ k i1)) rfl ?_
                refine r_aload_n (pc := 215) hX dL_machine_215 rfl ?_
                refine r_iload (pc := 216) hX dL_machine_216 rfl ?_
                refine r_aload_n (pc := 218) hX dL_machine_218 rfl ?_
                refine r_getr (pc := 219) hX dL_machine_219 fl_L_89 rfl (o_X12_k ho) (o_X12_r3 ho) ?_
                refine r_iload (pc := 222) hX dL_machine_222 rfl ?_
                refine r_iald (pc := 224) hX dL_machine_224 (o_X12_a3 ho) (im_vp hp1 c159 (by decide)) ?_
                rw [im_up_same]
                refine r_callV (Z := mX11_latency) (t := 11) (pc := 225) hX dL_machine_225 ml_L_92 mX11_latency_w ⟨by decide, rfl⟩ (o_X11_k hm) (sp_X11_latency hm (below_ok hp1 c159) (latV_ge k i1) (latV_le k i1)) rfl rfl (Nat.le_of_ble_eq_true rfl) (by decide) rfl (Or.inl rfl) ?_
                refine r_iload (pc := 228) hX dL_machine_228 rfl ?_
                refine r_icmp_eq (pc := 230) hX 235 dL_machine_230 (by decide) (fun c230 => ?_) (fun c230 => ?_)
                · refine r_iinc (pc := 235) hX 1 (L' := [_, _, _, _, _, _, _]) dL_machine_235 rfl (by decide) rfl rfl ?_
                  refine r_goto (pc := 238) hX (tgt := 155) dL_machine_238 (by decide) ?_
                  refine r_weak (L' := [some _, some _, some _, some _, some _, some _, none]) (And.intro rfl (And.intro rfl (And.intro rfl (And.intro rfl (And.intro rfl (And.intro rfl trivial)))))) ?_
                  refine r_mem (I' := (latStep_ k a) i1 J1) (by first | with_reducible rfl | (simp only [latStep_, eq_true c86, eq_false c86d, eq_true c110, eq_true c147, eq_false c159, eq_true c159d, eq_true c176, eq_false c176d, eq_true c230, ↓reduceIte, if_true, if_false, decide_true, decide_false, eq_self, b2i_t, b2i_f, Bool.false_eq_true, and_true, true_and, and_false, false_and, or_true, true_or, or_false, false_or, not_true_eq_false, not_false_eq_true] <;> rfl) | simp [latStep_, eq_true c86, eq_false c86d, eq_true c110, eq_true c147, eq_false c159, eq_true c159d, eq_true c176, eq_false c176d, eq_true c230]) ?_
                  exact ih1 _ _ (nneg_step hp1 c159) (latSame_step ha hp1 c159 hls1) (cnt_nx hm1) (loopN_s.symm.trans hR1)
                · exact absurd ((congrArg (fun r => at_ r 8 i1) (up_fr (show 16 ≠ a + 4 by omega))).trans (hls1 i1 hp1 c159)) c230
              · have c176d := Int32.not_le.mp c176
                refine r_goto (pc := 179) hX (tgt := 235) dL_machine_179 (by decide) ?_
                refine r_iinc (pc := 235) hX 1 (L' := [_, _, _, _, _, _, _]) dL_machine_235 rfl (by decide) rfl rfl ?_
                refine r_goto (pc := 238) hX (tgt := 155) dL_machine_238 (by decide) ?_
                refine r_mem (I' := (latStep_ k a) i1 J1) (by first | with_reducible rfl | (simp only [latStep_, eq_true c86, eq_false c86d, eq_true c110, eq_true c147, eq_false c159, eq_true c159d, eq_false c176, eq_true c176d, ↓reduceIte, if_true, if_false, decide_true, decide_false, eq_self, b2i_t, b2i_f, Bool.false_eq_true, and_true, true_and, and_false, false_and, or_true, true_or, or_false, false_or, not_true_eq_false, not_false_eq_true] <;> rfl) | simp [latStep_, eq_true c86, eq_false c86d, eq_true c110, eq_true c147, eq_false c159, eq_true c159d, eq_false c176, eq_true c176d]) ?_
                exact ih1 _ _ (nneg_step hp1 c159) (latSame_step ha hp1 c159 hls1) (cnt_nx hm1) (loopN_s.symm.trans hR1)
        refine r_mem (I' := mach1_ k a p3 I) rfl ?_
        exact hL155 (cnt (0) (8)) (0) (mach1_ k a p3 I) (by decide) hls rfl rfl
      · exact absurd ((congrFun (mach0_fr (by omega)) 0).trans hwas) c147
  · have c86d := Int32.not_le.mp c86
    refine r_iconst (pc := 89) hX 1 dL_machine_89 (by decide) ?_
    refine r_goto (pc := 90) hX (tgt := 94) dL_machine_90 (by decide) ?_
    refine r_puti (pc := 94) hX dL_machine_94 fl_L_79 rfl (by first | rfl | decide) (o_X12_k ho) ?_
    refine r_aload_n (pc := 97) hX dL_machine_97 rfl ?_
    refine r_aload_n (pc := 98) hX dL_machine_98 rfl ?_
    refine r_iload_n (pc := 99) hX dL_machine_99 rfl ?_
    refine r_bipush (pc := 100) hX 10 dL_machine_100 (by decide) ?_
    refine r_iadd (pc := 102) hX dL_machine_102 ?_
    refine r_callS (Z := mL_cell) (pc := 103) hX dL_machine_103 ml_L_25 mL_cell_w (sp_L_cell  (p_nn hp (by decide) hp3) hkL) rfl rfl (Nat.le_of_ble_eq_true rfl) (by decide) rfl (Or.inl rfl) ?_
    refine r_iconst (pc := 106) hX 2 dL_machine_106 (by decide) ?_
    refine r_callS (Z := mL_below) (pc := 107) hX dL_machine_107 ml_L_31 mL_below_w (sp_L_below (by decide)) rfl rfl (Nat.le_of_ble_eq_true rfl) (by decide) rfl (Or.inl rfl) ?_
    refine r_if_ne (pc := 110) hX 117 dL_machine_110 (by decide) (fun c110 => ?_) (fun c110 => ?_)
    · refine r_iconst (pc := 117) hX 0 dL_machine_117 (by decide) ?_
      refine r_puti (pc := 118) hX dL_machine_118 fl_L_83 rfl (by first | rfl | decide) (o_X12_k ho) ?_
      refine r_mem (I' := (mach0_ k a p3 I)) (by first | with_reducible rfl | (simp only [mach0_, machR_, machK_, machS_, machF_, machT_, im_up_same, eq_false c86, eq_true c86d, eq_false c110, ↓reduceIte, if_true, if_false, decide_true, decide_false, eq_self, b2i_t, b2i_f, Bool.false_eq_true, and_true, true_and, and_false, false_and, or_true, true_or, or_false, false_or, not_true_eq_false, not_false_eq_true] <;> rfl) | simp [mach0_, machR_, machK_, machS_, machF_, machT_, im_up_same, eq_false c86, eq_true c86d, eq_false c110]) ?_
      refine r_aload_n (pc := 121) hX dL_machine_121 rfl ?_
      refine r_aload_n (pc := 122) hX dL_machine_122 rfl ?_
      refine r_geti (pc := 123) hX dL_machine_123 fl_L_70 rfl (o_X12_k ho) ?_
      refine r_aload_n (pc := 126) hX dL_machine_126 rfl ?_
      refine r_geti (pc := 127) hX dL_machine_127 fl_L_73 rfl (o_X12_k ho) ?_
      refine r_aload_n (pc := 130) hX dL_machine_130 rfl ?_
      refine r_geti (pc := 131) hX dL_machine_131 fl_L_76 rfl (o_X12_k ho) ?_
      refine r_aload_n (pc := 134) hX dL_machine_134 rfl ?_
      refine r_geti (pc := 135) hX dL_machine_135 fl_L_79 rfl (o_X12_k ho) ?_
      refine r_aload_n (pc := 138) hX dL_machine_138 rfl ?_
      refine r_geti (pc := 139) hX dL_machine_139 fl_L_83 rfl (o_X12_k ho) ?_
      refine r_callV (Z := mX11_machine) (t := 11) (pc := 142) hX dL_machine_142 ml_L_86 mX11_machine_w ⟨by decide, rfl⟩ (o_X11_k hm) (sp_X11_machine hm hmk hms0 hms1 hmf hmt) rfl rfl (Nat.le_of_ble_eq_true rfl) (by decide) rfl (Or.inl rfl) ?_
      refine r_iload (pc := 145) hX dL_machine_145 rfl ?_
      refine r_icmp_eq (pc := 147) hX 152 dL_machine_147 (by decide) (fun c147 => ?_) (fun c147 => ?_)
      · refine r_iconst (pc := 152) hX 0 dL_machine_152 (by decide) ?_
        refine r_istore (pc := 153) hX (L' := [_, _, _, _, _, _, _]) dL_machine_153 rfl rfl (Nat.le_of_ble_eq_true rfl) ?_
        have hL155 : ∀ (w1 : Nat) (i1 : Int32) (J1 : im_I), ¬ i1 < 0 → latSame a J1 → cnt i1 (8) = w1 → loopN w1 i1 (latStep_ k a) J1 = loopN (cnt (0) (8)) (0) (latStep_ k a) (mach1_ k a p3 I) → im_E X k (im_Q X k (some (.int 1)) (S, mach_ k a p3 I)) 155 [some (.ref 2), some (.ref a), some (.ref 0), some (.int p3), some (.int (I a 4)), some (.int i1), none] [] S J1 := by
          intro w1
          induction w1 with
          | zero =>
            intro i1 J1 hp1 hls1 hm1 hR1
            refine r_iload (pc := 155) hX dL_machine_155 rfl ?_
            refine r_bipush (pc := 157) hX 8 dL_machine_157 (by decide) ?_
            refine r_icmp_ge (pc := 159) hX 241 dL_machine_159 (by decide) (fun c159 => ?_) (fun c159 => ?_)
            · have c159d := Int32.not_lt.mpr c159
              rw [loopN_0] at hR1
              subst hR1
              refine r_iconst (pc := 241) hX 1 dL_machine_241 (by decide) ?_
              exact r_ireturn (pc := 242) hX dL_machine_242 rfl rfl (by first | with_reducible rfl | (simp only [mach0_, machR_, machK_, machS_, machF_, machT_, im_up_same, eq_false c86, eq_true c86d, eq_false c110, eq_true c147, eq_true c159, eq_false c159d, ↓reduceIte, if_true, if_false, decide_true, decide_false, eq_self, b2i_t, b2i_f, Bool.false_eq_true, and_true, true_and, and_false, false_and, or_true, true_or, or_false, false_or, not_true_eq_false, not_false_eq_true] <;> rfl) | simp [mach0_, machR_, machK_, machS_, machF_, machT_, im_up_same, eq_false c86, eq_true c86d, eq_false c110, eq_true c147, eq_true c159, eq_false c159d]) rfl
            · have c159d := Int32.not_le.mp c159
              exact (cnt_ex hm1  c159).elim
          | succ w1 ih1 =>
            intro i1 J1 hp1 hls1 hm1 hR1
            refine r_iload (pc := 155) hX dL_machine_155 rfl ?_
            refine r_bipush (pc := 157) hX 8 dL_machine_157 (by decide) ?_
            refine r_icmp_ge (pc := 159) hX 241 dL_machine_159 (by decide) (fun c159 => ?_) (fun c159 => ?_)
            · have c159d := Int32.not_lt.mpr c159
              exact (cnt_go hm1  c159).elim
            · have c159d := Int32.not_le.mp c159
              refine r_aload_n (pc := 162) hX dL_machine_162 rfl ?_
              refine r_iload (pc := 163) hX dL_machine_163 rfl ?_
              refine r_iconst (pc := 165) hX 2 dL_machine_165 (by decide) ?_
              refine r_iadd (pc := 166) hX dL_machine_166 ?_
              refine r_callS (Z := mL_cell) (pc := 167) hX dL_machine_167 ml_L_25 mL_cell_w (sp_L_cell  (p_nn hp1 (by decide) (lt8 c159)) hkL) rfl rfl (Nat.le_of_ble_eq_true rfl) (by decide) rfl (Or.inl rfl) ?_
              refine r_iconst (pc := 170) hX 5 dL_machine_170 (by decide) ?_
              refine r_ishr (pc := 171) hX dL_machine_171 ?_
              refine r_iconst (pc := 172) hX 3 dL_machine_172 (by decide) ?_
              refine r_callS (Z := mL_below) (pc := 173) hX dL_machine_173 ml_L_31 mL_below_w (sp_L_below (by decide)) rfl rfl (Nat.le_of_ble_eq_true rfl) (by decide) rfl (Or.inl rfl) ?_
              refine r_if_le (pc := 176) hX 182 dL_machine_176 (by decide) (fun c176 => ?_) (fun c176 => ?_)
              · have c176d := Int32.not_lt.mpr c176
                refine r_aload_n (pc := 182) hX dL_machine_182 rfl ?_
                refine r_getr (pc := 183) hX dL_machine_183 fl_L_89 rfl (o_X12_k ho) (o_X12_r3 ho) ?_
                refine r_iload (pc := 186) hX dL_machine_186 rfl ?_
                refine r_iald (pc := 188) hX dL_machine_188 (o_X12_a3 ho) (im_vp hp1 c159 (by decide)) ?_
                refine r_istore (pc := 189) hX (L' := [_, _, _, _, _, _, _]) dL_machine_189 rfl rfl (Nat.le_of_ble_eq_true rfl) ?_
                refine r_aload_n (pc := 191) hX dL_machine_191 rfl ?_
                refine r_getr (pc := 192) hX dL_machine_192 fl_L_89 rfl (o_X12_k ho) (o_X12_r3 ho) ?_
                refine r_iload (pc := 195) hX dL_machine_195 rfl ?_
                refine r_iconst (pc := 197) hX 1 dL_machine_197 (by decide) ?_
                refine r_aload_n (pc := 198) hX dL_machine_198 rfl ?_
                refine r_iload (pc := 199) hX dL_machine_199 rfl ?_
                refine r_iconst (pc := 201) hX 4 dL_machine_201 (by decide) ?_
                refine r_iadd (pc := 202) hX dL_machine_202 ?_
                refine r_callS (Z := mL_cell) (pc := 203) hX dL_machine_203 ml_L_25 mL_cell_w (sp_L_cell  (p_nn hp1 (by decide) (lt8 c159)) hkL) rfl rfl (Nat.le_of_ble_eq_true rfl) (by decide) rfl (Or.inl rfl) ?_
                refine r_iconst (pc := 206) hX 3 dL_machine_206 (by decide) ?_
                refine r_ishr (pc := 207) hX dL_machine_207 ?_
                refine r_bipush (pc := 208) hX 9 dL_machine_208 (by decide) ?_
                refine r_callS (Z := mL_below) (pc := 210) hX dL_machine_210 ml_L_31 mL_below_w (sp_L_below (by decide)) rfl rfl (Nat.le_of_ble_eq_true rfl) (by decide) rfl (Or.inl rfl) ?_
                refine r_iadd (pc := 213) hX dL_machine_213 ?_
                refine r_iast (pc := 214) hX dL_machine_214 (o_X12_a3 ho) (im_vp hp1 c159 (by decide)) ?_
                refine r_mem (I' := im_up J1 (a + 4) i1.toNatClampNeg (latV_ k i1)) rfl ?_
                refine r_aload_n (pc := 215) hX dL_machine_215 rfl ?_
                refine r_iload (pc := 216) hX dL_machine_216 rfl ?_
                refine r_aload_n (pc := 218) hX dL_machine_218 rfl ?_
                refine r_getr (pc := 219) hX dL_machine_219 fl_L_89 rfl (o_X12_k ho) (o_X12_r3 ho) ?_
                refine r_iload (pc := 222) hX dL_machine_222 rfl ?_
                refine r_iald (pc := 224) hX dL_machine_224 (o_X12_a3 ho) (im_vp hp1 c159 (by decide)) ?_
                rw [im_up_same]
                refine r_callV (Z := mX11_latency) (t := 11) (pc := 225) hX dL_machine_225 ml_L_92 mX11_latency_w ⟨by decide, rfl⟩ (o_X11_k hm) (sp_X11_latency hm (below_ok hp1 c159) (latV_ge k i1) (latV_le k i1)) rfl rfl (Nat.le_of_ble_eq_true rfl) (by decide) rfl (Or.inl rfl) ?_
                refine r_iload (pc := 228) hX dL_machine_228 rfl ?_
                refine r_icmp_eq (pc := 230) hX 235 dL_machine_230 (by decide) (fun c230 => ?_) (fun c230 => ?_)
                · refine r_iinc (pc := 235) hX 1 (L' := [_, _, _, _, _, _, _]) dL_machine_235 rfl (by decide) rfl rfl ?_
                  refine r_goto (pc := 238) hX (tgt := 155) dL_machine_238 (by decide) ?_
                  refine r_weak (L' := [some _, some _, some _, some _, some _, some _, none]) (And.intro rfl (And.intro rfl (And.intro rfl (And.intro rfl (And.intro rfl (And.intro rfl trivial)))))) ?_
                  refine r_mem (I' := (latStep_ k a) i1 J1) (by first | with_reducible rfl | (simp only [latStep_, eq_false c86, eq_true c86d, eq_false c110, eq_true c147, eq_false c159, eq_true c159d, eq_true c176, eq_false c176d, eq_true c230, ↓reduceIte, if_true, if_false, decide_true, decide_false, eq_self, b2i_t, b2i_f, Bool.false_eq_true, and_true, true_and, and_false, false_and, or_true, true_or, or_false, false_or, not_true_eq_false, not_false_eq_true] <;> rfl) | simp [latStep_, eq_false c86, eq_true c86d, eq_false c110, eq_true c147, eq_false c159, eq_true c159d, eq_true c176, eq_false c176d, eq_true c230]) ?_
                  exact ih1 _ _ (nneg_step hp1 c159) (latSame_step ha hp1 c159 hls1) (cnt_nx hm1) (loopN_s.symm.trans hR1)
                · exact absurd ((congrArg (fun r => at_ r 8 i1) (up_fr (show 16 ≠ a + 4 by omega))).trans (hls1 i1 hp1 c159)) c230
              · have c176d := Int32.not_le.mp c176
                refine r_goto (pc := 179) hX (tgt := 235) dL_machine_179 (by decide) ?_
                refine r_iinc (pc := 235) hX 1 (L' := [_, _, _, _, _, _, _]) dL_machine_235 rfl (by decide) rfl rfl ?_
                refine r_goto (pc := 238) hX (tgt := 155) dL_machine_238 (by decide) ?_
                refine r_mem (I' := (latStep_ k a) i1 J1) (by first | with_reducible rfl | (simp only [latStep_, eq_false c86, eq_true c86d, eq_false c110, eq_true c147, eq_false c159, eq_true c159d, eq_false c176, eq_true c176d, ↓reduceIte, if_true, if_false, decide_true, decide_false, eq_self, b2i_t, b2i_f, Bool.false_eq_true, and_true, true_and, and_false, false_and, or_true, true_or, or_false, false_or, not_true_eq_false, not_false_eq_true] <;> rfl) | simp [latStep_, eq_false c86, eq_true c86d, eq_false c110, eq_true c147, eq_false c159, eq_true c159d, eq_false c176, eq_true c176d]) ?_
                exact ih1 _ _ (nneg_step hp1 c159) (latSame_step ha hp1 c159 hls1) (cnt_nx hm1) (loopN_s.symm.trans hR1)
        refine r_mem (I' := mach1_ k a p3 I) rfl ?_
        exact hL155 (cnt (0) (8)) (0) (mach1_ k a p3 I) (by decide) hls rfl rfl
      · exact absurd ((congrFun (mach0_fr (by omega)) 0).trans hwas) c147
    · refine r_iconst (pc := 113) hX 1 dL_machine_113 (by decide) ?_
      refine r_goto (pc := 114) hX (tgt := 118) dL_machine_114 (by decide) ?_
      refine r_puti (pc := 118) hX dL_machine_118 fl_L_83 rfl (by first | rfl | decide) (o_X12_k ho) ?_
      refine r_mem (I' := (mach0_ k a p3 I)) (by first | with_reducible rfl | (simp only [mach0_, machR_, machK_, machS_, machF_, machT_, im_up_same, eq_false c86, eq_true c86d, eq_true c110, ↓reduceIte, if_true, if_false, decide_true, decide_false, eq_self, b2i_t, b2i_f, Bool.false_eq_true, and_true, true_and, and_false, false_and, or_true, true_or, or_false, false_or, not_true_eq_false, not_false_eq_true] <;> rfl) | simp [mach0_, machR_, machK_, machS_, machF_, machT_, im_up_same, eq_false c86, eq_true c86d, eq_true c110]) ?_
      refine r_aload_n (pc := 121) hX dL_machine_121 rfl ?_
      refine r_aload_n (pc := 122) hX dL_machine_122 rfl ?_
      refine r_geti (pc := 123) hX dL_machine_123 fl_L_70 rfl (o_X12_k ho) ?_
      refine r_aload_n (pc := 126) hX dL_machine_126 rfl ?_
      refine r_geti (pc := 127) hX dL_machine_127 fl_L_73 rfl (o_X12_k ho) ?_
      refine r_aload_n (pc := 130) hX dL_machine_130 rfl ?_
      refine r_geti (pc := 131) hX dL_machine_131 fl_L_76 rfl (o_X12_k ho) ?_
      refine r_aload_n (pc := 134) hX dL_machine_134 rfl ?_
      refine r_geti (pc := 135) hX dL_machine_135 fl_L_79 rfl (o_X12_k ho) ?_
      refine r_aload_n (pc := 138) hX dL_machine_138 rfl ?_
      refine r_geti (pc := 139) hX dL_machine_139 fl_L_83 rfl (o_X12_k ho) ?_
      refine r_callV (Z := mX11_machine) (t := 11) (pc := 142) hX dL_machine_142 ml_L_86 mX11_machine_w ⟨by decide, rfl⟩ (o_X11_k hm) (sp_X11_machine hm hmk hms0 hms1 hmf hmt) rfl rfl (Nat.le_of_ble_eq_true rfl) (by decide) rfl (Or.inl rfl) ?_
      refine r_iload (pc := 145) hX dL_machine_145 rfl ?_
      refine r_icmp_eq (pc := 147) hX 152 dL_machine_147 (by decide) (fun c147 => ?_) (fun c147 => ?_)
      · refine r_iconst (pc := 152) hX 0 dL_machine_152 (by decide) ?_
        refine r_istore (pc := 153) hX (L' := [_, _, _, _, _, _, _]) dL_machine_153 rfl rfl (Nat.le_of_ble_eq_true rfl) ?_
        have hL155 : ∀ (w1 : Nat) (i1 : Int32) (J1 : im_I), ¬ i1 < 0 → latSame a J1 → cnt i1 (8) = w1 → loopN w1 i1 (latStep_ k a) J1 = loopN (cnt (0) (8)) (0) (latStep_ k a) (mach1_ k a p3 I) → im_E X k (im_Q X k (some (.int 1)) (S, mach_ k a p3 I)) 155 [some (.ref 2), some (.ref a), some (.ref 0), some (.int p3), some (.int (I a 4)), some (.int i1), none] [] S J1 := by
          intro w1
          induction w1 with
          | zero =>
            intro i1 J1 hp1 hls1 hm1 hR1
            refine r_iload (pc := 155) hX dL_machine_155 rfl ?_
            refine r_bipush (pc := 157) hX 8 dL_machine_157 (by decide) ?_
            refine r_icmp_ge (pc := 159) hX 241 dL_machine_159 (by decide) (fun c159 => ?_) (fun c159 => ?_)
            · have c159d := Int32.not_lt.mpr c159
              rw [loopN_0] at hR1
              subst hR1
              refine r_iconst (pc := 241) hX 1 dL_machine_241 (by decide) ?_
              exact r_ireturn (pc := 242) hX dL_machine_242 rfl rfl (by first | with_reducible rfl | (simp only [mach0_, machR_, machK_, machS_, machF_, machT_, im_up_same, eq_false c86, eq_true c86d, eq_true c110, eq_true c147, eq_true c159, eq_false c159d, ↓reduceIte, if_true, if_false, decide_true, decide_false, eq_self, b2i_t, b2i_f, Bool.false_eq_true, and_true, true_and, and_false, false_and, or_true, true_or, or_false, false_or, not_true_eq_false, not_false_eq_true] <;> rfl) | simp [mach0_, machR_, machK_, machS_, machF_, machT_, im_up_same, eq_false c86, eq_true c86d, eq_true c110, eq_true c147, eq_true c159, eq_false c159d]) rfl
            · have c159d := Int32.not_le.mp c159
              exact (cnt_ex hm1  c159).elim
          | succ w1 ih1 =>
            intro i1 J1 hp1 hls1 hm1 hR1
            refine r_iload (pc := 155) hX dL_machine_155 rfl ?_
            refine r_bipush (pc := 157) hX 8 dL_machine_157 (by decide) ?_
            refine r_icmp_ge (pc := 159) hX 241 dL_machine_159 (by decide) (fun c159 => ?_) (fun c159 => ?_)
            · have c159d := Int32.not_lt.mpr c159
              exact (cnt_go hm1  c159).elim
            · have c159d := Int32.not_le.mp c159
              refine r_aload_n (pc := 162) hX dL_machine_162 rfl ?_
              refine r_iload (pc := 163) hX dL_machine_163 rfl ?_
              refine r_iconst (pc := 165) hX 2 dL_machine_165 (by decide) ?_
              refine r_iadd (pc := 166) hX dL_machine_166 ?_
              refine r_callS (Z := mL_cell) (pc := 167) hX dL_machine_167 ml_L_25 mL_cell_w (sp_L_cell  (p_nn hp1 (by decide) (lt8 c159)) hkL) rfl rfl (Nat.le_of_ble_eq_true rfl) (by decide) rfl (Or.inl rfl) ?_
              refine r_iconst (pc := 170) hX 5 dL_machine_170 (by decide) ?_
              refine r_ishr (pc := 171) hX dL_machine_171 ?_
              refine r_iconst (pc := 172) hX 3 dL_machine_172 (by decide) ?_
              refine r_callS (Z := mL_below) (pc := 173) hX dL_machine_173 ml_L_31 mL_below_w (sp_L_below (by decide)) rfl rfl (Nat.le_of_ble_eq_true rfl) (by decide) rfl (Or.inl rfl) ?_
              refine r_if_le (pc := 176) hX 182 dL_machine_176 (by decide) (fun c176 => ?_) (fun c176 => ?_)
              · have c176d := Int32.not_lt.mpr c176
                refine r_aload_n (pc := 182) hX dL_machine_182 rfl ?_
                refine r_getr (pc := 183) hX dL_machine_183 fl_L_89 rfl (o_X12_k ho) (o_X12_r3 ho) ?_
                refine r_iload (pc := 186) hX dL_machine_186 rfl ?_
                refine r_iald (pc := 188) hX dL_machine_188 (o_X12_a3 ho) (im_vp hp1 c159 (by decide)) ?_
                refine r_istore (pc := 189) hX (L' := [_, _, _, _, _, _, _]) dL_machine_189 rfl rfl (Nat.le_of_ble_eq_true rfl) ?_
                refine r_aload_n (pc := 191) hX dL_machine_191 rfl ?_
                refine r_getr (pc := 192) hX dL_machine_192 fl_L_89 rfl (o_X12_k ho) (o_X12_r3 ho) ?_
                refine r_iload (pc := 195) hX dL_machine_195 rfl ?_
                refine r_iconst (pc := 197) hX 1 dL_machine_197 (by decide) ?_
                refine r_aload_n (pc := 198) hX dL_machine_198 rfl ?_
                refine r_iload (pc := 199) hX dL_machine_199 rfl ?_
                refine r_iconst (pc := 201) hX 4 dL_machine_201 (by decide) ?_
                refine r_iadd (pc := 202) hX dL_machine_202 ?_
                refine r_callS (Z := mL_cell) (pc := 203) hX dL_machine_203 ml_L_25 mL_cell_w (sp_L_cell  (p_nn hp1 (by decide) (lt8 c159)) hkL) rfl rfl (Nat.le_of_ble_eq_true rfl) (by decide) rfl (Or.inl rfl) ?_
                refine r_iconst (pc := 206) hX 3 dL_machine_206 (by decide) ?_
                refine r_ishr (pc := 207) hX dL_machine_207 ?_
                refine r_bipush (pc := 208) hX 9 dL_machine_208 (by decide) ?_
                refine r_callS (Z := mL_below) (pc := 210) hX dL_machine_210 ml_L_31 mL_below_w (sp_L_below (by decide)) rfl rfl (Nat.le_of_ble_eq_true rfl) (by decide) rfl (Or.inl rfl) ?_
                refine r_iadd (pc := 213) hX dL_machine_213 ?_
                refine r_iast (pc := 214) hX dL_machine_214 (o_X12_a3 ho) (im_vp hp1 c159 (by decide)) ?_
                refine r_mem (I' := im_up J1 (a + 4) i1.toNatClampNeg (latV_ k i1)) rfl ?_
                refine r_aload_n (pc := 215) hX dL_machine_215 rfl ?_
                refine r_iload (pc := 216) hX dL_machine_216 rfl ?_
                refine r_aload_n (pc := 218) hX dL_machine_218 rfl ?_
                refine r_getr (pc := 219) hX dL_machine_219 fl_L_89 rfl (o_X12_k ho) (o_X12_r3 ho) ?_
                refine r_iload (pc := 222) hX dL_machine_222 rfl ?_
                refine r_iald (pc := 224) hX dL_machine_224 (o_X12_a3 ho) (im_vp hp1 c159 (by decide)) ?_
                rw [im_up_same]
                refine r_callV (Z := mX11_latency) (t := 11) (pc := 225) hX dL_machine_225 ml_L_92 mX11_latency_w ⟨by decide, rfl⟩ (o_X11_k hm) (sp_X11_latency hm (below_ok hp1 c159) (latV_ge k i1) (latV_le k i1)) rfl rfl (Nat.le_of_ble_eq_true rfl) (by decide) rfl (Or.inl rfl) ?_
                refine r_iload (pc := 228) hX dL_machine_228 rfl ?_
                refine r_icmp_eq (pc := 230) hX 235 dL_machine_230 (by decide) (fun c230 => ?_) (fun c230 => ?_)
                · refine r_iinc (pc := 235) hX 1 (L' := [_, _, _, _, _, _, _]) dL_machine_235 rfl (by decide) rfl rfl ?_
                  refine r_goto (pc := 238) hX (tgt := 155) dL_machine_238 (by decide) ?_
                  refine r_weak (L' := [some _, some _, some _, some _, some _, some _, none]) (And.intro rfl (And.intro rfl (And.intro rfl (And.intro rfl (And.intro rfl (And.intro rfl trivial)))))) ?_
                  refine r_mem (I' := (latStep_ k a) i1 J1) (by first | with_reducible rfl | (simp only [latStep_, eq_false c86, eq_true c86d, eq_true c110, eq_true c147, eq_false c159, eq_true c159d, eq_true c176, eq_false c176d, eq_true c230, ↓reduceIte, if_true, if_false, decide_true, decide_false, eq_self, b2i_t, b2i_f, Bool.false_eq_true, and_true, true_and, and_false, false_and, or_true, true_or, or_false, false_or, not_true_eq_false, not_false_eq_true] <;> rfl) | simp [latStep_, eq_false c86, eq_true c86d, eq_true c110, eq_true c147, eq_false c159, eq_true c159d, eq_true c176, eq_false c176d, eq_true c230]) ?_
                  exact ih1 _ _ (nneg_step hp1 c159) (latSame_step ha hp1 c159 hls1) (cnt_nx hm1) (loopN_s.symm.trans hR1)
                · exact absurd ((congrArg (fun r => at_ r 8 i1) (up_fr (show 16 ≠ a + 4 by omega))).trans (hls1 i1 hp1 c159)) c230
              · have c176d := Int32.not_le.mp c176
                refine r_goto (pc := 179) hX (tgt := 235) dL_machine_179 (by decide) ?_
                refine r_iinc (pc := 235) hX 1 (L' := [_, _, _, _, _, _, _]) dL_machine_235 rfl (by decide) rfl rfl ?_
                refine r_goto (pc := 238) hX (tgt := 155) dL_machine_238 (by decide) ?_
                refine r_mem (I' := (latStep_ k a) i1 J1) (by first | with_reducible rfl | (simp only [latStep_, eq_false c86, eq_true c86d, eq_true c110, eq_true c147, eq_false c159, eq_true c159d, eq_false c176, eq_true c176d, ↓reduceIte, if_true, if_false, decide_true, decide_false, eq_self, b2i_t, b2i_f, Bool.false_eq_true, and_true, true_and, and_false, false_and, or_true, true_or, or_false, false_or, not_true_eq_false, not_false_eq_true] <;> rfl) | simp [latStep_, eq_false c86, eq_true c86d, eq_true c110, eq_true c147, eq_false c159, eq_true c159d, eq_false c176, eq_true c176d]) ?_
                exact ih1 _ _ (nneg_step hp1 c159) (latSame_step ha hp1 c159 hls1) (cnt_nx hm1) (loopN_s.symm.trans hR1)
        refine r_mem (I' := mach1_ k a p3 I) rfl ?_
        exact hL155 (cnt (0) (8)) (0) (mach1_ k a p3 I) (by decide) hls rfl rfl
      · exact absurd ((congrFun (mach0_fr (by omega)) 0).trans hwas) c147
