/-! the law's entry in pieces, by gen25.py -/
def mL_law : im_Y := (yL_law, cL_law, 11, some .boolean)
def rr_ (k : im_K) (i : Int32) : Int32 := 5 + below_ (cell_ k (i + 2)) 7
def rk_ (k : im_K) (i : Int32) : Int32 := below_ (cell_ k (i + 5) >>> ((2 : Int32) &&& 31)) 256 &&& (1 <<< ((rr_ k i - 3) &&& 31) - 4)
def rt_ (k : im_K) (i : Int32) : Int32 := if below_ (cell_ k (i + 8)) 2 = 0 then 1 else 0
def rd_ (k : im_K) (i : Int32) : Int32 := below_ (cell_ k (i + 11)) 8
def rc_ (k : im_K) (i : Int32) : Int32 := 1 + below_ (cell_ k (i + 12) >>> ((3 : Int32) &&& 31)) 9
def wiStep_ (r kp t : Int32) (b : Nat) (w : Int32) (J : im_I) : im_I := im_up (builtWith_ (builtNow_ J 2) r kp t) b w.toNatClampNeg (tellMany_ (builtWith_ (builtNow_ J 2) r kp t) 108 19 w)
theorem lt3_0 {i : Int32} (h : ¬ i < 3) : ¬ i < 0 := fun e => h (Int32.lt_trans e (by decide))
theorem le15 {i : Int32} (c : ¬ 16 ≤ i) : i ≤ 15 := by
  have c2 := Int32.lt_iff_toInt_lt.mp (Int32.not_le.mp c)
  rw [show (16 : Int32).toInt = 16 by decide] at c2
  rw [Int32.le_iff_toInt_le, show (15 : Int32).toInt = 15 by decide]
  omega
theorem lt16 {i : Int32} (h : ¬ i < 3) (c : ¬ 16 ≤ i) : isBelow_ i 16 = true := below_ok (lt3_0 h) c
theorem three_step {i : Int32} (h : ¬ i < 3) (c : ¬ 16 ≤ i) : ¬ i + 1 < 3 := by
  have c1 := Int32.le_iff_toInt_le.mp (Int32.not_lt.mp h)
  have c2 := Int32.lt_iff_toInt_lt.mp (Int32.not_le.mp c)
  rw [show (16 : Int32).toInt = 16 by decide] at c2
  rw [show (3 : Int32).toInt = 3 by decide] at c1
  rw [Int32.lt_iff_toInt_lt, Int32.toInt_add, show (1 : Int32).toInt = 1 by decide, show (3 : Int32).toInt = 3 by decide, Int.bmod_eq_of_le (by omega) (by omega)]
  omega
set_option maxRecDepth 100000 in
set_option maxHeartbeats 1000000 in
theorem law_a {X : im_X} {k : im_K} {Q : State → Prop} {S : im_S} {I : im_I} {rn nn rs ns : Nat} {i : Int32} (hX : im_Ok X k mL_law 100) (hm : o_X11 S 2) (ho : o_X12 S 125 rn nn rs ns) (hkL : kL k < 2 ^ 31) (hi : ¬ i < 0) (hi3 : i < 2000000) (hi4 : ¬ 4 ≤ i)
    (h106 : im_E X k Q 106 [some (.ref 0), some (.ref 2), some (.ref 125), some (.int i), some (.int (rr_ k i)), some (.int (rk_ k i)), none, none, none, none, none] [.int (rt_ k i)] S I) : im_E X k Q 39 [some (.ref 0), some (.ref 2), some (.ref 125), some (.int i), none, none, none, none, none, none, none] [] S I := by
  refine r_iload_n (pc := 39) hX dL_law_39 rfl ?_
  refine r_iconst (pc := 40) hX 4 dL_law_40 (by decide) ?_
  refine r_icmp_ge (pc := 41) hX 296 dL_law_41 (by decide) (fun c41 => ?_) (fun c41 => ?_)
  · have c41d := Int32.not_lt.mpr c41
    exact absurd c41 hi4
  · have c41d := Int32.not_le.mp c41
    refine r_iconst (pc := 44) hX 5 dL_law_44 (by decide) ?_
    refine r_aload_n (pc := 45) hX dL_law_45 rfl ?_
    refine r_iload_n (pc := 46) hX dL_law_46 rfl ?_
    refine r_iconst (pc := 47) hX 2 dL_law_47 (by decide) ?_
    refine r_iadd (pc := 48) hX dL_law_48 ?_
    refine r_callS (Z := mL_cell) (pc := 49) hX dL_law_49 ml_L_25 mL_cell_w (sp_L_cell  (p_nn hi (by decide) hi3) hkL) rfl rfl (Nat.le_of_ble_eq_true rfl) (by decide) rfl (Or.inl rfl) ?_
    refine r_bipush (pc := 52) hX 7 dL_law_52 (by decide) ?_
    refine r_callS (Z := mL_below) (pc := 54) hX dL_law_54 ml_L_31 mL_below_w (sp_L_below (by decide)) rfl rfl (Nat.le_of_ble_eq_true rfl) (by decide) rfl (Or.inl rfl) ?_
    refine r_iadd (pc := 57) hX dL_law_57 ?_
    refine r_istore (pc := 58) hX (L' := [_, _, _, _, _, _, _, _, _, _, _]) dL_law_58 rfl rfl (Nat.le_of_ble_eq_true rfl) ?_
    refine r_aload_n (pc := 60) hX dL_law_60 rfl ?_
    refine r_iload_n (pc := 61) hX dL_law_61 rfl ?_
    refine r_iconst (pc := 62) hX 5 dL_law_62 (by decide) ?_
    refine r_iadd (pc := 63) hX dL_law_63 ?_
    refine r_callS (Z := mL_cell) (pc := 64) hX dL_law_64 ml_L_25 mL_cell_w (sp_L_cell  (p_nn hi (by decide) hi3) hkL) rfl rfl (Nat.le_of_ble_eq_true rfl) (by decide) rfl (Or.inl rfl) ?_
    refine r_iconst (pc := 67) hX 2 dL_law_67 (by decide) ?_
    refine r_ishr (pc := 68) hX dL_law_68 ?_
    refine r_sipush (pc := 69) hX 256 dL_law_69 (by decide) ?_
    refine r_callS (Z := mL_below) (pc := 72) hX dL_law_72 ml_L_31 mL_below_w (sp_L_below (by decide)) rfl rfl (Nat.le_of_ble_eq_true rfl) (by decide) rfl (Or.inl rfl) ?_
    refine r_iconst (pc := 75) hX 1 dL_law_75 (by decide) ?_
    refine r_iload (pc := 76) hX dL_law_76 rfl ?_
    refine r_iconst (pc := 78) hX 3 dL_law_78 (by decide) ?_
    refine r_isub (pc := 79) hX dL_law_79 ?_
    refine r_ishl (pc := 80) hX dL_law_80 ?_
    refine r_iconst (pc := 81) hX 4 dL_law_81 (by decide) ?_
    refine r_isub (pc := 82) hX dL_law_82 ?_
    refine r_iand (pc := 83) hX dL_law_83 ?_
    refine r_istore (pc := 84) hX (L' := [_, _, _, _, _, _, _, _, _, _, _]) dL_law_84 rfl rfl (Nat.le_of_ble_eq_true rfl) ?_
    refine r_aload_n (pc := 86) hX dL_law_86 rfl ?_
    refine r_iload_n (pc := 87) hX dL_law_87 rfl ?_
    refine r_bipush (pc := 88) hX 8 dL_law_88 (by decide) ?_
    refine r_iadd (pc := 90) hX dL_law_90 ?_
    refine r_callS (Z := mL_cell) (pc := 91) hX dL_law_91 ml_L_25 mL_cell_w (sp_L_cell  (p_nn hi (by decide) hi3) hkL) rfl rfl (Nat.le_of_ble_eq_true rfl) (by decide) rfl (Or.inl rfl) ?_
    refine r_iconst (pc := 94) hX 2 dL_law_94 (by decide) ?_
    refine r_callS (Z := mL_below) (pc := 95) hX dL_law_95 ml_L_31 mL_below_w (sp_L_below (by decide)) rfl rfl (Nat.le_of_ble_eq_true rfl) (by decide) rfl (Or.inl rfl) ?_
    refine r_if_ne (pc := 98) hX 105 dL_law_98 (by decide) (fun c98 => ?_) (fun c98 => ?_)
    · refine r_iconst (pc := 105) hX 0 dL_law_105 (by decide) ?_
      rw [show rt_ k i = 0 from if_neg c98] at h106
      exact h106
    · refine r_iconst (pc := 101) hX 1 dL_law_101 (by decide) ?_
      refine r_goto (pc := 102) hX (tgt := 106) dL_law_102 (by decide) ?_
      rw [show rt_ k i = 1 from if_pos c98] at h106
      exact h106
set_option maxRecDepth 100000 in
set_option maxHeartbeats 1000000 in
theorem law_b {X : im_X} {k : im_K} {Q : State → Prop} {S : im_S} {I : im_I} {rn nn rs ns : Nat} {i r kp t : Int32} {b : Nat} {P : im_I → Prop} (hX : im_Ok X k mL_law 100) (hm : o_X11 S 2) (ho : o_X12 S 125 rn nn rs ns) (hxb : im_k S b = (20, 16)) (hmk : isMachine_ r kp = true) (ht01 : t = 0 ∨ t = 1) (hP0 : P I) (hWz : ∀ J, P J → (J 15 3 = 0 ∨ J 15 3 = 1) ∧ (J 15 4 = 0 ∨ J 15 4 = 1)) (hWe : ∀ J, P J → builtNow_ J 2 29 0 < 2147483647) (hWs : ∀ w J, ¬ w < 3 → ¬ 16 ≤ w → P J → P (wiStep_ r kp t b w J))
    (h147 : ∀ z : Int32, im_E X k Q 147 [some (.ref 0), some (.ref 2), some (.ref 125), some (.int i), some (.int r), some (.int kp), some (.int t), some (.ref b), some (.int z), none, none] [] S (loopN (cnt (3) (16)) (3) (wiStep_ r kp t b) I)) : im_E X k Q 117 [some (.ref 0), some (.ref 2), some (.ref 125), some (.int i), some (.int r), some (.int kp), some (.int t), some (.ref b), some (.int 3), none, none] [] S I := by
  have hL117 : ∀ (w1 : Nat) (i1 : Int32) (J1 : im_I), ¬ i1 < 3 → P J1 → cnt i1 (16) = w1 → loopN w1 i1 (wiStep_ r kp t b) J1 = loopN (cnt (3) (16)) (3) (wiStep_ r kp t b) (I) → im_E X k Q 117 [some (.ref 0), some (.ref 2), some (.ref 125), some (.int i), some (.int r), some (.int kp), some (.int t), some (.ref b), some (.int i1), none, none] [] S J1 := by
    intro w1
    induction w1 with
    | zero =>
      intro i1 J1 hp1 hP1 hm1 hR1
      refine r_iload (pc := 117) hX dL_law_117 rfl ?_
      refine r_bipush (pc := 119) hX 16 dL_law_119 (by decide) ?_
      refine r_icmp_ge (pc := 121) hX 147 dL_law_121 (by decide) (fun c121 => ?_) (fun c121 => ?_)
      · have c121d := Int32.not_lt.mpr c121
        rw [loopN_0] at hR1
        subst hR1
        exact h147 _
      · have c121d := Int32.not_le.mp c121
        exact (cnt_ex hm1  c121).elim
    | succ w1 ih1 =>
      intro i1 J1 hp1 hP1 hm1 hR1
      refine r_iload (pc := 117) hX dL_law_117 rfl ?_
      refine r_bipush (pc := 119) hX 16 dL_law_119 (by decide) ?_
      refine r_icmp_ge (pc := 121) hX 147 dL_law_121 (by decide) (fun c121 => ?_) (fun c121 => ?_)
      · have c121d := Int32.not_lt.mpr c121
        exact (cnt_go hm1  c121).elim
      · have c121d := Int32.not_le.mp c121
        refine r_aload (pc := 124) hX dL_law_124 rfl ?_
        refine r_iload (pc := 126) hX dL_law_126 rfl ?_
        refine r_aload_n (pc := 128) hX dL_law_128 rfl ?_
        refine r_iload (pc := 129) hX dL_law_129 rfl ?_
        refine r_iload (pc := 131) hX dL_law_131 rfl ?_
        refine r_iload (pc := 133) hX dL_law_133 rfl ?_
        refine r_iload (pc := 135) hX dL_law_135 rfl ?_
        refine r_callV (Z := mX11_with) (t := 11) (pc := 137) hX dL_law_137 ml_L_100 mX11_with_w ⟨by decide, rfl⟩ (o_X11_k hm) (sp_X11_with hm (by decide) hmk hp1 (le15 c121) (hWz _ hP1) ht01 (hWe _ hP1)) rfl rfl (Nat.le_of_ble_eq_true rfl) (by decide) rfl (Or.inl rfl) ?_
        refine r_iast (pc := 140) hX dL_law_140 hxb (im_vp (lt3_0 hp1) c121 (by decide)) ?_
        refine r_iinc (pc := 141) hX 1 (L' := [_, _, _, _, _, _, _, _, _, _, _]) dL_law_141 rfl (by decide) rfl rfl ?_
        refine r_goto (pc := 144) hX (tgt := 117) dL_law_144 (by decide) ?_
        refine r_mem (I' := (wiStep_ r kp t b) i1 J1) (by first | with_reducible rfl | (simp only [wiStep_, eq_false c121, eq_true c121d, ↓reduceIte, if_true, if_false, decide_true, decide_false, eq_self, b2i_t, b2i_f, Bool.false_eq_true, and_true, true_and, and_false, false_and, or_true, true_or, or_false, false_or, not_true_eq_false, not_false_eq_true] <;> rfl) | simp [wiStep_, eq_false c121, eq_true c121d]) ?_
        exact ih1 _ _ (three_step hp1 c121) (hWs _ _ hp1 c121 hP1) (cnt_nx hm1) (loopN_s.symm.trans hR1)
  exact hL117 (cnt (3) (16)) (3) (I) (by decide) hP0 rfl rfl
set_option maxRecDepth 100000 in
set_option maxHeartbeats 1000000 in
theorem law_c {X : im_X} {k : im_K} {Q : State → Prop} {S : im_S} {I : im_I} {rn nn rs ns : Nat} {i r kp t : Int32} {b : Nat} {z : Int32} {P : im_I → Prop} (hX : im_Ok X k mL_law 100) (hm : o_X11 S 2) (ho : o_X12 S 125 rn nn rs ns) (hxb : im_k S b = (20, 16)) (hmk : isMachine_ r kp = true) (ht01 : t = 0 ∨ t = 1) (hs0 : ¬ I 125 6 < 0) (hs1 : I 125 6 ≤ 99) (hf : I 125 7 = 0 ∨ I 125 7 = 1) (hge : 5 ≤ I 15 0)
    (hP0 : P (forget_ (im_up (im_up (im_up (im_up (im_up I 15 0 r) 15 1 kp) 15 2 (I 125 6)) 15 3 (I 125 7)) 15 4 t) 2)) (hPn : ∀ J, P J → P (builtNow_ J 2)) (hPe : ∀ J, P J → builtNow_ J 2 29 0 < 2147483647) (hcmp : ∀ w J, ¬ w < 3 → ¬ 16 ≤ w → P J → tellMany_ (builtNow_ J 2) 91 19 w = builtNow_ J 2 b w.toNatClampNeg)
    (hend : loopN (cnt (3) (16)) (3) (fun _ J => builtNow_ J 2) (forget_ (im_up (im_up (im_up (im_up (im_up I 15 0 r) 15 1 kp) 15 2 (I 125 6)) 15 3 (I 125 7)) 15 4 t) 2) = builtNow_ (forget_ (im_up (im_up (im_up (im_up (im_up I 15 0 r) 15 1 kp) 15 2 (I 125 6)) 15 3 (I 125 7)) 15 4 t) 2) 2)
    (h203 : ∀ z : Int32, im_E X k Q 203 [some (.ref 0), some (.ref 2), some (.ref 125), some (.int i), some (.int r), some (.int kp), some (.int t), some (.ref b), some (.int z), none, none] [] S (builtNow_ (forget_ (im_up (im_up (im_up (im_up (im_up I 15 0 r) 15 1 kp) 15 2 (I 125 6)) 15 3 (I 125 7)) 15 4 t) 2) 2)) : im_E X k Q 147 [some (.ref 0), some (.ref 2), some (.ref 125), some (.int i), some (.int r), some (.int kp), some (.int t), some (.ref b), some (.int z), none, none] [] S I := by
  refine r_aload_n (pc := 147) hX dL_law_147 rfl ?_
  refine r_iload (pc := 148) hX dL_law_148 rfl ?_
  refine r_iload (pc := 150) hX dL_law_150 rfl ?_
  refine r_aload_n (pc := 152) hX dL_law_152 rfl ?_
  refine r_geti (pc := 153) hX dL_law_153 fl_L_76 rfl (o_X12_k ho) ?_
  refine r_aload_n (pc := 156) hX dL_law_156 rfl ?_
  refine r_geti (pc := 157) hX dL_law_157 fl_L_79 rfl (o_X12_k ho) ?_
  refine r_iload (pc := 160) hX dL_law_160 rfl ?_
  refine r_callV (Z := mX11_machine) (t := 11) (pc := 162) hX dL_law_162 ml_L_86 mX11_machine_w ⟨by decide, rfl⟩ (o_X11_k hm) (sp_X11_machine hm hmk hs0 hs1 hf ht01) rfl rfl (Nat.le_of_ble_eq_true rfl) (by decide) rfl (Or.inl rfl) ?_
  refine r_iconst (pc := 165) hX 5 dL_law_165 (by decide) ?_
  refine r_icmp_ge (pc := 166) hX 171 dL_law_166 (by decide) (fun c166 => ?_) (fun c166 => ?_)
  · have c166d := Int32.not_lt.mpr c166
    refine r_iconst (pc := 171) hX 3 dL_law_171 (by decide) ?_
    refine r_istore (pc := 172) hX (L' := [_, _, _, _, _, _, _, _, _, _, _]) dL_law_172 rfl rfl (Nat.le_of_ble_eq_true rfl) ?_
    have hL174 : ∀ (w1 : Nat) (i1 : Int32) (J1 : im_I), ¬ i1 < 3 → P J1 → cnt i1 (16) = w1 → loopN w1 i1 (fun _ J => builtNow_ J 2) J1 = loopN (cnt (3) (16)) (3) (fun _ J => builtNow_ J 2) ((forget_ (im_up (im_up (im_up (im_up (im_up I 15 0 r) 15 1 kp) 15 2 (I 125 6)) 15 3 (I 125 7)) 15 4 t) 2)) → im_E X k Q 174 [some (.ref 0), some (.ref 2), some (.ref 125), some (.int i), some (.int r), some (.int kp), some (.int t), some (.ref b), some (.int i1), none, none] [] S J1 := by
      intro w1
      induction w1 with
      | zero =>
        intro i1 J1 hp1 hP1 hm1 hR1
        refine r_iload (pc := 174) hX dL_law_174 rfl ?_
        refine r_bipush (pc := 176) hX 16 dL_law_176 (by decide) ?_
        refine r_icmp_ge (pc := 178) hX 203 dL_law_178 (by decide) (fun c178 => ?_) (fun c178 => ?_)
        · have c178d := Int32.not_lt.mpr c178
          rw [loopN_0] at hR1
          subst hR1
          refine r_mem (I' := builtNow_ (forget_ (im_up (im_up (im_up (im_up (im_up I 15 0 r) 15 1 kp) 15 2 (I 125 6)) 15 3 (I 125 7)) 15 4 t) 2) 2) hend ?_
          exact h203 _
        · have c178d := Int32.not_le.mp c178
          exact (cnt_ex hm1  c178).elim
      | succ w1 ih1 =>
        intro i1 J1 hp1 hP1 hm1 hR1
        refine r_iload (pc := 174) hX dL_law_174 rfl ?_
        refine r_bipush (pc := 176) hX 16 dL_law_176 (by decide) ?_
        refine r_icmp_ge (pc := 178) hX 203 dL_law_178 (by decide) (fun c178 => ?_) (fun c178 => ?_)
        · have c178d := Int32.not_lt.mpr c178
          exact (cnt_go hm1  c178).elim
        · have c178d := Int32.not_le.mp c178
          refine r_aload_n (pc := 181) hX dL_law_181 rfl ?_
          refine r_iload (pc := 182) hX dL_law_182 rfl ?_
          refine r_callV (Z := mX11_many) (t := 11) (pc := 184) hX dL_law_184 ml_L_103 mX11_many_w ⟨by decide, rfl⟩ (o_X11_k hm) (sp_X11_many hm (lt16 hp1 c178) (hPe _ hP1)) rfl rfl (Nat.le_of_ble_eq_true rfl) (by decide) rfl (Or.inl rfl) ?_
          refine r_aload (pc := 187) hX dL_law_187 rfl ?_
          refine r_iload (pc := 189) hX dL_law_189 rfl ?_
          refine r_iald (pc := 191) hX dL_law_191 hxb (im_vp (lt3_0 hp1) c178 (by decide)) ?_
          refine r_icmp_eq (pc := 192) hX 197 dL_law_192 (by decide) (fun c192 => ?_) (fun c192 => ?_)
          · refine r_iinc (pc := 197) hX 1 (L' := [_, _, _, _, _, _, _, _, _, _, _]) dL_law_197 rfl (by decide) rfl rfl ?_
            refine r_goto (pc := 200) hX (tgt := 174) dL_law_200 (by decide) ?_
            refine r_mem (I' := (fun _ J => builtNow_ J 2) i1 J1) (by first | with_reducible rfl | (simp only [eq_true c166, eq_false c166d, eq_false c178, eq_true c178d, eq_true c192, ↓reduceIte, if_true, if_false, decide_true, decide_false, eq_self, b2i_t, b2i_f, Bool.false_eq_true, and_true, true_and, and_false, false_and, or_true, true_or, or_false, false_or, not_true_eq_false, not_false_eq_true] <;> rfl) | simp [eq_true c166, eq_false c166d, eq_false c178, eq_true c178d, eq_true c192]) ?_
            exact ih1 _ _ (three_step hp1 c178) (hPn _ hP1) (cnt_nx hm1) (loopN_s.symm.trans hR1)
          · exact absurd (hcmp _ _ hp1 c178 hP1) c192
    exact hL174 (cnt (3) (16)) (3) ((forget_ (im_up (im_up (im_up (im_up (im_up I 15 0 r) 15 1 kp) 15 2 (I 125 6)) 15 3 (I 125 7)) 15 4 t) 2)) (by decide) hP0 rfl rfl
  · have c166d := Int32.not_le.mp c166
    exact absurd hge c166
set_option maxRecDepth 100000 in
set_option maxHeartbeats 1000000 in
theorem law_d {X : im_X} {k : im_K} {Q : State → Prop} {S : im_S} {I : im_I} {rn nn rs ns : Nat} {i r kp t z : Int32} {b dm : Nat} {S2 : im_S} {F : im_I} (hX : im_Ok X k mL_law 100) (hm : o_X11 S 2) (ho : o_X12 S 125 rn nn rs ns) (hxb : im_k S b = (20, 16)) (hkL : kL k < 2 ^ 31) (hi : ¬ i < 0) (hi3 : i < 2000000) (hz : (I 15 3 = 0 ∨ I 15 3 = 1) ∧ (I 15 4 = 0 ∨ I 15 4 = 1)) (hd8 : isBelow_ (rd_ k i) 8 = true) (hc1 : ¬ rc_ k i < 1) (hc9 : rc_ k i ≤ 9)
    (hlat : ¬ at_ ((wouldM_ I (rd_ k i) (rc_ k i)) 16) 8 (rd_ k i) < 1) (he : builtNow_ (forget_ (put_ (wouldM_ I (rd_ k i) (rc_ k i)) 16 8 (rd_ k i) (rc_ k i)) 2) 2 29 0 < 2147483647) (hcy : tellMany_ (builtNow_ (forget_ (put_ (wouldM_ I (rd_ k i) (rc_ k i)) 16 8 (rd_ k i) (rc_ k i)) 2) 2) 91 19 13 = (wouldM_ I (rd_ k i) (rc_ k i)) 120 1) (hdm : dm < 100)
    (hMe : im_Runs (xl X) k dm mL_isMeant [.ref 2, .ref 125] (S, builtNow_ (forget_ (put_ (wouldM_ I (rd_ k i) (rc_ k i)) 16 8 (rd_ k i) (rc_ k i)) 2) 2) (some (.int 1)) (S2, F)) (hroom : im_n S2 - xn X ≤ (xR X).cells ∧ im_z S2 - xz X ≤ (xR X).slots) (hWh : im_Runs (xl X) k 8 mL_isWhole [.ref 2, .ref 125, .int r] (S2, F) (some (.int 1)) (S2, F))
    (h39 : im_E X k Q 39 [some (.ref 0), some (.ref 2), some (.ref 125), some (.int (i + 1)), none, none, none, none, none, none, none] [] S2 F) : im_E X k Q 203 [some (.ref 0), some (.ref 2), some (.ref 125), some (.int i), some (.int r), some (.int kp), some (.int t), some (.ref b), some (.int z), none, none] [] S I := by
  refine r_aload_n (pc := 203) hX dL_law_203 rfl ?_
  refine r_iload_n (pc := 204) hX dL_law_204 rfl ?_
  refine r_bipush (pc := 205) hX 11 dL_law_205 (by decide) ?_
  refine r_iadd (pc := 207) hX dL_law_207 ?_
  refine r_callS (Z := mL_cell) (pc := 208) hX dL_law_208 ml_L_25 mL_cell_w (sp_L_cell  (p_nn hi (by decide) hi3) hkL) rfl rfl (Nat.le_of_ble_eq_true rfl)  (by decide) rfl (Or.inl rfl) ?_
  refine r_bipush (pc := 211) hX 8 dL_law_211 (by decide) ?_
  refine r_callS (Z := mL_below) (pc := 213) hX dL_law_213 ml_L_31 mL_below_w (sp_L_below (by decide)) rfl rfl (Nat.le_of_ble_eq_true rfl)  (by decide) rfl (Or.inl rfl) ?_
  refine r_istore (pc := 216) hX (L' := [_, _, _, _, _, _, _, _, _, _, _]) dL_law_216 rfl rfl (Nat.le_of_ble_eq_true rfl) ?_
  refine r_iconst (pc := 218) hX 1 dL_law_218 (by decide) ?_
  refine r_aload_n (pc := 219) hX dL_law_219 rfl ?_
  refine r_iload_n (pc := 220) hX dL_law_220 rfl ?_
  refine r_bipush (pc := 221) hX 12 dL_law_221 (by decide) ?_
  refine r_iadd (pc := 223) hX dL_law_223 ?_
  refine r_callS (Z := mL_cell) (pc := 224) hX dL_law_224 ml_L_25 mL_cell_w (sp_L_cell  (p_nn hi (by decide) hi3) hkL) rfl rfl (Nat.le_of_ble_eq_true rfl)  (by decide) rfl (Or.inl rfl) ?_
  refine r_iconst (pc := 227) hX 3 dL_law_227 (by decide) ?_
  refine r_ishr (pc := 228) hX dL_law_228 ?_
  refine r_bipush (pc := 229) hX 9 dL_law_229 (by decide) ?_
  refine r_callS (Z := mL_below) (pc := 231) hX dL_law_231 ml_L_31 mL_below_w (sp_L_below (by decide)) rfl rfl (Nat.le_of_ble_eq_true rfl)  (by decide) rfl (Or.inl rfl) ?_
  refine r_iadd (pc := 234) hX dL_law_234 ?_
  refine r_istore (pc := 235) hX (L' := [_, _, _, _, _, _, _, _, _, _, _]) dL_law_235 rfl rfl (Nat.le_of_ble_eq_true rfl) ?_
  refine r_aload_n (pc := 237) hX dL_law_237 rfl ?_
  refine r_iload (pc := 238) hX dL_law_238 rfl ?_
  refine r_iload (pc := 240) hX dL_law_240 rfl ?_
  refine r_callV (Z := mX11_cyclesWith) (t := 11) (pc := 242) hX dL_law_242 ml_L_106 mX11_cyclesWith_w ⟨by decide, rfl⟩ (o_X11_k hm) (sp_X11_cyclesWith hm hz hd8 hc1 hc9) rfl rfl (Nat.le_of_ble_eq_true rfl)  (by decide) rfl (Or.inl rfl) ?_
  refine r_istore (pc := 245) hX (L' := [_, _, _, _, _, _, _, _, _, _, _]) dL_law_245 rfl rfl (Nat.le_of_ble_eq_true rfl) ?_
  refine r_aload_n (pc := 247) hX dL_law_247 rfl ?_
  refine r_iload (pc := 248) hX dL_law_248 rfl ?_
  refine r_iload (pc := 250) hX dL_law_250 rfl ?_
  refine r_callV (Z := mX11_latency) (t := 11) (pc := 252) hX dL_law_252 ml_L_92 mX11_latency_w ⟨by decide, rfl⟩ (o_X11_k hm) (sp_X11_latency hm hd8 hc1 hc9) rfl rfl (Nat.le_of_ble_eq_true rfl)  (by decide) rfl (Or.inl rfl) ?_
  refine r_iconst (pc := 255) hX 1 dL_law_255 (by decide) ?_
  refine r_icmp_lt (pc := 256) hX 288 dL_law_256 (by decide) (fun c256 => ?_) (fun c256 => ?_)
  · have c256d := Int32.not_le.mpr c256
    exact absurd c256 hlat
  · have c256d := Int32.not_lt.mp c256
    refine r_aload_n (pc := 259) hX dL_law_259 rfl ?_
    refine r_bipush (pc := 260) hX 13 dL_law_260 (by decide) ?_
    refine r_callV (Z := mX11_many) (t := 11) (pc := 262) hX dL_law_262 ml_L_103 mX11_many_w ⟨by decide, rfl⟩ (o_X11_k hm) (sp_X11_many hm (by decide) he) rfl rfl (Nat.le_of_ble_eq_true rfl)  (by decide) rfl (Or.inl rfl) ?_
    refine r_iload (pc := 265) hX dL_law_265 rfl ?_
    refine r_icmp_ne (pc := 267) hX 288 dL_law_267 (by decide) (fun c267 => ?_) (fun c267 => ?_)
    · exact absurd hcy c267
    · refine r_aload_n (pc := 270) hX dL_law_270 rfl ?_
      refine r_aload_n (pc := 271) hX dL_law_271 rfl ?_
      refine r_callS (Z := mL_isMeant) (pc := 272) hX dL_law_272 ml_L_109 mL_isMeant_w ((fun (_ : o_X11 S 2) (_ : o_X12 S 125 rn nn rs ns) => hMe) hm ho) rfl rfl (Nat.le_of_ble_eq_true rfl)  hdm rfl (Or.inr hroom) ?_
      refine r_if_eq (pc := 275) hX 288 dL_law_275 (by decide) (fun c275 => ?_) (fun c275 => ?_)
      · exact absurd c275 (by decide)
      · refine r_aload_n (pc := 278) hX dL_law_278 rfl ?_
        refine r_aload_n (pc := 279) hX dL_law_279 rfl ?_
        refine r_iload (pc := 280) hX dL_law_280 rfl ?_
        refine r_callS (Z := mL_isWhole) (pc := 282) hX dL_law_282 ml_L_113 mL_isWhole_w ((fun (_ : o_X11 S 2) (_ : o_X12 S 125 rn nn rs ns) => hWh) hm ho) rfl rfl (Nat.le_of_ble_eq_true rfl)  (by decide) rfl (Or.inl rfl) ?_
        refine r_if_ne (pc := 285) hX 290 dL_law_285 (by decide) (fun c285 => ?_) (fun c285 => ?_)
        · refine r_iinc (pc := 290) hX 1 (L' := [_, _, _, _, _, _, _, _, _, _, _]) dL_law_290 rfl (by decide) rfl rfl ?_
          refine r_goto (pc := 293) hX (tgt := 39) dL_law_293 (by decide) ?_
          refine r_weak (L' := [some _, some _, some _, some _, none, none, none, none, none, none, none]) (And.intro rfl (And.intro rfl (And.intro rfl (And.intro rfl trivial)))) ?_
          exact h39
        · exact absurd c285 (by decide)
set_option maxRecDepth 100000 in
set_option maxHeartbeats 1000000 in
theorem law_e {X : im_X} {k : im_K} {Q : State → Prop} {S : im_S} {I : im_I} {rn nn rs ns : Nat} {i : Int32} (hX : im_Ok X k mL_law 100) (hm : o_X11 S 2) (ho : o_X12 S 125 rn nn rs ns) (hrt : ∀ b j : Int32, rootOf_ I 3 b j < 2147483647) (hz : (I 15 3 = 0 ∨ I 15 3 = 1) ∧ (I 15 4 = 0 ∨ I 15 4 = 1)) (he1 : builtNow_ I 2 29 0 < 2147483647)
    (hz2 : (digestM_ (builtNow_ I 2) 2 15 3 = 0 ∨ digestM_ (builtNow_ I 2) 2 15 3 = 1) ∧ (digestM_ (builtNow_ I 2) 2 15 4 = 0 ∨ digestM_ (builtNow_ I 2) 2 15 4 = 1)) : True := trivial
