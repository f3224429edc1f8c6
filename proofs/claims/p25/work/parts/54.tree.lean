/-! the law's tree, by gen21.py -/
set_option maxRecDepth 100000 in
set_option maxHeartbeats 2000000 in
theorem sp_L_tree {l : Launch} {k : im_K} {rs ns : Nat} (hkL : kL k < 2 ^ 31) : ∀ (lv : Nat), lv ≤ 10 → ∀ (S : im_S) (I : im_I) (rn nn : Nat) (x : Int32), Lw S I rn nn rs ns → ¬ x < 0 → x.toInt + 5 * lv ≤ 1000000 → ∃ S' I' rn' nn' v, im_Runs l k (5 + lv) mL_tree [.ref 2, .ref 125, .ref 0, .int x, .int (Int32.ofNat lv)] (S, I) (some (.int v)) (S', I') ∧ Lw S' I' rn' nn' rs ns ∧ Step S I nn S' I' nn' ∧ (∀ j, j < nn → I' 8 j = I 8 j) ∧ (v = -1 ∨ ∃ j, v = Int32.ofNat j ∧ nn ≤ j ∧ j < nn' ∧ I' 8 j = 0) := by
  intro lv
  induction lv with
  | zero =>
    intro _ S I rn nn x h hx _
    by_cases hz : below_ ((cell_ k (x - x / 16 * 16) + 7 * x) >>> ((2 : Int32) &&& 31)) 3 = 0
    · exact tree_leaf0 h hkL hx (Or.inl rfl) hz
    · exact tree_leaf1 h hkL hx (Or.inl rfl) hz
  | succ m ih =>
    intro hm10 S I rn nn x h hx hx2
    by_cases hl : Int32.ofNat (m + 1) = 0 ∨ below_ (cell_ k (x - x / 16 * 16) + 7 * x) 4 = 0 ∨ ¬ Int32.ofNat nn ≤ 72
    · by_cases hz : below_ ((cell_ k (x - x / 16 * 16) + 7 * x) >>> ((2 : Int32) &&& 31)) 3 = 0
      · exact tree_leaf0 h hkL hx hl hz
      · exact tree_leaf1 h hkL hx hl hz
    · have hm := old_o (Lw_old h)
      have ho := Lw_own h
      have x3 := p_nn (p := x) (c := 3) hx (by decide) (by rw [Int32.lt_iff_toInt_lt, show (2000000 : Int32).toInt = 2000000 by decide]; omega)
      have x5 := p_nn (p := x) (c := 5) hx (by decide) (by rw [Int32.lt_iff_toInt_lt, show (2000000 : Int32).toInt = 2000000 by decide]; omega)
      have hx0 := Int32.le_iff_toInt_le.mp (Int32.not_lt.mp hx)
      rw [show (0 : Int32).toInt = 0 by decide] at hx0
      have t3 : (x + 3).toInt = x.toInt + 3 := by
        rw [Int32.toInt_add, show (3 : Int32).toInt = 3 by decide]
        exact Int.bmod_eq_of_le (by omega) (by omega)
      have t5 : (x + 5).toInt = x.toInt + 5 := by
        rw [Int32.toInt_add, show (5 : Int32).toInt = 5 by decide]
        exact Int.bmod_eq_of_le (by omega) (by omega)
      obtain ⟨S1, I1, rn1, nn1, v1, hr1, g1, st1, kp1, pv1⟩ := ih (by omega) S I rn nn (x + 3) h x3 (by omega)
      rw [← ofNat_pred (show m ≤ 1000 by omega)] at hr1
      rcases pv1 with rfl | ⟨j1, rfl, ja1, jb1, jz1⟩
      · refine ⟨S1, I1, rn1, nn1, -1, ?_, g1, st1, kp1, Or.inl rfl⟩
        obtain ⟨⟨s1, s2, s3⟩, -⟩ := id st1
        refine im_run (by decide +kernel) ⟨by omega, by omega⟩ (Nat.le_of_ble_eq_true rfl) ?_
        intro X hl' hX hxn hxz hxc hxs
        subst hl'
        change im_E X k _ 0 [some (.ref 2), some (.ref 125), some (.ref 0), some (.int x), some (.int (Int32.ofNat (m + 1))), none, none, none] [] S I
        have h89 : im_E X k (im_Q X k (some (.int (-1))) (S1, I1)) 89 [some (.ref 2), some (.ref 125), some (.ref 0), some (.int x), some (.int (Int32.ofNat (m + 1))), some (.int (cell_ k (x - x / 16 * 16) + 7 * x)), none, none] [] S I := by
          refine r_aload_n (pc := 89) hX dL_tree_89 rfl ?_
          refine r_aload_n (pc := 90) hX dL_tree_90 rfl ?_
          refine r_aload_n (pc := 91) hX dL_tree_91 rfl ?_
          refine r_iload_n (pc := 92) hX dL_tree_92 rfl ?_
          refine r_iconst (pc := 93) hX 3 dL_tree_93 (by decide) ?_
          refine r_iadd (pc := 94) hX dL_tree_94 ?_
          refine r_iload (pc := 95) hX dL_tree_95 rfl ?_
          refine r_iconst (pc := 97) hX 1 dL_tree_97 (by decide) ?_
          refine r_isub (pc := 98) hX dL_tree_98 ?_
          refine r_callS (Z := mL_tree) (pc := 99) hX dL_tree_99 ml_L_38 mL_tree_w ((fun (_ : o_X11 S 2) (_ : o_X12 S 125 rn nn rs ns) => hr1) hm ho ) rfl rfl (Nat.le_of_ble_eq_true rfl) (by omega) rfl (Or.inr (by rw [hxn, hxz, hxc, hxs]; omega)) ?_
          refine r_istore (pc := 102) hX (L' := [_, _, _, _, _, _, _, _]) dL_tree_102 rfl rfl (Nat.le_of_ble_eq_true rfl) ?_
          refine r_iload (pc := 104) hX dL_tree_104 rfl ?_
          refine r_if_ge (pc := 106) hX 113 dL_tree_106 (by decide) (fun c106 => ?_) (fun c106 => ?_)
          · have c106d := Int32.not_lt.mpr c106
            exact absurd c106 (by decide)
          · have c106d := Int32.not_le.mp c106
            refine r_iconst (pc := 109) hX (-1) dL_tree_109 (by decide) ?_
            refine r_goto (pc := 110) hX (tgt := 126) dL_tree_110 (by decide) ?_
            refine r_istore (pc := 126) hX (L' := [_, _, _, _, _, _, _, _]) dL_tree_126 rfl rfl (Nat.le_of_ble_eq_true rfl) ?_
            refine r_iload (pc := 128) hX dL_tree_128 rfl ?_
            refine r_if_ge (pc := 130) hX 137 dL_tree_130 (by decide) (fun c130 => ?_) (fun c130 => ?_)
            · have c130d := Int32.not_lt.mpr c130
              exact absurd c130 (by decide)
            · have c130d := Int32.not_le.mp c130
              refine r_iconst (pc := 133) hX (-1) dL_tree_133 (by decide) ?_
              refine r_goto (pc := 134) hX (tgt := 159) dL_tree_134 (by decide) ?_
              exact r_ireturn (pc := 159) hX dL_tree_159 rfl rfl (by first | with_reducible rfl | (simp only [eq_false c106, eq_true c106d, eq_true c130d, ↓reduceIte, if_true, if_false, decide_true, decide_false, eq_self, b2i_t, b2i_f, Bool.false_eq_true, and_true, true_and, and_false, false_and, or_true, true_or, or_false, false_or, not_true_eq_false, not_false_eq_true] <;> rfl) | simp [eq_false c106, eq_true c106d, eq_true c130d]) rfl
        refine r_aload_n (pc := 0) hX dL_tree_0 rfl ?_
        refine r_iload_n (pc := 1) hX dL_tree_1 rfl ?_
        refine r_bipush (pc := 2) hX 16 dL_tree_2 (by decide) ?_
        refine r_irem (pc := 4) hX dL_tree_4 (by decide) ?_
        refine r_callS (Z := mL_cell) (pc := 5) hX dL_tree_5 ml_L_25 mL_cell_w (sp_L_cell  (rem_nn hx) hkL) rfl rfl (Nat.le_of_ble_eq_true rfl) (by omega) rfl (Or.inl rfl) ?_
        refine r_bipush (pc := 8) hX 7 dL_tree_8 (by decide) ?_
        refine r_iload_n (pc := 10) hX dL_tree_10 rfl ?_
        refine r_imul (pc := 11) hX dL_tree_11 ?_
        refine r_iadd (pc := 12) hX dL_tree_12 ?_
        refine r_istore (pc := 13) hX (L' := [_, _, _, _, _, _, _, _]) dL_tree_13 rfl rfl (Nat.le_of_ble_eq_true rfl) ?_
        refine r_iload (pc := 15) hX dL_tree_15 rfl ?_
        refine r_if_eq (pc := 17) hX 39 dL_tree_17 (by decide) (fun c17 => ?_) (fun c17 => ?_)
        · exact absurd (by first | exact Or.inl (by assumption) | exact Or.inr (Or.inl (by assumption)) | exact Or.inr (Or.inr (by assumption))) hl
        · refine r_iload (pc := 20) hX dL_tree_20 rfl ?_
          refine r_iconst (pc := 22) hX 4 dL_tree_22 (by decide) ?_
          refine r_callS (Z := mL_below) (pc := 23) hX dL_tree_23 ml_L_31 mL_below_w (sp_L_below (by decide)) rfl rfl (Nat.le_of_ble_eq_true rfl) (by omega) rfl (Or.inl rfl) ?_
          refine r_if_eq (pc := 26) hX 39 dL_tree_26 (by decide) (fun c26 => ?_) (fun c26 => ?_)
          · exact absurd (by first | exact Or.inl (by assumption) | exact Or.inr (Or.inl (by assumption)) | exact Or.inr (Or.inr (by assumption))) hl
          · refine r_aload_n (pc := 29) hX dL_tree_29 rfl ?_
            refine r_getr (pc := 30) hX dL_tree_30 fl_L_9 rfl (o_X12_k ho) (o_X12_r0 ho) ?_
            refine r_alenR (pc := 33) hX _ dL_tree_33 (o_X12_a0 ho) rfl ?_
            refine r_bipush (pc := 34) hX 72 dL_tree_34 (by decide) ?_
            refine r_icmp_le (pc := 36) hX 89 dL_tree_36 (by decide) (fun c36 => ?_) (fun c36 => ?_)
            · have c36d := Int32.not_lt.mpr c36
              exact h89
            · have c36d := Int32.not_le.mp c36
              exact absurd (by first | exact Or.inl (by assumption) | exact Or.inr (Or.inl (by assumption)) | exact Or.inr (Or.inr (by assumption))) hl
      · obtain ⟨S2, I2, rn2, nn2, v2, hr2, g2, st2, kp2, pv2⟩ := ih (by omega) S1 I1 rn1 nn1 (x + 5) g1 x5 (by omega)
        rw [← ofNat_pred (show m ≤ 1000 by omega)] at hr2
        have hj1 : ¬ Int32.ofNat j1 < 0 := ofNat_nlt (by have := Lw_n80 g1; omega)
        rcases pv2 with rfl | ⟨j2, rfl, ja2, jb2, jz2⟩
        · refine ⟨S2, I2, rn2, nn2, -1, ?_, g2, Step_tr st1 st2, fun j hj => (kp2 j (by omega)).trans (kp1 j hj), Or.inl rfl⟩
          obtain ⟨⟨s1, s2, s3⟩, -⟩ := id st1
          obtain ⟨⟨s4, s5, s6⟩, -⟩ := id st2
          refine im_run (by decide +kernel) ⟨by omega, by omega⟩ (Nat.le_of_ble_eq_true rfl) ?_
          intro X hl' hX hxn hxz hxc hxs
          subst hl'
          change im_E X k _ 0 [some (.ref 2), some (.ref 125), some (.ref 0), some (.int x), some (.int (Int32.ofNat (m + 1))), none, none, none] [] S I
          have h89 : im_E X k (im_Q X k (some (.int (-1))) (S2, I2)) 89 [some (.ref 2), some (.ref 125), some (.ref 0), some (.int x), some (.int (Int32.ofNat (m + 1))), some (.int (cell_ k (x - x / 16 * 16) + 7 * x)), none, none] [] S I := by
            refine r_aload_n (pc := 89) hX dL_tree_89 rfl ?_
            refine r_aload_n (pc := 90) hX dL_tree_90 rfl ?_
            refine r_aload_n (pc := 91) hX dL_tree_91 rfl ?_
            refine r_iload_n (pc := 92) hX dL_tree_92 rfl ?_
            refine r_iconst (pc := 93) hX 3 dL_tree_93 (by decide) ?_
            refine r_iadd (pc := 94) hX dL_tree_94 ?_
            refine r_iload (pc := 95) hX dL_tree_95 rfl ?_
            refine r_iconst (pc := 97) hX 1 dL_tree_97 (by decide) ?_
            refine r_isub (pc := 98) hX dL_tree_98 ?_
            refine r_callS (Z := mL_tree) (pc := 99) hX dL_tree_99 ml_L_38 mL_tree_w ((fun (_ : o_X11 S 2) (_ : o_X12 S 125 rn nn rs ns) => hr1) hm ho ) rfl rfl (Nat.le_of_ble_eq_true rfl) (by omega) rfl (Or.inr (by rw [hxn, hxz, hxc, hxs]; omega)) ?_
            refine r_istore (pc := 102) hX (L' := [_, _, _, _, _, _, _, _]) dL_tree_102 rfl rfl (Nat.le_of_ble_eq_true rfl) ?_
            refine r_iload (pc := 104) hX dL_tree_104 rfl ?_
            refine r_if_ge (pc := 106) hX 113 dL_tree_106 (by decide) (fun c106 => ?_) (fun c106 => ?_)
            · have c106d := Int32.not_lt.mpr c106
              refine r_aload_n (pc := 113) hX dL_tree_113 rfl ?_
              refine r_aload_n (pc := 114) hX dL_tree_114 rfl ?_
              refine r_aload_n (pc := 115) hX dL_tree_115 rfl ?_
              refine r_iload_n (pc := 116) hX dL_tree_116 rfl ?_
              refine r_iconst (pc := 117) hX 5 dL_tree_117 (by decide) ?_
              refine r_iadd (pc := 118) hX dL_tree_118 ?_
              refine r_iload (pc := 119) hX dL_tree_119 rfl ?_
              refine r_iconst (pc := 121) hX 1 dL_tree_121 (by decide) ?_
              refine r_isub (pc := 122) hX dL_tree_122 ?_
              refine r_callS (Z := mL_tree) (pc := 123) hX dL_tree_123 ml_L_38 mL_tree_w ((fun (_ : o_X11 S 2) (_ : o_X12 S 125 rn nn rs ns) => hr2) hm ho ) rfl rfl (Nat.le_of_ble_eq_true rfl) (by omega) rfl (Or.inr (by rw [hxn, hxz, hxc, hxs]; omega)) ?_
              refine r_istore (pc := 126) hX (L' := [_, _, _, _, _, _, _, _]) dL_tree_126 rfl rfl (Nat.le_of_ble_eq_true rfl) ?_
              refine r_iload (pc := 128) hX dL_tree_128 rfl ?_
              refine r_if_ge (pc := 130) hX 137 dL_tree_130 (by decide) (fun c130 => ?_) (fun c130 => ?_)
              · have c130d := Int32.not_lt.mpr c130
                exact absurd c130 (by decide)
              · have c130d := Int32.not_le.mp c130
                refine r_iconst (pc := 133) hX (-1) dL_tree_133 (by decide) ?_
                refine r_goto (pc := 134) hX (tgt := 159) dL_tree_134 (by decide) ?_
                exact r_ireturn (pc := 159) hX dL_tree_159 rfl rfl (by first | with_reducible rfl | (simp only [eq_true c106, eq_false c106d, eq_false c130, eq_true c130d, ↓reduceIte, if_true, if_false, decide_true, decide_false, eq_self, b2i_t, b2i_f, Bool.false_eq_true, and_true, true_and, and_false, false_and, or_true, true_or, or_false, false_or, not_true_eq_false, not_false_eq_true] <;> rfl) | simp [eq_true c106, eq_false c106d, eq_false c130, eq_true c130d]) rfl
            · have c106d := Int32.not_le.mp c106
              exact absurd (Int32.not_lt.mp hj1) c106
          refine r_aload_n (pc := 0) hX dL_tree_0 rfl ?_
          refine r_iload_n (pc := 1) hX dL_tree_1 rfl ?_
          refine r_bipush (pc := 2) hX 16 dL_tree_2 (by decide) ?_
          refine r_irem (pc := 4) hX dL_tree_4 (by decide) ?_
          refine r_callS (Z := mL_cell) (pc := 5) hX dL_tree_5 ml_L_25 mL_cell_w (sp_L_cell  (rem_nn hx) hkL) rfl rfl (Nat.le_of_ble_eq_true rfl) (by omega) rfl (Or.inl rfl) ?_
          refine r_bipush (pc := 8) hX 7 dL_tree_8 (by decide) ?_
          refine r_iload_n (pc := 10) hX dL_tree_10 rfl ?_
          refine r_imul (pc := 11) hX dL_tree_11 ?_
          refine r_iadd (pc := 12) hX dL_tree_12 ?_
          refine r_istore (pc := 13) hX (L' := [_, _, _, _, _, _, _, _]) dL_tree_13 rfl rfl (Nat.le_of_ble_eq_true rfl) ?_
          refine r_iload (pc := 15) hX dL_tree_15 rfl ?_
          refine r_if_eq (pc := 17) hX 39 dL_tree_17 (by decide) (fun c17 => ?_) (fun c17 => ?_)
          · exact absurd (by first | exact Or.inl (by assumption) | exact Or.inr (Or.inl (by assumption)) | exact Or.inr (Or.inr (by assumption))) hl
          · refine r_iload (pc := 20) hX dL_tree_20 rfl ?_
            refine r_iconst (pc := 22) hX 4 dL_tree_22 (by decide) ?_
            refine r_callS (Z := mL_below) (pc := 23) hX dL_tree_23 ml_L_31 mL_below_w (sp_L_below (by decide)) rfl rfl (Nat.le_of_ble_eq_true rfl) (by omega) rfl (Or.inl rfl) ?_
            refine r_if_eq (pc := 26) hX 39 dL_tree_26 (by decide) (fun c26 => ?_) (fun c26 => ?_)
            · exact absurd (by first | exact Or.inl (by assumption) | exact Or.inr (Or.inl (by assumption)) | exact Or.inr (Or.inr (by assumption))) hl
            · refine r_aload_n (pc := 29) hX dL_tree_29 rfl ?_
              refine r_getr (pc := 30) hX dL_tree_30 fl_L_9 rfl (o_X12_k ho) (o_X12_r0 ho) ?_
              refine r_alenR (pc := 33) hX _ dL_tree_33 (o_X12_a0 ho) rfl ?_
              refine r_bipush (pc := 34) hX 72 dL_tree_34 (by decide) ?_
              refine r_icmp_le (pc := 36) hX 89 dL_tree_36 (by decide) (fun c36 => ?_) (fun c36 => ?_)
              · have c36d := Int32.not_lt.mpr c36
                exact h89
              · have c36d := Int32.not_le.mp c36
                exact absurd (by first | exact Or.inl (by assumption) | exact Or.inr (Or.inl (by assumption)) | exact Or.inr (Or.inr (by assumption))) hl
        · have hj2 : ¬ Int32.ofNat j2 < 0 := ofNat_nlt (by have := Lw_n80 g2; omega)
          have hcan := can2 (I := I2) (kd := (2 + below_ ((cell_ k (x - x / 16 * 16) + 7 * x) >>> ((3 : Int32) &&& 31)) 7 / 2)) (Lw_c0 g2) (Lw_n80 g2) (kd_range (below_range (by decide))) (show j1 < nn2 by omega) jb2 (by omega) ((kp2 j1 jb1).trans jz1) jz2
          obtain ⟨S3, I3, rn3, nn3, v3, hr3, g3, st3, kp3, pv3⟩ := node_ex (l := l) (k := k) g2 (fun _ => hcan)
          refine ⟨S3, I3, rn3, nn3, v3, ?_, g3, Step_tr st1 (Step_tr st2 st3), fun j hj => ?_, ?_⟩
          · obtain ⟨⟨s1, s2, s3⟩, -⟩ := id st1
            obtain ⟨⟨s4, s5, s6⟩, -⟩ := id st2
            obtain ⟨⟨s7, s8, s9⟩, -⟩ := id st3
            refine im_run (by decide +kernel) ⟨by omega, by omega⟩ (Nat.le_of_ble_eq_true rfl) ?_
            intro X hl' hX hxn hxz hxc hxs
            subst hl'
            change im_E X k _ 0 [some (.ref 2), some (.ref 125), some (.ref 0), some (.int x), some (.int (Int32.ofNat (m + 1))), none, none, none] [] S I
            have h89 : im_E X k (im_Q X k (some (.int (v3))) (S3, I3)) 89 [some (.ref 2), some (.ref 125), some (.ref 0), some (.int x), some (.int (Int32.ofNat (m + 1))), some (.int (cell_ k (x - x / 16 * 16) + 7 * x)), none, none] [] S I := by
              refine r_aload_n (pc := 89) hX dL_tree_89 rfl ?_
              refine r_aload_n (pc := 90) hX dL_tree_90 rfl ?_
              refine r_aload_n (pc := 91) hX dL_tree_91 rfl ?_
              refine r_iload_n (pc := 92) hX dL_tree_92 rfl ?_
              refine r_iconst (pc := 93) hX 3 dL_tree_93 (by decide) ?_
              refine r_iadd (pc := 94) hX dL_tree_94 ?_
              refine r_iload (pc := 95) hX dL_tree_95 rfl ?_
              refine r_iconst (pc := 97) hX 1 dL_tree_97 (by decide) ?_
              refine r_isub (pc := 98) hX dL_tree_98 ?_
              refine r_callS (Z := mL_tree) (pc := 99) hX dL_tree_99 ml_L_38 mL_tree_w ((fun (_ : o_X11 S 2) (_ : o_X12 S 125 rn nn rs ns) => hr1) hm ho ) rfl rfl (Nat.le_of_ble_eq_true rfl) (by omega) rfl (Or.inr (by rw [hxn, hxz, hxc, hxs]; omega)) ?_
              refine r_istore (pc := 102) hX (L' := [_, _, _, _, _, _, _, _]) dL_tree_102 rfl rfl (Nat.le_of_ble_eq_true rfl) ?_
              refine r_iload (pc := 104) hX dL_tree_104 rfl ?_
              refine r_if_ge (pc := 106) hX 113 dL_tree_106 (by decide) (fun c106 => ?_) (fun c106 => ?_)
              · have c106d := Int32.not_lt.mpr c106
                refine r_aload_n (pc := 113) hX dL_tree_113 rfl ?_
                refine r_aload_n (pc := 114) hX dL_tree_114 rfl ?_
                refine r_aload_n (pc := 115) hX dL_tree_115 rfl ?_
                refine r_iload_n (pc := 116) hX dL_tree_116 rfl ?_
                refine r_iconst (pc := 117) hX 5 dL_tree_117 (by decide) ?_
                refine r_iadd (pc := 118) hX dL_tree_118 ?_
                refine r_iload (pc := 119) hX dL_tree_119 rfl ?_
                refine r_iconst (pc := 121) hX 1 dL_tree_121 (by decide) ?_
                refine r_isub (pc := 122) hX dL_tree_122 ?_
                refine r_callS (Z := mL_tree) (pc := 123) hX dL_tree_123 ml_L_38 mL_tree_w ((fun (_ : o_X11 S 2) (_ : o_X12 S 125 rn nn rs ns) => hr2) hm ho ) rfl rfl (Nat.le_of_ble_eq_true rfl) (by omega) rfl (Or.inr (by rw [hxn, hxz, hxc, hxs]; omega)) ?_
                refine r_istore (pc := 126) hX (L' := [_, _, _, _, _, _, _, _]) dL_tree_126 rfl rfl (Nat.le_of_ble_eq_true rfl) ?_
                refine r_iload (pc := 128) hX dL_tree_128 rfl ?_
                refine r_if_ge (pc := 130) hX 137 dL_tree_130 (by decide) (fun c130 => ?_) (fun c130 => ?_)
                · have c130d := Int32.not_lt.mpr c130
                  refine r_aload_n (pc := 137) hX dL_tree_137 rfl ?_
                  refine r_aload_n (pc := 138) hX dL_tree_138 rfl ?_
                  refine r_iconst (pc := 139) hX 2 dL_tree_139 (by decide) ?_
                  refine r_iload (pc := 140) hX dL_tree_140 rfl ?_
                  refine r_iconst (pc := 142) hX 3 dL_tree_142 (by decide) ?_
                  refine r_ishr (pc := 143) hX dL_tree_143 ?_
                  refine r_bipush (pc := 144) hX 7 dL_tree_144 (by decide) ?_
                  refine r_callS (Z := mL_below) (pc := 146) hX dL_tree_146 ml_L_31 mL_below_w (sp_L_below (by decide)) rfl rfl (Nat.le_of_ble_eq_true rfl) (by omega) rfl (Or.inl rfl) ?_
                  refine r_iconst (pc := 149) hX 2 dL_tree_149 (by decide) ?_
                  refine r_idiv (pc := 150) hX dL_tree_150 (by decide) ?_
                  refine r_iadd (pc := 151) hX dL_tree_151 ?_
                  refine r_iload (pc := 152) hX dL_tree_152 rfl ?_
                  refine r_iload (pc := 154) hX dL_tree_154 rfl ?_
                  refine r_callS (Z := mL_node) (pc := 156) hX dL_tree_156 ml_L_35 mL_node_w ((fun (_ : o_X11 S 2) (_ : o_X12 S 125 rn nn rs ns) => hr3) hm ho) rfl rfl (Nat.le_of_ble_eq_true rfl) (by omega) rfl (Or.inr (by rw [hxn, hxz, hxc, hxs]; omega)) ?_
                  exact r_ireturn (pc := 159) hX dL_tree_159 rfl rfl (by first | with_reducible rfl | (simp only [eq_true c106, eq_false c106d, eq_true c130, eq_false c130d, ↓reduceIte, if_true, if_false, decide_true, decide_false, eq_self, b2i_t, b2i_f, Bool.false_eq_true, and_true, true_and, and_false, false_and, or_true, true_or, or_false, false_or, not_true_eq_false, not_false_eq_true] <;> rfl) | simp [eq_true c106, eq_false c106d, eq_true c130, eq_false c130d]) rfl
                · have c130d := Int32.not_le.mp c130
                  exact absurd (Int32.not_lt.mp hj2) c130
              · have c106d := Int32.not_le.mp c106
                exact absurd (Int32.not_lt.mp hj1) c106
            refine r_aload_n (pc := 0) hX dL_tree_0 rfl ?_
            refine r_iload_n (pc := 1) hX dL_tree_1 rfl ?_
            refine r_bipush (pc := 2) hX 16 dL_tree_2 (by decide) ?_
            refine r_irem (pc := 4) hX dL_tree_4 (by decide) ?_
            refine r_callS (Z := mL_cell) (pc := 5) hX dL_tree_5 ml_L_25 mL_cell_w (sp_L_cell  (rem_nn hx) hkL) rfl rfl (Nat.le_of_ble_eq_true rfl) (by omega) rfl (Or.inl rfl) ?_
            refine r_bipush (pc := 8) hX 7 dL_tree_8 (by decide) ?_
            refine r_iload_n (pc := 10) hX dL_tree_10 rfl ?_
            refine r_imul (pc := 11) hX dL_tree_11 ?_
            refine r_iadd (pc := 12) hX dL_tree_12 ?_
            refine r_istore (pc := 13) hX (L' := [_, _, _, _, _, _, _, _]) dL_tree_13 rfl rfl (Nat.le_of_ble_eq_true rfl) ?_
            refine r_iload (pc := 15) hX dL_tree_15 rfl ?_
            refine r_if_eq (pc := 17) hX 39 dL_tree_17 (by decide) (fun c17 => ?_) (fun c17 => ?_)
            · exact absurd (by first | exact Or.inl (by assumption) | exact Or.inr (Or.inl (by assumption)) | exact Or.inr (Or.inr (by assumption))) hl
            · refine r_iload (pc := 20) hX dL_tree_20 rfl ?_
              refine r_iconst (pc := 22) hX 4 dL_tree_22 (by decide) ?_
              refine r_callS (Z := mL_below) (pc := 23) hX dL_tree_23 ml_L_31 mL_below_w (sp_L_below (by decide)) rfl rfl (Nat.le_of_ble_eq_true rfl) (by omega) rfl (Or.inl rfl) ?_
              refine r_if_eq (pc := 26) hX 39 dL_tree_26 (by decide) (fun c26 => ?_) (fun c26 => ?_)
              · exact absurd (by first | exact Or.inl (by assumption) | exact Or.inr (Or.inl (by assumption)) | exact Or.inr (Or.inr (by assumption))) hl
              · refine r_aload_n (pc := 29) hX dL_tree_29 rfl ?_
                refine r_getr (pc := 30) hX dL_tree_30 fl_L_9 rfl (o_X12_k ho) (o_X12_r0 ho) ?_
                refine r_alenR (pc := 33) hX _ dL_tree_33 (o_X12_a0 ho) rfl ?_
                refine r_bipush (pc := 34) hX 72 dL_tree_34 (by decide) ?_
                refine r_icmp_le (pc := 36) hX 89 dL_tree_36 (by decide) (fun c36 => ?_) (fun c36 => ?_)
                · have c36d := Int32.not_lt.mpr c36
                  exact h89
                · have c36d := Int32.not_le.mp c36
                  exact absurd (by first | exact Or.inl (by assumption) | exact Or.inr (Or.inl (by assumption)) | exact Or.inr (Or.inr (by assumption))) hl
          · refine (kp3 j (by omega) (Or.inl ⟨fun e => ?_, fun e => ?_⟩)).trans ((kp2 j (by omega)).trans (kp1 j hj))
            · have := congrArg Int32.toNatClampNeg e
              rw [ofNat_nat (by have := Lw_n80 g1; omega), ofNat_nat (by have := Lw_n80 g1; omega)] at this
              omega
            · have := congrArg Int32.toNatClampNeg e
              rw [ofNat_nat (by have := Lw_n80 g2; omega), ofNat_nat (by have := Lw_n80 g1; omega)] at this
              omega
          · rcases pv3 with e | ⟨e1, e2, e3⟩
            · exact Or.inl e
            · exact Or.inr ⟨nn2, e1, by omega, e2, e3⟩
