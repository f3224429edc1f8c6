/-! Own.value, by gen16.py -/
theorem part1 {f : Nat → Nat → Int32} {nn n j : Nat} (hno : nodesOk f nn) (hj : j < nn) (hl : j < n + 1) (c : ¬ f j 0 < 2) : ∃ x, x < n ∧ x < nn ∧ f j 1 = Int32.ofNat x := by
  obtain ⟨⟨x, hx, e⟩, -⟩ := (hno j hj).2 c
  exact ⟨x, by omega, by omega, e⟩
theorem part2 {f : Nat → Nat → Int32} {nn n j : Nat} (hno : nodesOk f nn) (hj : j < nn) (hl : j < n + 1) (c : ¬ f j 0 < 2) : ∃ x, x < n ∧ x < nn ∧ f j 2 = Int32.ofNat x := by
  obtain ⟨-, ⟨x, hx, e⟩⟩ := (hno j hj).2 c
  exact ⟨x, by omega, by omega, e⟩
set_option maxRecDepth 100000 in
set_option maxHeartbeats 1000000 in
theorem sp_X12_value {l : Launch} {k : im_K} {S : im_S} {I : im_I} {a rn nn rs ns x2 : Nat} (h : o_X12 S a rn nn rs ns) (hx2 : im_k S x2 = (20, 8)) (hro : rowsOk S rn nn) (hno : nodesOk (rowAt S I rn) nn) (hnn : nn < 2 ^ 31) : ∀ (n : Nat) (v : Int32), (∃ x, x < n ∧ x < nn ∧ v = Int32.ofNat x) → im_Runs l k n mX12_value [.ref a, .int v, .ref x2] (S, I) (some (.int (worth_ (rowAt S I rn) (I x2) n v.toNatClampNeg))) (S, I) := by
  intro n
  induction n with
  | zero =>
    rintro v ⟨x, hx, -⟩
    omega
  | succ n ih =>
    rintro v ⟨x, hx, hxn, hv⟩
    have hvx : v.toNatClampNeg = x := by rw [hv]; exact Int32.toNatClampNeg_ofNat_of_lt (by omega)
    have hvt : v.toInt = x := by rw [hv]; exact Int32.toInt_ofNat_of_lt (by omega)
    have hvn : v.toNatClampNeg < nn := by omega
    have hvl : v.toNatClampNeg < n + 1 := by omega
    have hvp : vp_in v nn := vp_in3 _ _ (by omega)
    refine im_run (by decide +kernel) ⟨Nat.le_refl _, Nat.le_refl _⟩ (Nat.le_of_ble_eq_true rfl) ?_
    intro X hl hX hxn hxz hxc hxs
    subst hl
    change im_E X k _ 0 [some (.ref a), some (.int v), some (.ref x2), none, none, none] [] S I
    refine r_aload_n (pc := 0) hX dX12_value_0 rfl ?_
    refine r_getr (pc := 1) hX dX12_value_1 fl_X12_9 rfl (o_X12_k h) (o_X12_r0 h) ?_
    refine r_iload_n (pc := 4) hX dX12_value_4 rfl ?_
    refine r_aald (pc := 5) hX dX12_value_5 (o_X12_a0 h) hvp (hro _ hvn).1 ?_
    refine r_astore_n (pc := 6) hX (L' := [_, _, _, _, _, _]) dX12_value_6 rfl rfl (Nat.le_of_ble_eq_true rfl) ?_
    refine r_aload_n (pc := 7) hX dX12_value_7 rfl ?_
    refine r_iconst (pc := 8) hX 0 dX12_value_8 (by decide) ?_
    refine r_ialdc (pc := 9) hX 0 rfl dX12_value_9 (hro _ hvn).2 (vp_in3 _ _ (by decide)) ?_
    refine r_iconst (pc := 10) hX 2 dX12_value_10 (by decide) ?_
    refine r_icmp_ge (pc := 11) hX 32 dX12_value_11 (by decide) (fun c11 => ?_) (fun c11 => ?_)
    · have c11d := Int32.not_lt.mpr c11
      refine r_aload_n (pc := 32) hX dX12_value_32 rfl ?_
      refine r_aload_n (pc := 33) hX dX12_value_33 rfl ?_
      refine r_iconst (pc := 34) hX 1 dX12_value_34 (by decide) ?_
      refine r_ialdc (pc := 35) hX 1 rfl dX12_value_35 (hro _ hvn).2 (vp_in3 _ _ (by decide)) ?_
      refine r_aload_n (pc := 36) hX dX12_value_36 rfl ?_
      refine r_callV (Z := mX12_value) (t := 12) (pc := 37) hX dX12_value_37 ml_X12_47 mX12_value_w ⟨by decide, rfl⟩ (o_X12_k h) ((fun (_ : o_X12 S a rn nn rs ns) (_ : im_k S x2 = (20, 8)) => ih _ (part1 hno hvn hvl c11d)) h hx2) rfl rfl (Nat.le_of_ble_eq_true rfl) (Nat.lt_succ_self _) rfl (Or.inl rfl) ?_
      refine r_istore (pc := 40) hX (L' := [_, _, _, _, _, _]) dX12_value_40 rfl rfl (Nat.le_of_ble_eq_true rfl) ?_
      refine r_aload_n (pc := 42) hX dX12_value_42 rfl ?_
      refine r_aload_n (pc := 43) hX dX12_value_43 rfl ?_
      refine r_iconst (pc := 44) hX 2 dX12_value_44 (by decide) ?_
      refine r_ialdc (pc := 45) hX 2 rfl dX12_value_45 (hro _ hvn).2 (vp_in3 _ _ (by decide)) ?_
      refine r_aload_n (pc := 46) hX dX12_value_46 rfl ?_
      refine r_callV (Z := mX12_value) (t := 12) (pc := 47) hX dX12_value_47 ml_X12_47 mX12_value_w ⟨by decide, rfl⟩ (o_X12_k h) ((fun (_ : o_X12 S a rn nn rs ns) (_ : im_k S x2 = (20, 8)) => ih _ (part2 hno hvn hvl c11d)) h hx2) rfl rfl (Nat.le_of_ble_eq_true rfl) (Nat.lt_succ_self _) rfl (Or.inl rfl) ?_
      refine r_istore (pc := 50) hX (L' := [_, _, _, _, _, _]) dX12_value_50 rfl rfl (Nat.le_of_ble_eq_true rfl) ?_
      refine r_aload_n (pc := 52) hX dX12_value_52 rfl ?_
      refine r_iconst (pc := 53) hX 0 dX12_value_53 (by decide) ?_
      refine r_ialdc (pc := 54) hX 0 rfl dX12_value_54 (hro _ hvn).2 (vp_in3 _ _ (by decide)) ?_
      refine r_iconst (pc := 55) hX 2 dX12_value_55 (by decide) ?_
      refine r_icmp_ne (pc := 56) hX 67 dX12_value_56 (by decide) (fun c56 => ?_) (fun c56 => ?_)
      · refine r_aload_n (pc := 67) hX dX12_value_67 rfl ?_
        refine r_iconst (pc := 68) hX 0 dX12_value_68 (by decide) ?_
        refine r_ialdc (pc := 69) hX 0 rfl dX12_value_69 (hro _ hvn).2 (vp_in3 _ _ (by decide)) ?_
        refine r_iconst (pc := 70) hX 3 dX12_value_70 (by decide) ?_
        refine r_icmp_ne (pc := 71) hX 82 dX12_value_71 (by decide) (fun c71 => ?_) (fun c71 => ?_)
        · refine r_aload_n (pc := 82) hX dX12_value_82 rfl ?_
          refine r_iconst (pc := 83) hX 0 dX12_value_83 (by decide) ?_
          refine r_ialdc (pc := 84) hX 0 rfl dX12_value_84 (hro _ hvn).2 (vp_in3 _ _ (by decide)) ?_
          refine r_iconst (pc := 85) hX 4 dX12_value_85 (by decide) ?_
          refine r_icmp_ne (pc := 86) hX 97 dX12_value_86 (by decide) (fun c86 => ?_) (fun c86 => ?_)
          · refine r_iconst (pc := 97) hX 1 dX12_value_97 (by decide) ?_
            refine r_iconst (pc := 98) hX 2 dX12_value_98 (by decide) ?_
            refine r_iload (pc := 99) hX dX12_value_99 rfl ?_
            refine r_imul (pc := 101) hX dX12_value_101 ?_
            refine r_iadd (pc := 102) hX dX12_value_102 ?_
            refine r_iconst (pc := 103) hX 3 dX12_value_103 (by decide) ?_
            refine r_iload (pc := 104) hX dX12_value_104 rfl ?_
            refine r_imul (pc := 106) hX dX12_value_106 ?_
            refine r_iadd (pc := 107) hX dX12_value_107 ?_
            exact r_ireturn (pc := 108) hX dX12_value_108 rfl rfl (by first | with_reducible rfl | (simp only [worth_s, rowAt, eq_true c11, eq_false c11d, eq_false c56, eq_false c71, eq_false c86, ↓reduceIte, if_true, if_false, decide_true, decide_false, eq_self, b2i_t, b2i_f, Bool.false_eq_true, and_true, true_and, and_false, false_and, or_true, true_or, or_false, false_or, not_true_eq_false, not_false_eq_true] <;> rfl) | simp [worth_s, rowAt, eq_true c11, eq_false c11d, eq_false c56, eq_false c71, eq_false c86]) rfl
          · refine r_iload (pc := 89) hX dX12_value_89 rfl ?_
            refine r_iload (pc := 91) hX dX12_value_91 rfl ?_
            refine r_imul (pc := 93) hX dX12_value_93 ?_
            refine r_goto (pc := 94) hX (tgt := 108) dX12_value_94 (by decide) ?_
            exact r_ireturn (pc := 108) hX dX12_value_108 rfl rfl (by first | with_reducible rfl | (simp only [worth_s, rowAt, eq_true c11, eq_false c11d, eq_false c56, eq_false c71, eq_true c86, ↓reduceIte, if_true, if_false, decide_true, decide_false, eq_self, b2i_t, b2i_f, Bool.false_eq_true, and_true, true_and, and_false, false_and, or_true, true_or, or_false, false_or, not_true_eq_false, not_false_eq_true] <;> rfl) | simp [worth_s, rowAt, eq_true c11, eq_false c11d, eq_false c56, eq_false c71, eq_true c86]) rfl
        · refine r_iload (pc := 74) hX dX12_value_74 rfl ?_
          refine r_iload (pc := 76) hX dX12_value_76 rfl ?_
          refine r_isub (pc := 78) hX dX12_value_78 ?_
          refine r_goto (pc := 79) hX (tgt := 108) dX12_value_79 (by decide) ?_
          exact r_ireturn (pc := 108) hX dX12_value_108 rfl rfl (by first | with_reducible rfl | (simp only [worth_s, rowAt, eq_true c11, eq_false c11d, eq_false c56, eq_true c71, ↓reduceIte, if_true, if_false, decide_true, decide_false, eq_self, b2i_t, b2i_f, Bool.false_eq_true, and_true, true_and, and_false, false_and, or_true, true_or, or_false, false_or, not_true_eq_false, not_false_eq_true] <;> rfl) | simp [worth_s, rowAt, eq_true c11, eq_false c11d, eq_false c56, eq_true c71]) rfl
      · refine r_iload (pc := 59) hX dX12_value_59 rfl ?_
        refine r_iload (pc := 61) hX dX12_value_61 rfl ?_
        refine r_iadd (pc := 63) hX dX12_value_63 ?_
        refine r_goto (pc := 64) hX (tgt := 108) dX12_value_64 (by decide) ?_
        exact r_ireturn (pc := 108) hX dX12_value_108 rfl rfl (by first | with_reducible rfl | (simp only [worth_s, rowAt, eq_true c11, eq_false c11d, eq_true c56, ↓reduceIte, if_true, if_false, decide_true, decide_false, eq_self, b2i_t, b2i_f, Bool.false_eq_true, and_true, true_and, and_false, false_and, or_true, true_or, or_false, false_or, not_true_eq_false, not_false_eq_true] <;> rfl) | simp [worth_s, rowAt, eq_true c11, eq_false c11d, eq_true c56]) rfl
    · have c11d := Int32.not_le.mp c11
      refine r_aload_n (pc := 14) hX dX12_value_14 rfl ?_
      refine r_iconst (pc := 15) hX 0 dX12_value_15 (by decide) ?_
      refine r_ialdc (pc := 16) hX 0 rfl dX12_value_16 (hro _ hvn).2 (vp_in3 _ _ (by decide)) ?_
      refine r_if_ne (pc := 17) hX 26 dX12_value_17 (by decide) (fun c17 => ?_) (fun c17 => ?_)
      · refine r_aload_n (pc := 26) hX dX12_value_26 rfl ?_
        refine r_aload_n (pc := 27) hX dX12_value_27 rfl ?_
        refine r_iconst (pc := 28) hX 1 dX12_value_28 (by decide) ?_
        refine r_ialdc (pc := 29) hX 1 rfl dX12_value_29 (hro _ hvn).2 (vp_in3 _ _ (by decide)) ?_
        refine r_iald (pc := 30) hX dX12_value_30 hx2 ((hno _ hvn).1 (Int32.not_le.mp c11) c17) ?_
        exact r_ireturn (pc := 31) hX dX12_value_31 rfl rfl (by first | with_reducible rfl | (simp only [worth_s, rowAt, eq_false c11, eq_true c11d, eq_false c17, ↓reduceIte, if_true, if_false, decide_true, decide_false, eq_self, b2i_t, b2i_f, Bool.false_eq_true, and_true, true_and, and_false, false_and, or_true, true_or, or_false, false_or, not_true_eq_false, not_false_eq_true] <;> rfl) | simp [worth_s, rowAt, eq_false c11, eq_true c11d, eq_false c17]) rfl
      · refine r_aload_n (pc := 20) hX dX12_value_20 rfl ?_
        refine r_iconst (pc := 21) hX 1 dX12_value_21 (by decide) ?_
        refine r_ialdc (pc := 22) hX 1 rfl dX12_value_22 (hro _ hvn).2 (vp_in3 _ _ (by decide)) ?_
        refine r_goto (pc := 23) hX (tgt := 31) dX12_value_23 (by decide) ?_
        exact r_ireturn (pc := 31) hX dX12_value_31 rfl rfl (by first | with_reducible rfl | (simp only [worth_s, rowAt, eq_false c11, eq_true c11d, eq_true c17, ↓reduceIte, if_true, if_false, decide_true, decide_false, eq_self, b2i_t, b2i_f, Bool.false_eq_true, and_true, true_and, and_false, false_and, or_true, true_or, or_false, false_or, not_true_eq_false, not_false_eq_true] <;> rfl) | simp [worth_s, rowAt, eq_false c11, eq_true c11d, eq_true c17]) rfl
