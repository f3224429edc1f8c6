/-! walks, by program out of spec4.py -/
set_option maxRecDepth 100000 in
set_option maxHeartbeats 4000000 in
theorem sp_X0_coverAll {l : Launch} {k : im_K} {S : im_S} {I : im_I} {a m : Nat} (h : o_X0 S a m) (ha : 11 < a) : im_Runs l k 3 mX0_coverAll [.ref a] (S, I) (none) (S, coverAll_ I a m) := by
  refine im_run (by decide +kernel) ⟨Nat.le_refl _, Nat.le_refl _⟩ (Nat.le_of_ble_eq_true rfl) ?_
  intro X hl hX hxn hxz hxc hxs
  subst hl
  change im_E X k _ 0 [some (.ref a), none, none] [] S I
  refine r_aload_n (pc := 0) hX dX0_coverAll_0 rfl ?_
  refine r_bipush (pc := 1) hX 8 dX0_coverAll_1 (by decide) ?_
  refine r_puti (pc := 3) hX dX0_coverAll_3 fl_X0_44 rfl rfl (o_X0_k h) ?_
  refine r_iconst (pc := 6) hX 0 dX0_coverAll_6 (by decide) ?_
  refine r_istore_n (pc := 7) hX (L' := [_, _, _]) dX0_coverAll_7 rfl rfl (Nat.le_of_ble_eq_true rfl) ?_
  have hL8 : ∀ (n1 : Nat) (i1 : Int32) (J1 : im_I), J1 3 0 = I 3 0 → cnt i1 (I 3 0) = n1 → loopN n1 i1 (coverOne_ a m) J1 = loopN (cnt (0) (I 3 0)) (0) (coverOne_ a m) (im_up I a 11 8) → im_E X k (im_Q X k (none) (S, coverAll_ I a m)) 8 [some (.ref a), some (.int i1), none] [] S J1 := by
    intro n1
    induction n1 with
    | zero =>
      intro i1 J1 hf1 hm1 hR1
      refine r_iload_n (pc := 8) hX dX0_coverAll_8 rfl ?_
      refine r_aload_n (pc := 9) hX dX0_coverAll_9 rfl ?_
      refine r_getr (pc := 10) hX dX0_coverAll_10 fl_X0_9 rfl (o_X0_k h) (o_X0_r1 h) ?_
      refine r_geti (pc := 13) hX dX0_coverAll_13 fl_X0_48 rfl (o_X8_k (o_X0_o1 h)) ?_
      refine r_icmp_ge (pc := 16) hX 88 dX0_coverAll_16 (by decide) (fun c16 => ?_) (fun c16 => ?_)
      · have c16d := Int32.not_lt.mpr c16
        rw [loopN_0] at hR1
        subst hR1
        exact r_return (pc := 88) hX dX0_coverAll_88 rfl rfl (by first | with_reducible rfl | (simp only [coverAll_, coverOne_, loopC, eq_true c16, eq_false c16d, ↓reduceIte, if_true, if_false, decide_true, decide_false, eq_self, b2i_t, b2i_f, Bool.false_eq_true, and_true, true_and, and_false, false_and, or_true, true_or, or_false, false_or, not_true_eq_false, not_false_eq_true] <;> rfl) | simp [coverAll_, coverOne_, loopC, eq_true c16, eq_false c16d])
      · have c16d := Int32.not_le.mp c16
        rw [hf1] at c16; exact (cnt_ex hm1  c16).elim
    | succ n1 ih1 =>
      intro i1 J1 hf1 hm1 hR1
      refine r_iload_n (pc := 8) hX dX0_coverAll_8 rfl ?_
      refine r_aload_n (pc := 9) hX dX0_coverAll_9 rfl ?_
      refine r_getr (pc := 10) hX dX0_coverAll_10 fl_X0_9 rfl (o_X0_k h) (o_X0_r1 h) ?_
      refine r_geti (pc := 13) hX dX0_coverAll_13 fl_X0_48 rfl (o_X8_k (o_X0_o1 h)) ?_
      refine r_icmp_ge (pc := 16) hX 88 dX0_coverAll_16 (by decide) (fun c16 => ?_) (fun c16 => ?_)
      · have c16d := Int32.not_lt.mpr c16
        rw [hf1] at c16; exact (cnt_go hm1  c16).elim
      · have c16d := Int32.not_le.mp c16
        refine r_aload_n (pc := 19) hX dX0_coverAll_19 rfl ?_
        refine r_getr (pc := 20) hX dX0_coverAll_20 fl_X0_9 rfl (o_X0_k h) (o_X0_r1 h) ?_
        refine r_getr (pc := 23) hX dX0_coverAll_23 fl_X0_53 rfl (o_X8_k (o_X0_o1 h)) (o_X8_r4 (o_X0_o1 h)) ?_
        refine r_iload_n (pc := 26) hX dX0_coverAll_26 rfl ?_
        refine r_callSN (Z := mX11_at) (pc := 27) hX dX0_coverAll_27 mn_X0_54 mX11_at_w (sp_X11_at (o_X8_a4 (o_X0_o1 h))) rfl rfl (Nat.le_of_ble_eq_true rfl) (by decide) rfl (Or.inl rfl) ?_
        refine r_istore_n (pc := 30) hX (L' := [_, _, _]) dX0_coverAll_30 rfl rfl (Nat.le_of_ble_eq_true rfl) ?_
        refine r_aload_n (pc := 31) hX dX0_coverAll_31 rfl ?_
        refine r_getr (pc := 32) hX dX0_coverAll_32 fl_X0_26 rfl (o_X0_k h) (o_X0_r4 h) ?_
        refine r_iload_n (pc := 35) hX dX0_coverAll_35 rfl ?_
        refine r_iconst (pc := 36) hX 0 dX0_coverAll_36 (by decide) ?_
        refine r_callSN (Z := mX11_put) (pc := 37) hX dX0_coverAll_37 mn_X0_58 mX11_put_w (sp_X11_put (o_X0_a4 h)) rfl rfl (Nat.le_of_ble_eq_true rfl) (by decide) rfl (Or.inl rfl) ?_
        refine r_iload_n (pc := 40) hX dX0_coverAll_40 rfl ?_
        refine r_iconst (pc := 41) hX 2 dX0_coverAll_41 (by decide) ?_
        refine r_icmp_ge (pc := 42) hX 54 dX0_coverAll_42 (by decide) (fun c42 => ?_) (fun c42 => ?_)
        · have c42d := Int32.not_lt.mpr c42
          refine r_aload_n (pc := 54) hX dX0_coverAll_54 rfl ?_
          refine r_iload_n (pc := 55) hX dX0_coverAll_55 rfl ?_
          refine r_iload_n (pc := 56) hX dX0_coverAll_56 rfl ?_
          refine r_iconst (pc := 57) hX 5 dX0_coverAll_57 (by decide) ?_
          refine r_icmp_ne (pc := 58) hX 66 dX0_coverAll_58 (by decide) (fun c58 => ?_) (fun c58 => ?_)
          · refine r_iload_n (pc := 66) hX dX0_coverAll_66 rfl ?_
            refine r_callV (Z := mX0_coverPlain) (t := 0) (pc := 67) hX dX0_coverAll_67 ml_X0_66 mX0_coverPlain_w ⟨by decide, rfl⟩ (o_X0_k h) (sp_X0_coverPlain h) rfl rfl (Nat.le_of_ble_eq_true rfl) (by decide) rfl (Or.inl rfl) ?_
            refine r_aload_n (pc := 70) hX dX0_coverAll_70 rfl ?_
            refine r_iload_n (pc := 71) hX dX0_coverAll_71 rfl ?_
            refine r_iload_n (pc := 72) hX dX0_coverAll_72 rfl ?_
            refine r_callV (Z := mX0_coverSmall) (t := 0) (pc := 73) hX dX0_coverAll_73 ml_X0_69 mX0_coverSmall_w ⟨by decide, rfl⟩ (o_X0_k h) (sp_X0_coverSmall h) rfl rfl (Nat.le_of_ble_eq_true rfl) (by decide) rfl (Or.inl rfl) ?_
            refine r_aload_n (pc := 76) hX dX0_coverAll_76 rfl ?_
            refine r_iload_n (pc := 77) hX dX0_coverAll_77 rfl ?_
            refine r_iload_n (pc := 78) hX dX0_coverAll_78 rfl ?_
            refine r_callV (Z := mX0_coverFused) (t := 0) (pc := 79) hX dX0_coverAll_79 ml_X0_72 mX0_coverFused_w ⟨by decide, rfl⟩ (o_X0_k h) (sp_X0_coverFused h) rfl rfl (Nat.le_of_ble_eq_true rfl) (by decide) rfl (Or.inl rfl) ?_
            refine r_iinc (pc := 82) hX 1 (L' := [_, _, _]) dX0_coverAll_82 rfl (by decide) rfl rfl ?_
            refine r_goto (pc := 85) hX (tgt := 8) dX0_coverAll_85 (by decide) ?_
            refine r_weak (L' := [some _, some _, none]) (And.intro rfl (And.intro rfl trivial)) ?_
            refine r_mem (I' := (coverOne_ a m) i1 J1) (by first | with_reducible rfl | (simp only [coverAll_, coverOne_, loopC, eq_false c16, eq_true c16d, eq_true c42, eq_false c42d, eq_false c58, ↓reduceIte, if_true, if_false, decide_true, decide_false, eq_self, b2i_t, b2i_f, Bool.false_eq_true, and_true, true_and, and_false, false_and, or_true, true_or, or_false, false_or, not_true_eq_false, not_false_eq_true] <;> rfl) | simp [coverAll_, coverOne_, loopC, eq_false c16, eq_true c16d, eq_true c42, eq_false c42d, eq_false c58]) ?_
            exact ih1 _ _ ((congrFun (coverOne_fr ha) 0).trans hf1) (cnt_nx hm1) (loopN_s.symm.trans hR1)
          · refine r_bipush (pc := 61) hX 9 dX0_coverAll_61 (by decide) ?_
            refine r_goto (pc := 63) hX (tgt := 67) dX0_coverAll_63 (by decide) ?_
            refine r_callV (Z := mX0_coverPlain) (t := 0) (pc := 67) hX dX0_coverAll_67 ml_X0_66 mX0_coverPlain_w ⟨by decide, rfl⟩ (o_X0_k h) (sp_X0_coverPlain h) rfl rfl (Nat.le_of_ble_eq_true rfl) (by decide) rfl (Or.inl rfl) ?_
            refine r_aload_n (pc := 70) hX dX0_coverAll_70 rfl ?_
            refine r_iload_n (pc := 71) hX dX0_coverAll_71 rfl ?_
            refine r_iload_n (pc := 72) hX dX0_coverAll_72 rfl ?_
            refine r_callV (Z := mX0_coverSmall) (t := 0) (pc := 73) hX dX0_coverAll_73 ml_X0_69 mX0_coverSmall_w ⟨by decide, rfl⟩ (o_X0_k h) (sp_X0_coverSmall h) rfl rfl (Nat.le_of_ble_eq_true rfl) (by decide) rfl (Or.inl rfl) ?_
            refine r_aload_n (pc := 76) hX dX0_coverAll_76 rfl ?_
            refine r_iload_n (pc := 77) hX dX0_coverAll_77 rfl ?_
            refine r_iload_n (pc := 78) hX dX0_coverAll_78 rfl ?_
            refine r_callV (Z := mX0_coverFused) (t := 0) (pc := 79) hX dX0_coverAll_79 ml_X0_72 mX0_coverFused_w ⟨by decide, rfl⟩ (o_X0_k h) (sp_X0_coverFused h) rfl rfl (Nat.le_of_ble_eq_true rfl) (by decide) rfl (Or.inl rfl) ?_
            refine r_iinc (pc := 82) hX 1 (L' := [_, _, _]) dX0_coverAll_82 rfl (by decide) rfl rfl ?_
            refine r_goto (pc := 85) hX (tgt := 8) dX0_coverAll_85 (by decide) ?_
            refine r_weak (L' := [some _, some _, none]) (And.intro rfl (And.intro rfl trivial)) ?_
            refine r_mem (I' := (coverOne_ a m) i1 J1) (by first | with_reducible rfl | (simp only [coverAll_, coverOne_, loopC, eq_false c16, eq_true c16d, eq_true c42, eq_false c42d, eq_true c58, ↓reduceIte, if_true, if_false, decide_true, decide_false, eq_self, b2i_t, b2i_f, Bool.false_eq_true, and_true, true_and, and_false, false_and, or_true, true_or, or_false, false_or, not_true_eq_false, not_false_eq_true] <;> rfl) | simp [coverAll_, coverOne_, loopC, eq_false c16, eq_true c16d, eq_true c42, eq_false c42d, eq_true c58]) ?_
            exact ih1 _ _ ((congrFun (coverOne_fr ha) 0).trans hf1) (cnt_nx hm1) (loopN_s.symm.trans hR1)
        · have c42d := Int32.not_le.mp c42
          refine r_aload_n (pc := 45) hX dX0_coverAll_45 rfl ?_
          refine r_iload_n (pc := 46) hX dX0_coverAll_46 rfl ?_
          refine r_iload_n (pc := 47) hX dX0_coverAll_47 rfl ?_
          refine r_callV (Z := mX0_coverLeaf) (t := 0) (pc := 48) hX dX0_coverAll_48 ml_X0_62 mX0_coverLeaf_w ⟨by decide, rfl⟩ (o_X0_k h) (sp_X0_coverLeaf h) rfl rfl (Nat.le_of_ble_eq_true rfl) (by decide) rfl (Or.inl rfl) ?_
          refine r_goto (pc := 51) hX (tgt := 82) dX0_coverAll_51 (by decide) ?_
          refine r_iinc (pc := 82) hX 1 (L' := [_, _, _]) dX0_coverAll_82 rfl (by decide) rfl rfl ?_
          refine r_goto (pc := 85) hX (tgt := 8) dX0_coverAll_85 (by decide) ?_
          refine r_weak (L' := [some _, some _, none]) (And.intro rfl (And.intro rfl trivial)) ?_
          refine r_mem (I' := (coverOne_ a m) i1 J1) (by first | with_reducible rfl | (simp only [coverAll_, coverOne_, loopC, eq_false c16, eq_true c16d, eq_false c42, eq_true c42d, ↓reduceIte, if_true, if_false, decide_true, decide_false, eq_self, b2i_t, b2i_f, Bool.false_eq_true, and_true, true_and, and_false, false_and, or_true, true_or, or_false, false_or, not_true_eq_false, not_false_eq_true] <;> rfl) | simp [coverAll_, coverOne_, loopC, eq_false c16, eq_true c16d, eq_false c42, eq_true c42d]) ?_
          exact ih1 _ _ ((congrFun (coverOne_fr ha) 0).trans hf1) (cnt_nx hm1) (loopN_s.symm.trans hR1)
  exact hL8 _ _ _ (by simp only [im_up]; rw [if_neg (by omega)]) rfl rfl
