/-! walks, by program out of spec10.py -/
set_option maxRecDepth 100000 in
set_option maxHeartbeats 1000000 in
theorem sp_X11_forget {l : Launch} {k : im_K} {S : im_S} {I : im_I} {a : Nat} (h : o_X11 S a) : im_Runs l k 0 mX11_forget [.ref a] (S, I) (none) (S, forget_ I a) := by
  refine im_run (by decide +kernel) ⟨Nat.le_refl _, Nat.le_refl _⟩ (Nat.le_of_ble_eq_true rfl) ?_
  intro X hl hX hxn hxz hxc hxs
  subst hl
  change im_E X k _ 0 [some (.ref a)] [] S I
  refine r_aload_n (pc := 0) hX dX11_forget_0 rfl ?_
  refine r_iconst (pc := 1) hX 0 dX11_forget_1 (by decide) ?_
  refine r_puti (pc := 2) hX dX11_forget_2 fl_X11_320 rfl (by first | rfl | decide) (o_X11_k h) ?_
  refine r_aload_n (pc := 5) hX dX11_forget_5 rfl ?_
  refine r_iconst (pc := 6) hX 0 dX11_forget_6 (by decide) ?_
  refine r_puti (pc := 7) hX dX11_forget_7 fl_X11_323 rfl (by first | rfl | decide) (o_X11_k h) ?_
  exact r_return (pc := 10) hX dX11_forget_10 rfl rfl (by first | with_reducible rfl | (simp only [forget_, ↓reduceIte, if_true, if_false, decide_true, decide_false, eq_self, b2i_t, b2i_f, Bool.false_eq_true, and_true, true_and, and_false, false_and, or_true, true_or, or_false, false_or, not_true_eq_false, not_false_eq_true] <;> rfl) | simp [forget_])
set_option maxRecDepth 100000 in
set_option maxHeartbeats 1000000 in
theorem sp_X11_builtNow {l : Launch} {k : im_K} {S : im_S} {I : im_I} {a : Nat} (h : o_X11 S a) : im_Runs l k 6 mX11_builtNow [.ref a] (S, I) (some (.ref 91)) (S, builtNow_ I a) := by
  refine im_run (by decide +kernel) ⟨Nat.le_refl _, Nat.le_refl _⟩ (Nat.le_of_ble_eq_true rfl) ?_
  intro X hl hX hxn hxz hxc hxs
  subst hl
  change im_E X k _ 0 [some (.ref a)] [] S I
  refine r_aload_n (pc := 0) hX dX11_builtNow_0 rfl ?_
  refine r_geti (pc := 1) hX dX11_builtNow_1 fl_X11_320 rfl (o_X11_k h) ?_
  refine r_if_ne (pc := 4) hX 31 dX11_builtNow_4 (by decide) (fun c4 => ?_) (fun c4 => ?_)
  · refine r_aload_n (pc := 31) hX dX11_builtNow_31 rfl ?_
    refine r_getr (pc := 32) hX dX11_builtNow_32 fl_X11_50 rfl (o_X11_k h) (o_X11_r6 h) ?_
    exact r_areturn (pc := 35) hX dX11_builtNow_35 rfl (Or.inl ⟨_, rfl⟩) rfl (by first | with_reducible rfl | (simp only [builtNow_, rebuilt_, eq_false c4, ↓reduceIte, if_true, if_false, decide_true, decide_false, eq_self, b2i_t, b2i_f, Bool.false_eq_true, and_true, true_and, and_false, false_and, or_true, true_or, or_false, false_or, not_true_eq_false, not_false_eq_true] <;> rfl) | simp [builtNow_, rebuilt_, eq_false c4])
  · refine r_aload_n (pc := 7) hX dX11_builtNow_7 rfl ?_
    refine r_getr (pc := 8) hX dX11_builtNow_8 fl_X11_40 rfl (o_X11_k h) (o_X11_r4 h) ?_
    refine r_iconst (pc := 11) hX 1 dX11_builtNow_11 (by decide) ?_
    refine r_callV (Z := mX7_build) (t := 7) (pc := 12) hX dX11_builtNow_12 ml_X11_281 mX7_build_w ⟨by decide, rfl⟩ (o_X7_k (o_X11_o4 h)) (sp_X7_build (o_X11_o4 h) (by decide) hs_all) rfl rfl (Nat.le_of_ble_eq_true rfl) (by decide) rfl (Or.inl rfl) ?_
    refine r_aload_n (pc := 15) hX dX11_builtNow_15 rfl ?_
    refine r_getr (pc := 16) hX dX11_builtNow_16 fl_X11_50 rfl (o_X11_k h) (o_X11_r6 h) ?_
    refine r_aload_n (pc := 19) hX dX11_builtNow_19 rfl ?_
    refine r_getr (pc := 20) hX dX11_builtNow_20 fl_X11_40 rfl (o_X11_k h) (o_X11_r4 h) ?_
    refine r_callV (Z := mX10_build) (t := 10) (pc := 23) hX dX11_builtNow_23 ml_X11_285 mX10_build_w ⟨by decide, rfl⟩ (o_X10_k (o_X11_o6 h)) (sp_X10_build (o_X11_o6 h) (o_X11_o4 h) (by decide) (by decide)) rfl rfl (Nat.le_of_ble_eq_true rfl) (by decide) rfl (Or.inl rfl) ?_
    refine r_aload_n (pc := 26) hX dX11_builtNow_26 rfl ?_
    refine r_iconst (pc := 27) hX 1 dX11_builtNow_27 (by decide) ?_
    refine r_puti (pc := 28) hX dX11_builtNow_28 fl_X11_320 rfl (by first | rfl | decide) (o_X11_k h) ?_
    refine r_aload_n (pc := 31) hX dX11_builtNow_31 rfl ?_
    refine r_getr (pc := 32) hX dX11_builtNow_32 fl_X11_50 rfl (o_X11_k h) (o_X11_r6 h) ?_
    exact r_areturn (pc := 35) hX dX11_builtNow_35 rfl (Or.inl ⟨_, rfl⟩) rfl (by first | with_reducible rfl | (simp only [builtNow_, rebuilt_, eq_true c4, ↓reduceIte, if_true, if_false, decide_true, decide_false, eq_self, b2i_t, b2i_f, Bool.false_eq_true, and_true, true_and, and_false, false_and, or_true, true_or, or_false, false_or, not_true_eq_false, not_false_eq_true] <;> rfl) | simp [builtNow_, rebuilt_, eq_true c4])
set_option maxRecDepth 100000 in
set_option maxHeartbeats 1000000 in
theorem sp_X11_meantNow {l : Launch} {k : im_K} {S : im_S} {I : im_I} {a : Nat} (h : o_X11 S a) (hrt : ∀ b j : Int32, rootOf_ I 3 b j < 2147483647) : im_Runs l k 4 mX11_meantNow [.ref a] (S, I) (some (.ref 12)) (S, meantNow_ I a) := by
  refine im_run (by decide +kernel) ⟨Nat.le_refl _, Nat.le_refl _⟩ (Nat.le_of_ble_eq_true rfl) ?_
  intro X hl hX hxn hxz hxc hxs
  subst hl
  change im_E X k _ 0 [some (.ref a)] [] S I
  refine r_aload_n (pc := 0) hX dX11_meantNow_0 rfl ?_
  refine r_geti (pc := 1) hX dX11_meantNow_1 fl_X11_323 rfl (o_X11_k h) ?_
  refine r_if_ne (pc := 4) hX 19 dX11_meantNow_4 (by decide) (fun c4 => ?_) (fun c4 => ?_)
  · refine r_aload_n (pc := 19) hX dX11_meantNow_19 rfl ?_
    refine r_getr (pc := 20) hX dX11_meantNow_20 fl_X11_21 rfl (o_X11_k h) (o_X11_r1 h) ?_
    exact r_areturn (pc := 23) hX dX11_meantNow_23 rfl (Or.inl ⟨_, rfl⟩) rfl (by first | with_reducible rfl | (simp only [meantNow_, eq_false c4, ↓reduceIte, if_true, if_false, decide_true, decide_false, eq_self, b2i_t, b2i_f, Bool.false_eq_true, and_true, true_and, and_false, false_and, or_true, true_or, or_false, false_or, not_true_eq_false, not_false_eq_true] <;> rfl) | simp [meantNow_, eq_false c4])
  · refine r_aload_n (pc := 7) hX dX11_meantNow_7 rfl ?_
    refine r_getr (pc := 8) hX dX11_meantNow_8 fl_X11_21 rfl (o_X11_k h) (o_X11_r1 h) ?_
    refine r_callV (Z := mX6_work) (t := 6) (pc := 11) hX dX11_meantNow_11 ml_X11_326 mX6_work_w ⟨by decide, rfl⟩ (o_X6_k (o_X11_o1 h)) (sp_X6_work (o_X11_o1 h) (by decide) hrt) rfl rfl (Nat.le_of_ble_eq_true rfl) (by decide) rfl (Or.inl rfl) ?_
    refine r_aload_n (pc := 14) hX dX11_meantNow_14 rfl ?_
    refine r_iconst (pc := 15) hX 1 dX11_meantNow_15 (by decide) ?_
    refine r_puti (pc := 16) hX dX11_meantNow_16 fl_X11_323 rfl (by first | rfl | decide) (o_X11_k h) ?_
    refine r_aload_n (pc := 19) hX dX11_meantNow_19 rfl ?_
    refine r_getr (pc := 20) hX dX11_meantNow_20 fl_X11_21 rfl (o_X11_k h) (o_X11_r1 h) ?_
    exact r_areturn (pc := 23) hX dX11_meantNow_23 rfl (Or.inl ⟨_, rfl⟩) rfl (by first | with_reducible rfl | (simp only [meantNow_, eq_true c4, ↓reduceIte, if_true, if_false, decide_true, decide_false, eq_self, b2i_t, b2i_f, Bool.false_eq_true, and_true, true_and, and_false, false_and, or_true, true_or, or_false, false_or, not_true_eq_false, not_false_eq_true] <;> rfl) | simp [meantNow_, eq_true c4])
set_option maxRecDepth 100000 in
set_option maxHeartbeats 1000000 in
theorem sp_X11_builtWith {l : Launch} {k : im_K} {S : im_S} {I : im_I} {a : Nat} {p0 : Int32} {p1 : Int32} {p2 : Int32} (h : o_X11 S a) (hz : (I 15 3 = 0 ∨ I 15 3 = 1) ∧ (I 15 4 = 0 ∨ I 15 4 = 1)) (hb2 : p2 = 0 ∨ p2 = 1) : im_Runs l k 6 mX11_builtWith [.ref a, .int p0, .int p1, .int p2] (S, I) (some (.ref 108)) (S, builtWith_ I p0 p1 p2) := by
  refine im_run (by decide +kernel) ⟨Nat.le_refl _, Nat.le_refl _⟩ (Nat.le_of_ble_eq_true rfl) ?_
  intro X hl hX hxn hxz hxc hxs
  subst hl
  change im_E X k _ 0 [some (.ref a), some (.int p0), some (.int p1), some (.int p2)] [] S I
  refine r_aload_n (pc := 0) hX dX11_builtWith_0 rfl ?_
  refine r_getr (pc := 1) hX dX11_builtWith_1 fl_X11_32 rfl (o_X11_k h) (o_X11_r3 h) ?_
  refine r_aload_n (pc := 4) hX dX11_builtWith_4 rfl ?_
  refine r_getr (pc := 5) hX dX11_builtWith_5 fl_X11_28 rfl (o_X11_k h) (o_X11_r2 h) ?_
  refine r_callV (Z := mX5_beLike) (t := 5) (pc := 8) hX dX11_builtWith_8 ml_X11_277 mX5_beLike_w ⟨by decide, rfl⟩ (o_X5_k (o_X11_o3 h)) (sp_X5_beLike (o_X11_o3 h) (o_X11_o2 h) hz (by decide)) rfl rfl (Nat.le_of_ble_eq_true rfl) (by decide) rfl (Or.inl rfl) ?_
  refine r_aload_n (pc := 11) hX dX11_builtWith_11 rfl ?_
  refine r_getr (pc := 12) hX dX11_builtWith_12 fl_X11_32 rfl (o_X11_k h) (o_X11_r3 h) ?_
  refine r_iload_n (pc := 15) hX dX11_builtWith_15 rfl ?_
  refine r_puti (pc := 16) hX dX11_builtWith_16 fl_X11_68 rfl rfl (o_X5_k (o_X11_o3 h)) ?_
  refine r_aload_n (pc := 19) hX dX11_builtWith_19 rfl ?_
  refine r_getr (pc := 20) hX dX11_builtWith_20 fl_X11_32 rfl (o_X11_k h) (o_X11_r3 h) ?_
  refine r_iload_n (pc := 23) hX dX11_builtWith_23 rfl ?_
  refine r_puti (pc := 24) hX dX11_builtWith_24 fl_X11_72 rfl rfl (o_X5_k (o_X11_o3 h)) ?_
  refine r_aload_n (pc := 27) hX dX11_builtWith_27 rfl ?_
  refine r_getr (pc := 28) hX dX11_builtWith_28 fl_X11_32 rfl (o_X11_k h) (o_X11_r3 h) ?_
  refine r_iload_n (pc := 31) hX dX11_builtWith_31 rfl ?_
  refine r_puti (pc := 32) hX dX11_builtWith_32 fl_X11_82 rfl (im_fitZ (t := 5) (j := 4) rfl hb2) (o_X5_k (o_X11_o3 h)) ?_
  refine r_aload_n (pc := 35) hX dX11_builtWith_35 rfl ?_
  refine r_getr (pc := 36) hX dX11_builtWith_36 fl_X11_54 rfl (o_X11_k h) (o_X11_r7 h) ?_
  refine r_aload_n (pc := 39) hX dX11_builtWith_39 rfl ?_
  refine r_getr (pc := 40) hX dX11_builtWith_40 fl_X11_40 rfl (o_X11_k h) (o_X11_r4 h) ?_
  refine r_callV (Z := mX10_build) (t := 10) (pc := 43) hX dX11_builtWith_43 ml_X11_285 mX10_build_w ⟨by decide, rfl⟩ (o_X10_k (o_X11_o7 h)) (sp_X10_build (o_X11_o7 h) (o_X11_o4 h) (by decide) (by decide)) rfl rfl (Nat.le_of_ble_eq_true rfl) (by decide) rfl (Or.inl rfl) ?_
  refine r_aload_n (pc := 46) hX dX11_builtWith_46 rfl ?_
  refine r_getr (pc := 47) hX dX11_builtWith_47 fl_X11_54 rfl (o_X11_k h) (o_X11_r7 h) ?_
  exact r_areturn (pc := 50) hX dX11_builtWith_50 rfl (Or.inl ⟨_, rfl⟩) rfl (by first | with_reducible rfl | (simp only [builtWith_, ↓reduceIte, if_true, if_false, decide_true, decide_false, eq_self, b2i_t, b2i_f, Bool.false_eq_true, and_true, true_and, and_false, false_and, or_true, true_or, or_false, false_or, not_true_eq_false, not_false_eq_true] <;> rfl) | simp [builtWith_])
set_option maxRecDepth 100000 in
set_option maxHeartbeats 1000000 in
theorem sp_X11_fewestRegisters {l : Launch} {k : im_K} {S : im_S} {I : im_I} {a : Nat} (h : o_X11 S a) (hz : (I 15 3 = 0 ∨ I 15 3 = 1) ∧ (I 15 4 = 0 ∨ I 15 4 = 1)) : im_Runs l k 5 mX11_fewestRegisters [.ref a] (S, I) (some (.int ((few_ I).1))) (S, (few_ I).2) := by
  refine im_run (by decide +kernel) ⟨Nat.le_refl _, Nat.le_refl _⟩ (Nat.le_of_ble_eq_true rfl) ?_
  intro X hl hX hxn hxz hxc hxs
  subst hl
  change im_E X k _ 0 [some (.ref a), none] [] S I
  refine r_aload_n (pc := 0) hX dX11_fewestRegisters_0 rfl ?_
  refine r_getr (pc := 1) hX dX11_fewestRegisters_1 fl_X11_32 rfl (o_X11_k h) (o_X11_r3 h) ?_
  refine r_aload_n (pc := 4) hX dX11_fewestRegisters_4 rfl ?_
  refine r_getr (pc := 5) hX dX11_fewestRegisters_5 fl_X11_28 rfl (o_X11_k h) (o_X11_r2 h) ?_
  refine r_callV (Z := mX5_beLike) (t := 5) (pc := 8) hX dX11_fewestRegisters_8 ml_X11_277 mX5_beLike_w ⟨by decide, rfl⟩ (o_X5_k (o_X11_o3 h)) (sp_X5_beLike (o_X11_o3 h) (o_X11_o2 h) hz (by decide)) rfl rfl (Nat.le_of_ble_eq_true rfl) (by decide) rfl (Or.inl rfl) ?_
  refine r_iconst (pc := 11) hX 5 dX11_fewestRegisters_11 (by decide) ?_
  refine r_istore_n (pc := 12) hX (L' := [_, _]) dX11_fewestRegisters_12 rfl rfl (Nat.le_of_ble_eq_true rfl) ?_
  have hL13 : ∀ (w1 : Nat) (i1 : Int32) (J1 : im_I), cnt i1 (11 + 1) = w1 → fewN_ w1 i1 J1 = few_ I → im_E X k (im_Q X k (some (.int ((few_ I).1))) (S, (few_ I).2)) 13 [some (.ref a), some (.int i1)] [] S J1 := by
    intro w1
    induction w1 with
    | zero =>
      intro i1 J1 hm1 hR1
      refine r_iload_n (pc := 13) hX dX11_fewestRegisters_13 rfl ?_
      refine r_bipush (pc := 14) hX 11 dX11_fewestRegisters_14 (by decide) ?_
      refine r_icmp_gt (pc := 16) hX 99 dX11_fewestRegisters_16 (by decide) (fun c16 => ?_) (fun c16 => ?_)
      · have c16d := Int32.not_le.mpr c16
        rw [fewN_0] at hR1
        refine r_iconst (pc := 99) hX (-1) dX11_fewestRegisters_99 (by decide) ?_
        exact r_ireturn (pc := 100) hX dX11_fewestRegisters_100 rfl rfl (by rw [← hR1]) (by rw [← hR1])
      · have c16d := Int32.not_lt.mp c16
        exact (cntL_ex hm1 (by decide) c16).elim
    | succ w1 ih1 =>
      intro i1 J1 hm1 hR1
      refine r_iload_n (pc := 13) hX dX11_fewestRegisters_13 rfl ?_
      refine r_bipush (pc := 14) hX 11 dX11_fewestRegisters_14 (by decide) ?_
      refine r_icmp_gt (pc := 16) hX 99 dX11_fewestRegisters_16 (by decide) (fun c16 => ?_) (fun c16 => ?_)
      · have c16d := Int32.not_le.mpr c16
        exact (cntL_go hm1 (by decide) c16).elim
      · have c16d := Int32.not_lt.mp c16
        refine r_aload_n (pc := 19) hX dX11_fewestRegisters_19 rfl ?_
        refine r_getr (pc := 20) hX dX11_fewestRegisters_20 fl_X11_32 rfl (o_X11_k h) (o_X11_r3 h) ?_
        refine r_iload_n (pc := 23) hX dX11_fewestRegisters_23 rfl ?_
        refine r_puti (pc := 24) hX dX11_fewestRegisters_24 fl_X11_68 rfl rfl (o_X5_k (o_X11_o3 h)) ?_
        refine r_aload_n (pc := 27) hX dX11_fewestRegisters_27 rfl ?_
        refine r_getr (pc := 28) hX dX11_fewestRegisters_28 fl_X11_32 rfl (o_X11_k h) (o_X11_r3 h) ?_
        refine r_aload_n (pc := 31) hX dX11_fewestRegisters_31 rfl ?_
        refine r_getr (pc := 32) hX dX11_fewestRegisters_32 fl_X11_28 rfl (o_X11_k h) (o_X11_r2 h) ?_
        refine r_geti (pc := 35) hX dX11_fewestRegisters_35 fl_X11_72 rfl (o_X5_k (o_X11_o2 h)) ?_
        refine r_aload_n (pc := 38) hX dX11_fewestRegisters_38 rfl ?_
        refine r_getr (pc := 39) hX dX11_fewestRegisters_39 fl_X11_32 rfl (o_X11_k h) (o_X11_r3 h) ?_
        refine r_callV (Z := mX5_scratch) (t := 5) (pc := 42) hX dX11_fewestRegisters_42 ml_X11_329 mX5_scratch_w ⟨by decide, rfl⟩ (o_X5_k (o_X11_o3 h)) (sp_X5_scratch (o_X11_o3 h)) rfl rfl (Nat.le_of_ble_eq_true rfl) (by decide) rfl (Or.inl rfl) ?_
        refine r_callS (Z := mX11_bit) (pc := 45) hX dX11_fewestRegisters_45 ml_X11_332 mX11_bit_w (sp_X11_bit) rfl rfl (Nat.le_of_ble_eq_true rfl) (by decide) rfl (Or.inl rfl) ?_
        refine r_iconst (pc := 48) hX 1 dX11_fewestRegisters_48 (by decide) ?_
        refine r_isub (pc := 49) hX dX11_fewestRegisters_49 ?_
        refine r_iand (pc := 50) hX dX11_fewestRegisters_50 ?_
        refine r_puti (pc := 51) hX dX11_fewestRegisters_51 fl_X11_72 rfl rfl (o_X5_k (o_X11_o3 h)) ?_
        refine r_aload_n (pc := 54) hX dX11_fewestRegisters_54 rfl ?_
        refine r_getr (pc := 55) hX dX11_fewestRegisters_55 fl_X11_54 rfl (o_X11_k h) (o_X11_r7 h) ?_
        refine r_getr (pc := 58) hX dX11_fewestRegisters_58 fl_X11_335 rfl (o_X10_k (o_X11_o7 h)) (o_X10_r0 (o_X11_o7 h)) ?_
        refine r_aload_n (pc := 61) hX dX11_fewestRegisters_61 rfl ?_
        refine r_getr (pc := 62) hX dX11_fewestRegisters_62 fl_X11_40 rfl (o_X11_k h) (o_X11_r4 h) ?_
        refine r_getr (pc := 65) hX dX11_fewestRegisters_65 fl_X11_181 rfl (o_X7_k (o_X11_o4 h)) (o_X7_r1 (o_X11_o4 h)) ?_
        refine r_aload_n (pc := 68) hX dX11_fewestRegisters_68 rfl ?_
        refine r_getr (pc := 69) hX dX11_fewestRegisters_69 fl_X11_40 rfl (o_X11_k h) (o_X11_r4 h) ?_
        refine r_getr (pc := 72) hX dX11_fewestRegisters_72 fl_X11_198 rfl (o_X7_k (o_X11_o4 h)) (o_X7_r2 (o_X11_o4 h)) ?_
        refine r_callV (Z := mX2_give) (t := 2) (pc := 75) hX dX11_fewestRegisters_75 ml_X11_339 mX2_give_w ⟨by decide, rfl⟩ (o_X2_k (o_X10_o0 (o_X11_o7 h))) (sp_X2_give (o_X10_o0 (o_X11_o7 h)) (o_X7_o1 (o_X11_o4 h)) (o_X7_o2 (o_X11_o4 h)) (by decide) (by decide)) rfl rfl (Nat.le_of_ble_eq_true rfl) (by decide) rfl (Or.inl rfl) ?_
        refine r_aload_n (pc := 78) hX dX11_fewestRegisters_78 rfl ?_
        refine r_getr (pc := 79) hX dX11_fewestRegisters_79 fl_X11_54 rfl (o_X11_k h) (o_X11_r7 h) ?_
        refine r_getr (pc := 82) hX dX11_fewestRegisters_82 fl_X11_335 rfl (o_X10_k (o_X11_o7 h)) (o_X10_r0 (o_X11_o7 h)) ?_
        refine r_geti (pc := 85) hX dX11_fewestRegisters_85 fl_X11_345 rfl (o_X2_k (o_X10_o0 (o_X11_o7 h))) ?_
        refine r_if_ne (pc := 88) hX 93 dX11_fewestRegisters_88 (by decide) (fun c88 => ?_) (fun c88 => ?_)
        · rw [fewN_s, if_neg (show ¬ fewOne_ i1 J1 109 0 = 0 from c88)] at hR1
          refine r_iinc (pc := 93) hX 1 (L' := [_, _]) dX11_fewestRegisters_93 rfl (by decide) rfl rfl ?_
          refine r_goto (pc := 96) hX (tgt := 13) dX11_fewestRegisters_96 (by decide) ?_
          refine r_mem (I' := fewOne_ i1 J1) (by first | with_reducible rfl | (simp only [fewOne_, eq_false c16, eq_true c16d, eq_false c88, ↓reduceIte, if_true, if_false, decide_true, decide_false, eq_self, b2i_t, b2i_f, Bool.false_eq_true, and_true, true_and, and_false, false_and, or_true, true_or, or_false, false_or, not_true_eq_false, not_false_eq_true] <;> rfl) | simp [fewOne_, eq_false c16, eq_true c16d, eq_false c88]) ?_
          exact ih1 _ _ (cnt_nx hm1) hR1
        · rw [fewN_s, if_pos (show fewOne_ i1 J1 109 0 = 0 from c88)] at hR1
          refine r_iload_n (pc := 91) hX dX11_fewestRegisters_91 rfl ?_
          exact r_ireturn (pc := 92) hX dX11_fewestRegisters_92 rfl rfl (by rw [← hR1]) (by rw [← hR1]; rfl)
  exact hL13 (cnt 5 (11 + 1)) 5 (beLike_ I 17 15) rfl rfl
set_option maxRecDepth 100000 in
set_option maxHeartbeats 1000000 in
theorem sp_X11_cyclesUnordered {l : Launch} {k : im_K} {S : im_S} {I : im_I} {a : Nat} (h : o_X11 S a) (hz : (I 15 3 = 0 ∨ I 15 3 = 1) ∧ (I 15 4 = 0 ∨ I 15 4 = 1)) : im_Runs l k 6 mX11_cyclesUnordered [.ref a] (S, I) (some (.int (unordM_ I 120 1))) (S, unordM_ I) := by
  refine im_run (by decide +kernel) ⟨Nat.le_refl _, Nat.le_refl _⟩ (Nat.le_of_ble_eq_true rfl) ?_
  intro X hl hX hxn hxz hxc hxs
  subst hl
  change im_E X k _ 0 [some (.ref a)] [] S I
  refine r_aload_n (pc := 0) hX dX11_cyclesUnordered_0 rfl ?_
  refine r_getr (pc := 1) hX dX11_cyclesUnordered_1 fl_X11_32 rfl (o_X11_k h) (o_X11_r3 h) ?_
  refine r_aload_n (pc := 4) hX dX11_cyclesUnordered_4 rfl ?_
  refine r_getr (pc := 5) hX dX11_cyclesUnordered_5 fl_X11_28 rfl (o_X11_k h) (o_X11_r2 h) ?_
  refine r_callV (Z := mX5_beLike) (t := 5) (pc := 8) hX dX11_cyclesUnordered_8 ml_X11_277 mX5_beLike_w ⟨by decide, rfl⟩ (o_X5_k (o_X11_o3 h)) (sp_X5_beLike (o_X11_o3 h) (o_X11_o2 h) hz (by decide)) rfl rfl (Nat.le_of_ble_eq_true rfl) (by decide) rfl (Or.inl rfl) ?_
  refine r_aload_n (pc := 11) hX dX11_cyclesUnordered_11 rfl ?_
  refine r_getr (pc := 12) hX dX11_cyclesUnordered_12 fl_X11_44 rfl (o_X11_k h) (o_X11_r5 h) ?_
  refine r_iconst (pc := 15) hX 0 dX11_cyclesUnordered_15 (by decide) ?_
  refine r_callV (Z := mX7_build) (t := 7) (pc := 16) hX dX11_cyclesUnordered_16 ml_X11_281 mX7_build_w ⟨by decide, rfl⟩ (o_X7_k (o_X11_o5 h)) (sp_X7_build (o_X11_o5 h) (by decide) hs_all) rfl rfl (Nat.le_of_ble_eq_true rfl) (by decide) rfl (Or.inl rfl) ?_
  refine r_aload_n (pc := 19) hX dX11_cyclesUnordered_19 rfl ?_
  refine r_getr (pc := 20) hX dX11_cyclesUnordered_20 fl_X11_54 rfl (o_X11_k h) (o_X11_r7 h) ?_
  refine r_aload_n (pc := 23) hX dX11_cyclesUnordered_23 rfl ?_
  refine r_getr (pc := 24) hX dX11_cyclesUnordered_24 fl_X11_44 rfl (o_X11_k h) (o_X11_r5 h) ?_
  refine r_callV (Z := mX10_build) (t := 10) (pc := 27) hX dX11_cyclesUnordered_27 ml_X11_285 mX10_build_w ⟨by decide, rfl⟩ (o_X10_k (o_X11_o7 h)) (sp_X10_build (o_X11_o7 h) (o_X11_o5 h) (by decide) (by decide)) rfl rfl (Nat.le_of_ble_eq_true rfl) (by decide) rfl (Or.inl rfl) ?_
  refine r_aload_n (pc := 30) hX dX11_cyclesUnordered_30 rfl ?_
  refine r_getr (pc := 31) hX dX11_cyclesUnordered_31 fl_X11_54 rfl (o_X11_k h) (o_X11_r7 h) ?_
  refine r_getr (pc := 34) hX dX11_cyclesUnordered_34 fl_X11_244 rfl (o_X10_k (o_X11_o7 h)) (o_X10_r2 (o_X11_o7 h)) ?_
  refine r_geti (pc := 37) hX dX11_cyclesUnordered_37 fl_X11_288 rfl (o_X9_k (o_X10_o2 (o_X11_o7 h))) ?_
  exact r_ireturn (pc := 40) hX dX11_cyclesUnordered_40 rfl rfl (by first | with_reducible rfl | (simp only [unordM_, ↓reduceIte, if_true, if_false, decide_true, decide_false, eq_self, b2i_t, b2i_f, Bool.false_eq_true, and_true, true_and, and_false, false_and, or_true, true_or, or_false, false_or, not_true_eq_false, not_false_eq_true] <;> rfl) | simp [unordM_]) (by first | with_reducible rfl | (simp only [unordM_, ↓reduceIte, if_true, if_false, decide_true, decide_false, eq_self, b2i_t, b2i_f, Bool.false_eq_true, and_true, true_and, and_false, false_and, or_true, true_or, or_false, false_or, not_true_eq_false, not_false_eq_true] <;> rfl) | simp [unordM_])
set_option maxRecDepth 100000 in
set_option maxHeartbeats 1000000 in
theorem sp_X11_mixVariables {l : Launch} {k : im_K} {S : im_S} {I : im_I} {a : Nat} {p0 : Int64} {b1 mb1 : Nat} (h : o_X11 S a) (hb1 : o_X10 S b1 mb1) (hrt : ∀ b j : Int32, rootOf_ I 3 b j < 2147483647) : im_Runs l k 5 mX11_mixVariables [.ref a, .long p0, .ref b1] (S, I) (some (.long (mixVariables_ (meantNow_ I a) b1 p0))) (S, meantNow_ I a) := by
  refine im_run (by decide +kernel) ⟨Nat.le_refl _, Nat.le_refl _⟩ (Nat.le_of_ble_eq_true rfl) ?_
  intro X hl hX hxn hxz hxc hxs
  subst hl
  change im_E X k _ 0 [some (.ref a), some (.long p0), none, some (.ref b1), none, none, none, none] [] S I
  refine r_lload_n (pc := 0) hX dX11_mixVariables_0 rfl ?_
  refine r_lstore (pc := 1) hX (L' := [_, _, _, _, _, _, _, _]) dX11_mixVariables_1 rfl rfl (Nat.le_of_ble_eq_true rfl) ?_
  refine r_aload_n (pc := 3) hX dX11_mixVariables_3 rfl ?_
  refine r_callV (Z := mX11_meantNow) (t := 11) (pc := 4) hX dX11_mixVariables_4 ml_X11_170 mX11_meantNow_w ⟨by decide, rfl⟩ (o_X11_k h) (sp_X11_meantNow h hrt) rfl rfl (Nat.le_of_ble_eq_true rfl) (by decide) rfl (Or.inl rfl) ?_
  refine r_astore (pc := 7) hX (L' := [_, _, _, _, _, _, _, _]) dX11_mixVariables_7 rfl rfl (Nat.le_of_ble_eq_true rfl) ?_
  refine r_iconst (pc := 9) hX 0 dX11_mixVariables_9 (by decide) ?_
  refine r_istore (pc := 10) hX (L' := [_, _, _, _, _, _, _, _]) dX11_mixVariables_10 rfl rfl (Nat.le_of_ble_eq_true rfl) ?_
  have hL12 : ∀ (w1 : Nat) (i1 : Int32) (J1 : Int64), cnt i1 (8) = w1 → loopN w1 i1 (mixVar1_ (meantNow_ I a)) J1 = loopN (cnt (0) (8)) (0) (mixVar1_ (meantNow_ I a)) (p0) → im_E X k (im_Q X k (some (.long (mixVariables_ (meantNow_ I a) b1 p0))) (S, meantNow_ I a)) 12 [some (.ref a), some (.long p0), none, some (.ref b1), some (.long J1), none, some (.ref 12), some (.int i1)] [] S (meantNow_ I a) := by
    intro w1
    induction w1 with
    | zero =>
      intro i1 J1  hm1 hR1
      refine r_iload (pc := 12) hX dX11_mixVariables_12 rfl ?_
      refine r_bipush (pc := 14) hX 8 dX11_mixVariables_14 (by decide) ?_
      refine r_icmp_ge (pc := 16) hX 43 dX11_mixVariables_16 (by decide) (fun c16 => ?_) (fun c16 => ?_)
      · have c16d := Int32.not_lt.mpr c16
        rw [loopN_0] at hR1
        subst hR1
        refine r_iconst (pc := 43) hX 0 dX11_mixVariables_43 (by decide) ?_
        refine r_istore (pc := 44) hX (L' := [_, _, _, _, _, _, _, _]) dX11_mixVariables_44 rfl rfl (Nat.le_of_ble_eq_true rfl) ?_
        have hL46 : ∀ (w2 : Nat) (i2 : Int32) (J2 : Int64), cnt i2 (8) = w2 → loopN w2 i2 (mixVar2_ (meantNow_ I a) b1) J2 = loopN (cnt (0) (8)) (0) (mixVar2_ (meantNow_ I a) b1) (loopN (cnt (0) (8)) (0) (mixVar1_ (meantNow_ I a)) (p0)) → im_E X k (im_Q X k (some (.long (mixVariables_ (meantNow_ I a) b1 p0))) (S, meantNow_ I a)) 46 [some (.ref a), some (.long p0), none, some (.ref b1), some (.long J2), none, some (.ref 12), some (.int i2)] [] S (meantNow_ I a) := by
          intro w2
          induction w2 with
          | zero =>
            intro i2 J2  hm2 hR2
            refine r_iload (pc := 46) hX dX11_mixVariables_46 rfl ?_
            refine r_bipush (pc := 48) hX 8 dX11_mixVariables_48 (by decide) ?_
            refine r_icmp_ge (pc := 50) hX 92 dX11_mixVariables_50 (by decide) (fun c50 => ?_) (fun c50 => ?_)
            · have c50d := Int32.not_lt.mpr c50
              rw [loopN_0] at hR2
              subst hR2
              refine r_lload (pc := 92) hX dX11_mixVariables_92 rfl ?_
              exact r_lreturn (pc := 94) hX dX11_mixVariables_94 rfl (by first | with_reducible rfl | (simp only [mixVariables_, loopC, eq_true c16, eq_false c16d, eq_true c50, eq_false c50d, ↓reduceIte, if_true, if_false, decide_true, decide_false, eq_self, b2i_t, b2i_f, Bool.false_eq_true, and_true, true_and, and_false, false_and, or_true, true_or, or_false, false_or, not_true_eq_false, not_false_eq_true] <;> rfl) | simp [mixVariables_, loopC, eq_true c16, eq_false c16d, eq_true c50, eq_false c50d]) (by first | with_reducible rfl | (simp only [mixVariables_, loopC, eq_true c16, eq_false c16d, eq_true c50, eq_false c50d, ↓reduceIte, if_true, if_false, decide_true, decide_false, eq_self, b2i_t, b2i_f, Bool.false_eq_true, and_true, true_and, and_false, false_and, or_true, true_or, or_false, false_or, not_true_eq_false, not_false_eq_true] <;> rfl) | simp [mixVariables_, loopC, eq_true c16, eq_false c16d, eq_true c50, eq_false c50d])
            · have c50d := Int32.not_le.mp c50
              exact (cnt_ex hm2  c50).elim
          | succ w2 ih2 =>
            intro i2 J2  hm2 hR2
            refine r_iload (pc := 46) hX dX11_mixVariables_46 rfl ?_
            refine r_bipush (pc := 48) hX 8 dX11_mixVariables_48 (by decide) ?_
            refine r_icmp_ge (pc := 50) hX 92 dX11_mixVariables_50 (by decide) (fun c50 => ?_) (fun c50 => ?_)
            · have c50d := Int32.not_lt.mpr c50
              exact (cnt_go hm2  c50).elim
            · have c50d := Int32.not_le.mp c50
              refine r_aload_n (pc := 53) hX dX11_mixVariables_53 rfl ?_
              refine r_getr (pc := 54) hX dX11_mixVariables_54 fl_X11_12 rfl (o_X11_k h) (o_X11_r0 h) ?_
              refine r_geti (pc := 57) hX dX11_mixVariables_57 fl_X11_165 rfl (o_X8_k (o_X11_o0 h)) ?_
              refine r_iload (pc := 60) hX dX11_mixVariables_60 rfl ?_
              refine r_callS (Z := mX11_hasBit) (pc := 62) hX dX11_mixVariables_62 ml_X11_253 mX11_hasBit_w (sp_X11_hasBit) rfl rfl (Nat.le_of_ble_eq_true rfl) (by decide) rfl (Or.inl rfl) ?_
              refine r_if_eq (pc := 65) hX 86 dX11_mixVariables_65 (by decide) (fun c65 => ?_) (fun c65 => ?_)
              · replace c65 := b2i_0 c65
                refine r_iinc (pc := 86) hX 1 (L' := [_, _, _, _, _, _, _, _]) dX11_mixVariables_86 rfl (by decide) rfl rfl ?_
                refine r_goto (pc := 89) hX (tgt := 46) dX11_mixVariables_89 (by decide) ?_
                exact ih2 _ _  (cnt_nx hm2) (by refine Eq.trans (congrArg (loopN w2 (i2 + 1) (mixVar2_ (meantNow_ I a) b1)) ?_) (loopN_s.symm.trans hR2); exact (by first | with_reducible rfl | (simp only [mixVar1_, mixVar2_, eq_true c16, eq_false c16d, eq_false c50, eq_true c50d, c65, ↓reduceIte, if_true, if_false, decide_true, decide_false, eq_self, b2i_t, b2i_f, Bool.false_eq_true, and_true, true_and, and_false, false_and, or_true, true_or, or_false, false_or, not_true_eq_false, not_false_eq_true] <;> rfl) | simp [mixVar1_, mixVar2_, eq_true c16, eq_false c16d, eq_false c50, eq_true c50d, c65]))
              · replace c65 := b2i_1 c65
                refine r_lload (pc := 68) hX dX11_mixVariables_68 rfl ?_
                refine r_aload_n (pc := 70) hX dX11_mixVariables_70 rfl ?_
                refine r_aload_n (pc := 71) hX dX11_mixVariables_71 rfl ?_
                refine r_getr (pc := 72) hX dX11_mixVariables_72 fl_X11_40 rfl (o_X11_k h) (o_X11_r4 h) ?_
                refine r_iload (pc := 75) hX dX11_mixVariables_75 rfl ?_
                refine r_callV (Z := mX10_tellAnswer) (t := 10) (pc := 77) hX dX11_mixVariables_77 ml_X11_258 mX10_tellAnswer_w ⟨by decide, rfl⟩ (o_X10_k hb1) (sp_X10_tellAnswer hb1 (o_X11_o4 h)) rfl rfl (Nat.le_of_ble_eq_true rfl) (by decide) rfl (Or.inl rfl) ?_
                refine r_i2l (pc := 80) hX dX11_mixVariables_80 ?_
                refine r_callS (Z := mX11_mix) (pc := 81) hX dX11_mixVariables_81 ml_X11_300 mX11_mix_w (sp_X11_mix) rfl rfl (Nat.le_of_ble_eq_true rfl) (by decide) rfl (Or.inl rfl) ?_
                refine r_lstore (pc := 84) hX (L' := [_, _, _, _, _, _, _, _]) dX11_mixVariables_84 rfl rfl (Nat.le_of_ble_eq_true rfl) ?_
                refine r_iinc (pc := 86) hX 1 (L' := [_, _, _, _, _, _, _, _]) dX11_mixVariables_86 rfl (by decide) rfl rfl ?_
                refine r_goto (pc := 89) hX (tgt := 46) dX11_mixVariables_89 (by decide) ?_
                exact ih2 _ _  (cnt_nx hm2) (by refine Eq.trans (congrArg (loopN w2 (i2 + 1) (mixVar2_ (meantNow_ I a) b1)) ?_) (loopN_s.symm.trans hR2); exact (by first | with_reducible rfl | (simp only [mixVar1_, mixVar2_, eq_true c16, eq_false c16d, eq_false c50, eq_true c50d, c65, ↓reduceIte, if_true, if_false, decide_true, decide_false, eq_self, b2i_t, b2i_f, Bool.false_eq_true, and_true, true_and, and_false, false_and, or_true, true_or, or_false, false_or, not_true_eq_false, not_false_eq_true] <;> rfl) | simp [mixVar1_, mixVar2_, eq_true c16, eq_false c16d, eq_false c50, eq_true c50d, c65]))
        exact hL46 (cnt (0) (8)) (0) (loopN (cnt (0) (8)) (0) (mixVar1_ (meantNow_ I a)) (p0))  rfl rfl
      · have c16d := Int32.not_le.mp c16
        exact (cnt_ex hm1  c16).elim
    | succ w1 ih1 =>
      intro i1 J1  hm1 hR1
      refine r_iload (pc := 12) hX dX11_mixVariables_12 rfl ?_
      refine r_bipush (pc := 14) hX 8 dX11_mixVariables_14 (by decide) ?_
      refine r_icmp_ge (pc := 16) hX 43 dX11_mixVariables_16 (by decide) (fun c16 => ?_) (fun c16 => ?_)
      · have c16d := Int32.not_lt.mpr c16
        exact (cnt_go hm1  c16).elim
      · have c16d := Int32.not_le.mp c16
        refine r_lload (pc := 19) hX dX11_mixVariables_19 rfl ?_
        refine r_aload (pc := 21) hX dX11_mixVariables_21 rfl ?_
        refine r_getr (pc := 23) hX dX11_mixVariables_23 fl_X11_174 rfl (o_X6_k (o_X11_o1 h)) (o_X6_r0 (o_X11_o1 h)) ?_
        refine r_iload (pc := 26) hX dX11_mixVariables_26 rfl ?_
        refine r_callS (Z := mX11_at) (pc := 28) hX dX11_mixVariables_28 ml_X11_102 mX11_at_w (sp_X11_at (o_X6_a0 (o_X11_o1 h))) rfl rfl (Nat.le_of_ble_eq_true rfl) (by decide) rfl (Or.inl rfl) ?_
        refine r_i2l (pc := 31) hX dX11_mixVariables_31 ?_
        refine r_callS (Z := mX11_mix) (pc := 32) hX dX11_mixVariables_32 ml_X11_300 mX11_mix_w (sp_X11_mix) rfl rfl (Nat.le_of_ble_eq_true rfl) (by decide) rfl (Or.inl rfl) ?_
        refine r_lstore (pc := 35) hX (L' := [_, _, _, _, _, _, _, _]) dX11_mixVariables_35 rfl rfl (Nat.le_of_ble_eq_true rfl) ?_
        refine r_iinc (pc := 37) hX 1 (L' := [_, _, _, _, _, _, _, _]) dX11_mixVariables_37 rfl (by decide) rfl rfl ?_
        refine r_goto (pc := 40) hX (tgt := 12) dX11_mixVariables_40 (by decide) ?_
        exact ih1 _ _  (cnt_nx hm1) (by refine Eq.trans (congrArg (loopN w1 (i1 + 1) (mixVar1_ (meantNow_ I a))) ?_) (loopN_s.symm.trans hR1); exact (by first | with_reducible rfl | (simp only [mixVar1_, mixVar2_, eq_false c16, eq_true c16d, ↓reduceIte, if_true, if_false, decide_true, decide_false, eq_self, b2i_t, b2i_f, Bool.false_eq_true, and_true, true_and, and_false, false_and, or_true, true_or, or_false, false_or, not_true_eq_false, not_false_eq_true] <;> rfl) | simp [mixVar1_, mixVar2_, eq_false c16, eq_true c16d]))
  exact hL12 (cnt (0) (8)) (0) (p0)  rfl rfl
set_option maxRecDepth 100000 in
set_option maxHeartbeats 1000000 in
theorem sp_X11_mixLines {l : Launch} {k : im_K} {S : im_S} {I : im_I} {a : Nat} {p0 : Int64} {b1 mb1 : Nat} (h : o_X11 S a) (hb1 : o_X10 S b1 mb1) : im_Runs l k 3 mX11_mixLines [.ref a, .long p0, .ref b1] (S, I) (some (.long (mixLines_ I p0))) (S, I) := by
  refine im_run (by decide +kernel) ⟨Nat.le_refl _, Nat.le_refl _⟩ (Nat.le_of_ble_eq_true rfl) ?_
  intro X hl hX hxn hxz hxc hxs
  subst hl
  change im_E X k _ 0 [some (.ref a), some (.long p0), none, some (.ref b1), none, none, none, none] [] S I
  refine r_lload_n (pc := 0) hX dX11_mixLines_0 rfl ?_
  refine r_lstore (pc := 1) hX (L' := [_, _, _, _, _, _, _, _]) dX11_mixLines_1 rfl rfl (Nat.le_of_ble_eq_true rfl) ?_
  refine r_iconst (pc := 3) hX 0 dX11_mixLines_3 (by decide) ?_
  refine r_istore (pc := 4) hX (L' := [_, _, _, _, _, _, _, _]) dX11_mixLines_4 rfl rfl (Nat.le_of_ble_eq_true rfl) ?_
  have hL6 : ∀ (w1 : Nat) (i1 : Int32) (J1 : Int64), cnt i1 (I 29 0) = w1 → loopN w1 i1 (mixLine_ I) J1 = loopN (cnt (0) (I 29 0)) (0) (mixLine_ I) (p0) → im_E X k (im_Q X k (some (.long (mixLines_ I p0))) (S, I)) 6 [some (.ref a), some (.long p0), none, some (.ref b1), some (.long J1), none, some (.int i1), none] [] S I := by
    intro w1
    induction w1 with
    | zero =>
      intro i1 J1  hm1 hR1
      refine r_iload (pc := 6) hX dX11_mixLines_6 rfl ?_
      refine r_aload_n (pc := 8) hX dX11_mixLines_8 rfl ?_
      refine r_getr (pc := 9) hX dX11_mixLines_9 fl_X11_40 rfl (o_X11_k h) (o_X11_r4 h) ?_
      refine r_getr (pc := 12) hX dX11_mixLines_12 fl_X11_181 rfl (o_X7_k (o_X11_o4 h)) (o_X7_r1 (o_X11_o4 h)) ?_
      refine r_geti (pc := 15) hX dX11_mixLines_15 fl_X11_185 rfl (o_X3_k (o_X7_o1 (o_X11_o4 h))) ?_
      refine r_icmp_ge (pc := 18) hX 63 dX11_mixLines_18 (by decide) (fun c18 => ?_) (fun c18 => ?_)
      · have c18d := Int32.not_lt.mpr c18
        rw [loopN_0] at hR1
        subst hR1
        refine r_lload (pc := 63) hX dX11_mixLines_63 rfl ?_
        exact r_lreturn (pc := 65) hX dX11_mixLines_65 rfl (by first | with_reducible rfl | (simp only [mixLines_, loopC, eq_true c18, eq_false c18d, ↓reduceIte, if_true, if_false, decide_true, decide_false, eq_self, b2i_t, b2i_f, Bool.false_eq_true, and_true, true_and, and_false, false_and, or_true, true_or, or_false, false_or, not_true_eq_false, not_false_eq_true] <;> rfl) | simp [mixLines_, loopC, eq_true c18, eq_false c18d]) rfl
      · have c18d := Int32.not_le.mp c18
        exact (cnt_ex hm1  c18).elim
    | succ w1 ih1 =>
      intro i1 J1  hm1 hR1
      refine r_iload (pc := 6) hX dX11_mixLines_6 rfl ?_
      refine r_aload_n (pc := 8) hX dX11_mixLines_8 rfl ?_
      refine r_getr (pc := 9) hX dX11_mixLines_9 fl_X11_40 rfl (o_X11_k h) (o_X11_r4 h) ?_
      refine r_getr (pc := 12) hX dX11_mixLines_12 fl_X11_181 rfl (o_X7_k (o_X11_o4 h)) (o_X7_r1 (o_X11_o4 h)) ?_
      refine r_geti (pc := 15) hX dX11_mixLines_15 fl_X11_185 rfl (o_X3_k (o_X7_o1 (o_X11_o4 h))) ?_
      refine r_icmp_ge (pc := 18) hX 63 dX11_mixLines_18 (by decide) (fun c18 => ?_) (fun c18 => ?_)
      · have c18d := Int32.not_lt.mpr c18
        exact (cnt_go hm1  c18).elim
      · have c18d := Int32.not_le.mp c18
        refine r_iconst (pc := 21) hX 0 dX11_mixLines_21 (by decide) ?_
        refine r_istore (pc := 22) hX (L' := [_, _, _, _, _, _, _, _]) dX11_mixLines_22 rfl rfl (Nat.le_of_ble_eq_true rfl) ?_
        have hL24 : ∀ (w2 : Nat) (i2 : Int32) (J2 : Int64), cnt i2 (8) = w2 → loopN w2 i2 (fun w d => mix_ d (tellLine_ I 19 i1 w).toInt64) J2 = loopN (cnt (0) (8)) (0) (fun w d => mix_ d (tellLine_ I 19 i1 w).toInt64) (J1) → im_E X k (im_Q X k (some (.long (mixLines_ I p0))) (S, I)) 24 [some (.ref a), some (.long p0), none, some (.ref b1), some (.long J2), none, some (.int i1), some (.int i2)] [] S I := by
          intro w2
          induction w2 with
          | zero =>
            intro i2 J2  hm2 hR2
            refine r_iload (pc := 24) hX dX11_mixLines_24 rfl ?_
            refine r_bipush (pc := 26) hX 8 dX11_mixLines_26 (by decide) ?_
            refine r_icmp_ge (pc := 28) hX 57 dX11_mixLines_28 (by decide) (fun c28 => ?_) (fun c28 => ?_)
            · have c28d := Int32.not_lt.mpr c28
              rw [loopN_0] at hR2
              subst hR2
              refine r_iinc (pc := 57) hX 1 (L' := [_, _, _, _, _, _, _, _]) dX11_mixLines_57 rfl (by decide) rfl rfl ?_
              refine r_goto (pc := 60) hX (tgt := 6) dX11_mixLines_60 (by decide) ?_
              refine r_weak (L' := [some _, some _, none, some _, some _, none, some _, none]) (And.intro rfl (And.intro rfl (And.intro rfl (And.intro rfl (And.intro rfl trivial))))) ?_
              exact ih1 _ _  (cnt_nx hm1) (by refine Eq.trans (congrArg (loopN w1 (i1 + 1) (mixLine_ I)) ?_) (loopN_s.symm.trans hR1); exact (by first | with_reducible rfl | (simp only [mixLine_, loopC, eq_false c18, eq_true c18d, eq_true c28, eq_false c28d, ↓reduceIte, if_true, if_false, decide_true, decide_false, eq_self, b2i_t, b2i_f, Bool.false_eq_true, and_true, true_and, and_false, false_and, or_true, true_or, or_false, false_or, not_true_eq_false, not_false_eq_true] <;> rfl) | simp [mixLine_, loopC, eq_false c18, eq_true c18d, eq_true c28, eq_false c28d]))
            · have c28d := Int32.not_le.mp c28
              exact (cnt_ex hm2  c28).elim
          | succ w2 ih2 =>
            intro i2 J2  hm2 hR2
            refine r_iload (pc := 24) hX dX11_mixLines_24 rfl ?_
            refine r_bipush (pc := 26) hX 8 dX11_mixLines_26 (by decide) ?_
            refine r_icmp_ge (pc := 28) hX 57 dX11_mixLines_28 (by decide) (fun c28 => ?_) (fun c28 => ?_)
            · have c28d := Int32.not_lt.mpr c28
              exact (cnt_go hm2  c28).elim
            · have c28d := Int32.not_le.mp c28
              refine r_lload (pc := 31) hX dX11_mixLines_31 rfl ?_
              refine r_aload_n (pc := 33) hX dX11_mixLines_33 rfl ?_
              refine r_aload_n (pc := 34) hX dX11_mixLines_34 rfl ?_
              refine r_getr (pc := 35) hX dX11_mixLines_35 fl_X11_40 rfl (o_X11_k h) (o_X11_r4 h) ?_
              refine r_iload (pc := 38) hX dX11_mixLines_38 rfl ?_
              refine r_iload (pc := 40) hX dX11_mixLines_40 rfl ?_
              refine r_callV (Z := mX10_tellLine) (t := 10) (pc := 42) hX dX11_mixLines_42 ml_X11_194 mX10_tellLine_w ⟨by decide, rfl⟩ (o_X10_k hb1) (sp_X10_tellLine hb1 (o_X11_o4 h)) rfl rfl (Nat.le_of_ble_eq_true rfl) (by decide) rfl (Or.inl rfl) ?_
              refine r_i2l (pc := 45) hX dX11_mixLines_45 ?_
              refine r_callS (Z := mX11_mix) (pc := 46) hX dX11_mixLines_46 ml_X11_300 mX11_mix_w (sp_X11_mix) rfl rfl (Nat.le_of_ble_eq_true rfl) (by decide) rfl (Or.inl rfl) ?_
              refine r_lstore (pc := 49) hX (L' := [_, _, _, _, _, _, _, _]) dX11_mixLines_49 rfl rfl (Nat.le_of_ble_eq_true rfl) ?_
              refine r_iinc (pc := 51) hX 1 (L' := [_, _, _, _, _, _, _, _]) dX11_mixLines_51 rfl (by decide) rfl rfl ?_
              refine r_goto (pc := 54) hX (tgt := 24) dX11_mixLines_54 (by decide) ?_
              exact ih2 _ _  (cnt_nx hm2) (by refine Eq.trans (congrArg (loopN w2 (i2 + 1) (fun w d => mix_ d (tellLine_ I 19 i1 w).toInt64)) ?_) (loopN_s.symm.trans hR2); exact (by first | with_reducible rfl | (simp only [mixLine_, loopC, eq_false c18, eq_true c18d, eq_false c28, eq_true c28d, ↓reduceIte, if_true, if_false, decide_true, decide_false, eq_self, b2i_t, b2i_f, Bool.false_eq_true, and_true, true_and, and_false, false_and, or_true, true_or, or_false, false_or, not_true_eq_false, not_false_eq_true] <;> rfl) | simp [mixLine_, loopC, eq_false c18, eq_true c18d, eq_false c28, eq_true c28d]))
        exact hL24 (cnt (0) (8)) (0) (J1)  rfl rfl
  exact hL6 (cnt (0) (I 29 0)) (0) (p0)  rfl rfl
set_option maxRecDepth 100000 in
set_option maxHeartbeats 1000000 in
theorem sp_X11_mixValues {l : Launch} {k : im_K} {S : im_S} {I : im_I} {a : Nat} {p0 : Int64} {b1 mb1 : Nat} (h : o_X11 S a) (hb1 : o_X10 S b1 mb1) : im_Runs l k 3 mX11_mixValues [.ref a, .long p0, .ref b1] (S, I) (some (.long (mixValues_ I b1 p0))) (S, I) := by
  refine im_run (by decide +kernel) ⟨Nat.le_refl _, Nat.le_refl _⟩ (Nat.le_of_ble_eq_true rfl) ?_
  intro X hl hX hxn hxz hxc hxs
  subst hl
  change im_E X k _ 0 [some (.ref a), some (.long p0), none, some (.ref b1), none, none, none, none] [] S I
  refine r_lload_n (pc := 0) hX dX11_mixValues_0 rfl ?_
  refine r_lstore (pc := 1) hX (L' := [_, _, _, _, _, _, _, _]) dX11_mixValues_1 rfl rfl (Nat.le_of_ble_eq_true rfl) ?_
  refine r_iconst (pc := 3) hX 0 dX11_mixValues_3 (by decide) ?_
  refine r_istore (pc := 4) hX (L' := [_, _, _, _, _, _, _, _]) dX11_mixValues_4 rfl rfl (Nat.le_of_ble_eq_true rfl) ?_
  have hL6 : ∀ (w1 : Nat) (i1 : Int32) (J1 : Int64), cnt i1 (I 36 0) = w1 → loopN w1 i1 (mixValue_ I b1) J1 = loopN (cnt (0) (I 36 0)) (0) (mixValue_ I b1) (p0) → im_E X k (im_Q X k (some (.long (mixValues_ I b1 p0))) (S, I)) 6 [some (.ref a), some (.long p0), none, some (.ref b1), some (.long J1), none, some (.int i1), none] [] S I := by
    intro w1
    induction w1 with
    | zero =>
      intro i1 J1  hm1 hR1
      refine r_iload (pc := 6) hX dX11_mixValues_6 rfl ?_
      refine r_aload_n (pc := 8) hX dX11_mixValues_8 rfl ?_
      refine r_getr (pc := 9) hX dX11_mixValues_9 fl_X11_40 rfl (o_X11_k h) (o_X11_r4 h) ?_
      refine r_getr (pc := 12) hX dX11_mixValues_12 fl_X11_198 rfl (o_X7_k (o_X11_o4 h)) (o_X7_r2 (o_X11_o4 h)) ?_
      refine r_geti (pc := 15) hX dX11_mixValues_15 fl_X11_348 rfl (o_X4_k (o_X7_o2 (o_X11_o4 h))) ?_
      refine r_icmp_ge (pc := 18) hX 88 dX11_mixValues_18 (by decide) (fun c18 => ?_) (fun c18 => ?_)
      · have c18d := Int32.not_lt.mpr c18
        rw [loopN_0] at hR1
        subst hR1
        refine r_lload (pc := 88) hX dX11_mixValues_88 rfl ?_
        exact r_lreturn (pc := 90) hX dX11_mixValues_90 rfl (by first | with_reducible rfl | (simp only [mixValues_, loopC, eq_true c18, eq_false c18d, ↓reduceIte, if_true, if_false, decide_true, decide_false, eq_self, b2i_t, b2i_f, Bool.false_eq_true, and_true, true_and, and_false, false_and, or_true, true_or, or_false, false_or, not_true_eq_false, not_false_eq_true] <;> rfl) | simp [mixValues_, loopC, eq_true c18, eq_false c18d]) rfl
      · have c18d := Int32.not_le.mp c18
        exact (cnt_ex hm1  c18).elim
    | succ w1 ih1 =>
      intro i1 J1  hm1 hR1
      refine r_iload (pc := 6) hX dX11_mixValues_6 rfl ?_
      refine r_aload_n (pc := 8) hX dX11_mixValues_8 rfl ?_
      refine r_getr (pc := 9) hX dX11_mixValues_9 fl_X11_40 rfl (o_X11_k h) (o_X11_r4 h) ?_
      refine r_getr (pc := 12) hX dX11_mixValues_12 fl_X11_198 rfl (o_X7_k (o_X11_o4 h)) (o_X7_r2 (o_X11_o4 h)) ?_
      refine r_geti (pc := 15) hX dX11_mixValues_15 fl_X11_348 rfl (o_X4_k (o_X7_o2 (o_X11_o4 h))) ?_
      refine r_icmp_ge (pc := 18) hX 88 dX11_mixValues_18 (by decide) (fun c18 => ?_) (fun c18 => ?_)
      · have c18d := Int32.not_lt.mpr c18
        exact (cnt_go hm1  c18).elim
      · have c18d := Int32.not_le.mp c18
        refine r_aload_n (pc := 21) hX dX11_mixValues_21 rfl ?_
        refine r_getr (pc := 22) hX dX11_mixValues_22 fl_X11_40 rfl (o_X11_k h) (o_X11_r4 h) ?_
        refine r_getr (pc := 25) hX dX11_mixValues_25 fl_X11_198 rfl (o_X7_k (o_X11_o4 h)) (o_X7_r2 (o_X11_o4 h)) ?_
        refine r_iload (pc := 28) hX dX11_mixValues_28 rfl ?_
        refine r_callV (Z := mX4_isLiving) (t := 4) (pc := 30) hX dX11_mixValues_30 ml_X11_202 mX4_isLiving_w ⟨by decide, rfl⟩ (o_X4_k (o_X7_o2 (o_X11_o4 h))) (sp_X4_isLiving (o_X7_o2 (o_X11_o4 h))) rfl rfl (Nat.le_of_ble_eq_true rfl) (by decide) rfl (Or.inl rfl) ?_
        refine r_if_eq (pc := 33) hX 82 dX11_mixValues_33 (by decide) (fun c33 => ?_) (fun c33 => ?_)
        · replace c33 := b2i_0 c33
          refine r_iinc (pc := 82) hX 1 (L' := [_, _, _, _, _, _, _, _]) dX11_mixValues_82 rfl (by decide) rfl rfl ?_
          refine r_goto (pc := 85) hX (tgt := 6) dX11_mixValues_85 (by decide) ?_
          exact ih1 _ _  (cnt_nx hm1) (by refine Eq.trans (congrArg (loopN w1 (i1 + 1) (mixValue_ I b1)) ?_) (loopN_s.symm.trans hR1); exact (by first | with_reducible rfl | (simp only [mixValue_, loopC, eq_false c18, eq_true c18d, c33, ↓reduceIte, if_true, if_false, decide_true, decide_false, eq_self, b2i_t, b2i_f, Bool.false_eq_true, and_true, true_and, and_false, false_and, or_true, true_or, or_false, false_or, not_true_eq_false, not_false_eq_true] <;> rfl) | simp [mixValue_, loopC, eq_false c18, eq_true c18d, c33]))
        · replace c33 := b2i_1 c33
          refine r_lload (pc := 36) hX dX11_mixValues_36 rfl ?_
          refine r_iload (pc := 38) hX dX11_mixValues_38 rfl ?_
          refine r_i2l (pc := 40) hX dX11_mixValues_40 ?_
          refine r_callS (Z := mX11_mix) (pc := 41) hX dX11_mixValues_41 ml_X11_300 mX11_mix_w (sp_X11_mix) rfl rfl (Nat.le_of_ble_eq_true rfl) (by decide) rfl (Or.inl rfl) ?_
          refine r_lstore (pc := 44) hX (L' := [_, _, _, _, _, _, _, _]) dX11_mixValues_44 rfl rfl (Nat.le_of_ble_eq_true rfl) ?_
          refine r_iconst (pc := 46) hX 0 dX11_mixValues_46 (by decide) ?_
          refine r_istore (pc := 47) hX (L' := [_, _, _, _, _, _, _, _]) dX11_mixValues_47 rfl rfl (Nat.le_of_ble_eq_true rfl) ?_
          have hL49 : ∀ (w2 : Nat) (i2 : Int32) (J2 : Int64), cnt i2 (8) = w2 → loopN w2 i2 (fun w d => mix_ d (tellValue_ I b1 19 i1 w).toInt64) J2 = loopN (cnt (0) (8)) (0) (fun w d => mix_ d (tellValue_ I b1 19 i1 w).toInt64) (mix_ J1 i1.toInt64) → im_E X k (im_Q X k (some (.long (mixValues_ I b1 p0))) (S, I)) 49 [some (.ref a), some (.long p0), none, some (.ref b1), some (.long J2), none, some (.int i1), some (.int i2)] [] S I := by
            intro w2
            induction w2 with
            | zero =>
              intro i2 J2  hm2 hR2
              refine r_iload (pc := 49) hX dX11_mixValues_49 rfl ?_
              refine r_bipush (pc := 51) hX 8 dX11_mixValues_51 (by decide) ?_
              refine r_icmp_ge (pc := 53) hX 82 dX11_mixValues_53 (by decide) (fun c53 => ?_) (fun c53 => ?_)
              · have c53d := Int32.not_lt.mpr c53
                rw [loopN_0] at hR2
                subst hR2
                refine r_iinc (pc := 82) hX 1 (L' := [_, _, _, _, _, _, _, _]) dX11_mixValues_82 rfl (by decide) rfl rfl ?_
                refine r_goto (pc := 85) hX (tgt := 6) dX11_mixValues_85 (by decide) ?_
                refine r_weak (L' := [some _, some _, none, some _, some _, none, some _, none]) (And.intro rfl (And.intro rfl (And.intro rfl (And.intro rfl (And.intro rfl trivial))))) ?_
                exact ih1 _ _  (cnt_nx hm1) (by refine Eq.trans (congrArg (loopN w1 (i1 + 1) (mixValue_ I b1)) ?_) (loopN_s.symm.trans hR1); exact (by first | with_reducible rfl | (simp only [mixValue_, loopC, eq_false c18, eq_true c18d, c33, eq_true c53, eq_false c53d, ↓reduceIte, if_true, if_false, decide_true, decide_false, eq_self, b2i_t, b2i_f, Bool.false_eq_true, and_true, true_and, and_false, false_and, or_true, true_or, or_false, false_or, not_true_eq_false, not_false_eq_true] <;> rfl) | simp [mixValue_, loopC, eq_false c18, eq_true c18d, c33, eq_true c53, eq_false c53d]))
              · have c53d := Int32.not_le.mp c53
                exact (cnt_ex hm2  c53).elim
            | succ w2 ih2 =>
              intro i2 J2  hm2 hR2
              refine r_iload (pc := 49) hX dX11_mixValues_49 rfl ?_
              refine r_bipush (pc := 51) hX 8 dX11_mixValues_51 (by decide) ?_
              refine r_icmp_ge (pc := 53) hX 82 dX11_mixValues_53 (by decide) (fun c53 => ?_) (fun c53 => ?_)
              · have c53d := Int32.not_lt.mpr c53
                exact (cnt_go hm2  c53).elim
              · have c53d := Int32.not_le.mp c53
                refine r_lload (pc := 56) hX dX11_mixValues_56 rfl ?_
                refine r_aload_n (pc := 58) hX dX11_mixValues_58 rfl ?_
                refine r_aload_n (pc := 59) hX dX11_mixValues_59 rfl ?_
                refine r_getr (pc := 60) hX dX11_mixValues_60 fl_X11_40 rfl (o_X11_k h) (o_X11_r4 h) ?_
                refine r_iload (pc := 63) hX dX11_mixValues_63 rfl ?_
                refine r_iload (pc := 65) hX dX11_mixValues_65 rfl ?_
                refine r_callV (Z := mX10_tellValue) (t := 10) (pc := 67) hX dX11_mixValues_67 ml_X11_209 mX10_tellValue_w ⟨by decide, rfl⟩ (o_X10_k hb1) (sp_X10_tellValue hb1 (o_X11_o4 h)) rfl rfl (Nat.le_of_ble_eq_true rfl) (by decide) rfl (Or.inl rfl) ?_
                refine r_i2l (pc := 70) hX dX11_mixValues_70 ?_
                refine r_callS (Z := mX11_mix) (pc := 71) hX dX11_mixValues_71 ml_X11_300 mX11_mix_w (sp_X11_mix) rfl rfl (Nat.le_of_ble_eq_true rfl) (by decide) rfl (Or.inl rfl) ?_
                refine r_lstore (pc := 74) hX (L' := [_, _, _, _, _, _, _, _]) dX11_mixValues_74 rfl rfl (Nat.le_of_ble_eq_true rfl) ?_
                refine r_iinc (pc := 76) hX 1 (L' := [_, _, _, _, _, _, _, _]) dX11_mixValues_76 rfl (by decide) rfl rfl ?_
                refine r_goto (pc := 79) hX (tgt := 49) dX11_mixValues_79 (by decide) ?_
                exact ih2 _ _  (cnt_nx hm2) (by refine Eq.trans (congrArg (loopN w2 (i2 + 1) (fun w d => mix_ d (tellValue_ I b1 19 i1 w).toInt64)) ?_) (loopN_s.symm.trans hR2); exact (by first | with_reducible rfl | (simp only [mixValue_, loopC, eq_false c18, eq_true c18d, c33, eq_false c53, eq_true c53d, ↓reduceIte, if_true, if_false, decide_true, decide_false, eq_self, b2i_t, b2i_f, Bool.false_eq_true, and_true, true_and, and_false, false_and, or_true, true_or, or_false, false_or, not_true_eq_false, not_false_eq_true] <;> rfl) | simp [mixValue_, loopC, eq_false c18, eq_true c18d, c33, eq_false c53, eq_true c53d]))
          exact hL49 (cnt (0) (8)) (0) (mix_ J1 i1.toInt64)  rfl rfl
  exact hL6 (cnt (0) (I 36 0)) (0) (p0)  rfl rfl
set_option maxRecDepth 100000 in
set_option maxHeartbeats 1000000 in
theorem sp_X11_mixCalls {l : Launch} {k : im_K} {S : im_S} {I : im_I} {a : Nat} {p0 : Int64} {b1 mb1 : Nat} (h : o_X11 S a) (hb1 : o_X10 S b1 mb1) : im_Runs l k 4 mX11_mixCalls [.ref a, .long p0, .ref b1] (S, I) (some (.long (mixCalls_ I b1 p0))) (S, I) := by
  refine im_run (by decide +kernel) ⟨Nat.le_refl _, Nat.le_refl _⟩ (Nat.le_of_ble_eq_true rfl) ?_
  intro X hl hX hxn hxz hxc hxs
  subst hl
  change im_E X k _ 0 [some (.ref a), some (.long p0), none, some (.ref b1), none, none, none, none] [] S I
  refine r_lload_n (pc := 0) hX dX11_mixCalls_0 rfl ?_
  refine r_lstore (pc := 1) hX (L' := [_, _, _, _, _, _, _, _]) dX11_mixCalls_1 rfl rfl (Nat.le_of_ble_eq_true rfl) ?_
  refine r_iconst (pc := 3) hX 0 dX11_mixCalls_3 (by decide) ?_
  refine r_istore (pc := 4) hX (L' := [_, _, _, _, _, _, _, _]) dX11_mixCalls_4 rfl rfl (Nat.le_of_ble_eq_true rfl) ?_
  have hL6 : ∀ (w1 : Nat) (i1 : Int32) (J1 : Int64), cnt i1 (I 36 2) = w1 → loopN w1 i1 (mixCall_ I b1) J1 = loopN (cnt (0) (I 36 2)) (0) (mixCall_ I b1) (p0) → im_E X k (im_Q X k (some (.long (mixCalls_ I b1 p0))) (S, I)) 6 [some (.ref a), some (.long p0), none, some (.ref b1), some (.long J1), none, some (.int i1), none] [] S I := by
    intro w1
    induction w1 with
    | zero =>
      intro i1 J1  hm1 hR1
      refine r_iload (pc := 6) hX dX11_mixCalls_6 rfl ?_
      refine r_aload_n (pc := 8) hX dX11_mixCalls_8 rfl ?_
      refine r_getr (pc := 9) hX dX11_mixCalls_9 fl_X11_40 rfl (o_X11_k h) (o_X11_r4 h) ?_
      refine r_getr (pc := 12) hX dX11_mixCalls_12 fl_X11_198 rfl (o_X7_k (o_X11_o4 h)) (o_X7_r2 (o_X11_o4 h)) ?_
      refine r_geti (pc := 15) hX dX11_mixCalls_15 fl_X11_212 rfl (o_X4_k (o_X7_o2 (o_X11_o4 h))) ?_
      refine r_icmp_ge (pc := 18) hX 62 dX11_mixCalls_18 (by decide) (fun c18 => ?_) (fun c18 => ?_)
      · have c18d := Int32.not_lt.mpr c18
        rw [loopN_0] at hR1
        subst hR1
        refine r_lload (pc := 62) hX dX11_mixCalls_62 rfl ?_
        exact r_lreturn (pc := 64) hX dX11_mixCalls_64 rfl (by first | with_reducible rfl | (simp only [mixCalls_, loopC, eq_true c18, eq_false c18d, ↓reduceIte, if_true, if_false, decide_true, decide_false, eq_self, b2i_t, b2i_f, Bool.false_eq_true, and_true, true_and, and_false, false_and, or_true, true_or, or_false, false_or, not_true_eq_false, not_false_eq_true] <;> rfl) | simp [mixCalls_, loopC, eq_true c18, eq_false c18d]) rfl
      · have c18d := Int32.not_le.mp c18
        exact (cnt_ex hm1  c18).elim
    | succ w1 ih1 =>
      intro i1 J1  hm1 hR1
      refine r_iload (pc := 6) hX dX11_mixCalls_6 rfl ?_
      refine r_aload_n (pc := 8) hX dX11_mixCalls_8 rfl ?_
      refine r_getr (pc := 9) hX dX11_mixCalls_9 fl_X11_40 rfl (o_X11_k h) (o_X11_r4 h) ?_
      refine r_getr (pc := 12) hX dX11_mixCalls_12 fl_X11_198 rfl (o_X7_k (o_X11_o4 h)) (o_X7_r2 (o_X11_o4 h)) ?_
      refine r_geti (pc := 15) hX dX11_mixCalls_15 fl_X11_212 rfl (o_X4_k (o_X7_o2 (o_X11_o4 h))) ?_
      refine r_icmp_ge (pc := 18) hX 62 dX11_mixCalls_18 (by decide) (fun c18 => ?_) (fun c18 => ?_)
      · have c18d := Int32.not_lt.mpr c18
        exact (cnt_go hm1  c18).elim
      · have c18d := Int32.not_le.mp c18
        refine r_iconst (pc := 21) hX 0 dX11_mixCalls_21 (by decide) ?_
        refine r_istore (pc := 22) hX (L' := [_, _, _, _, _, _, _, _]) dX11_mixCalls_22 rfl rfl (Nat.le_of_ble_eq_true rfl) ?_
        have hL24 : ∀ (w2 : Nat) (i2 : Int32) (J2 : Int64), cnt i2 (4) = w2 → loopN w2 i2 (fun w d => mix_ d (tellCall_ I b1 19 i1 w).toInt64) J2 = loopN (cnt (0) (4)) (0) (fun w d => mix_ d (tellCall_ I b1 19 i1 w).toInt64) (J1) → im_E X k (im_Q X k (some (.long (mixCalls_ I b1 p0))) (S, I)) 24 [some (.ref a), some (.long p0), none, some (.ref b1), some (.long J2), none, some (.int i1), some (.int i2)] [] S I := by
          intro w2
          induction w2 with
          | zero =>
            intro i2 J2  hm2 hR2
            refine r_iload (pc := 24) hX dX11_mixCalls_24 rfl ?_
            refine r_iconst (pc := 26) hX 4 dX11_mixCalls_26 (by decide) ?_
            refine r_icmp_ge (pc := 27) hX 56 dX11_mixCalls_27 (by decide) (fun c27 => ?_) (fun c27 => ?_)
            · have c27d := Int32.not_lt.mpr c27
              rw [loopN_0] at hR2
              subst hR2
              refine r_iinc (pc := 56) hX 1 (L' := [_, _, _, _, _, _, _, _]) dX11_mixCalls_56 rfl (by decide) rfl rfl ?_
              refine r_goto (pc := 59) hX (tgt := 6) dX11_mixCalls_59 (by decide) ?_
              refine r_weak (L' := [some _, some _, none, some _, some _, none, some _, none]) (And.intro rfl (And.intro rfl (And.intro rfl (And.intro rfl (And.intro rfl trivial))))) ?_
              exact ih1 _ _  (cnt_nx hm1) (by refine Eq.trans (congrArg (loopN w1 (i1 + 1) (mixCall_ I b1)) ?_) (loopN_s.symm.trans hR1); exact (by first | with_reducible rfl | (simp only [mixCall_, loopC, eq_false c18, eq_true c18d, eq_true c27, eq_false c27d, ↓reduceIte, if_true, if_false, decide_true, decide_false, eq_self, b2i_t, b2i_f, Bool.false_eq_true, and_true, true_and, and_false, false_and, or_true, true_or, or_false, false_or, not_true_eq_false, not_false_eq_true] <;> rfl) | simp [mixCall_, loopC, eq_false c18, eq_true c18d, eq_true c27, eq_false c27d]))
            · have c27d := Int32.not_le.mp c27
              exact (cnt_ex hm2  c27).elim
          | succ w2 ih2 =>
            intro i2 J2  hm2 hR2
            refine r_iload (pc := 24) hX dX11_mixCalls_24 rfl ?_
            refine r_iconst (pc := 26) hX 4 dX11_mixCalls_26 (by decide) ?_
            refine r_icmp_ge (pc := 27) hX 56 dX11_mixCalls_27 (by decide) (fun c27 => ?_) (fun c27 => ?_)
            · have c27d := Int32.not_lt.mpr c27
              exact (cnt_go hm2  c27).elim
            · have c27d := Int32.not_le.mp c27
              refine r_lload (pc := 30) hX dX11_mixCalls_30 rfl ?_
              refine r_aload_n (pc := 32) hX dX11_mixCalls_32 rfl ?_
              refine r_aload_n (pc := 33) hX dX11_mixCalls_33 rfl ?_
              refine r_getr (pc := 34) hX dX11_mixCalls_34 fl_X11_40 rfl (o_X11_k h) (o_X11_r4 h) ?_
              refine r_iload (pc := 37) hX dX11_mixCalls_37 rfl ?_
              refine r_iload (pc := 39) hX dX11_mixCalls_39 rfl ?_
              refine r_callV (Z := mX10_tellCall) (t := 10) (pc := 41) hX dX11_mixCalls_41 ml_X11_217 mX10_tellCall_w ⟨by decide, rfl⟩ (o_X10_k hb1) (sp_X10_tellCall hb1 (o_X11_o4 h)) rfl rfl (Nat.le_of_ble_eq_true rfl) (by decide) rfl (Or.inl rfl) ?_
              refine r_i2l (pc := 44) hX dX11_mixCalls_44 ?_
              refine r_callS (Z := mX11_mix) (pc := 45) hX dX11_mixCalls_45 ml_X11_300 mX11_mix_w (sp_X11_mix) rfl rfl (Nat.le_of_ble_eq_true rfl) (by decide) rfl (Or.inl rfl) ?_
              refine r_lstore (pc := 48) hX (L' := [_, _, _, _, _, _, _, _]) dX11_mixCalls_48 rfl rfl (Nat.le_of_ble_eq_true rfl) ?_
              refine r_iinc (pc := 50) hX 1 (L' := [_, _, _, _, _, _, _, _]) dX11_mixCalls_50 rfl (by decide) rfl rfl ?_
              refine r_goto (pc := 53) hX (tgt := 24) dX11_mixCalls_53 (by decide) ?_
              exact ih2 _ _  (cnt_nx hm2) (by refine Eq.trans (congrArg (loopN w2 (i2 + 1) (fun w d => mix_ d (tellCall_ I b1 19 i1 w).toInt64)) ?_) (loopN_s.symm.trans hR2); exact (by first | with_reducible rfl | (simp only [mixCall_, loopC, eq_false c18, eq_true c18d, eq_false c27, eq_true c27d, ↓reduceIte, if_true, if_false, decide_true, decide_false, eq_self, b2i_t, b2i_f, Bool.false_eq_true, and_true, true_and, and_false, false_and, or_true, true_or, or_false, false_or, not_true_eq_false, not_false_eq_true] <;> rfl) | simp [mixCall_, loopC, eq_false c18, eq_true c18d, eq_false c27, eq_true c27d]))
        exact hL24 (cnt (0) (4)) (0) (J1)  rfl rfl
  exact hL6 (cnt (0) (I 36 2)) (0) (p0)  rfl rfl
set_option maxRecDepth 100000 in
set_option maxHeartbeats 1000000 in
theorem sp_X11_mixCode {l : Launch} {k : im_K} {S : im_S} {I : im_I} {p0 : Int64} {b1 mb1 : Nat} (hb1 : o_X10 S b1 mb1) : im_Runs l k 3 mX11_mixCode [.long p0, .ref b1] (S, I) (some (.long (mixCode_ I b1 p0))) (S, I) := by
  refine im_run (by decide +kernel) ⟨Nat.le_refl _, Nat.le_refl _⟩ (Nat.le_of_ble_eq_true rfl) ?_
  intro X hl hX hxn hxz hxc hxs
  subst hl
  change im_E X k _ 0 [some (.long p0), none, some (.ref b1), none, none, none, none] [] S I
  refine r_lload_n (pc := 0) hX dX11_mixCode_0 rfl ?_
  refine r_lstore_n (pc := 1) hX (L' := [_, _, _, _, _, _, _]) dX11_mixCode_1 rfl rfl (Nat.le_of_ble_eq_true rfl) ?_
  refine r_iconst (pc := 2) hX 0 dX11_mixCode_2 (by decide) ?_
  refine r_istore (pc := 3) hX (L' := [_, _, _, _, _, _, _]) dX11_mixCode_3 rfl rfl (Nat.le_of_ble_eq_true rfl) ?_
  have hL5 : ∀ (w1 : Nat) (i1 : Int32) (J1 : Int64), cnt i1 (I (b1 + 7) 0) = w1 → loopN w1 i1 (mixPlace_ I b1) J1 = loopN (cnt (0) (I (b1 + 7) 0)) (0) (mixPlace_ I b1) (p0) → im_E X k (im_Q X k (some (.long (mixCode_ I b1 p0))) (S, I)) 5 [some (.long p0), none, some (.ref b1), some (.long J1), none, some (.int i1), none] [] S I := by
    intro w1
    induction w1 with
    | zero =>
      intro i1 J1  hm1 hR1
      refine r_iload (pc := 5) hX dX11_mixCode_5 rfl ?_
      refine r_aload_n (pc := 7) hX dX11_mixCode_7 rfl ?_
      refine r_getr (pc := 8) hX dX11_mixCode_8 fl_X11_229 rfl (o_X10_k hb1) (o_X10_r1 hb1) ?_
      refine r_geti (pc := 11) hX dX11_mixCode_11 fl_X11_233 rfl (o_X1_k (o_X10_o1 hb1)) ?_
      refine r_icmp_ge (pc := 14) hX 74 dX11_mixCode_14 (by decide) (fun c14 => ?_) (fun c14 => ?_)
      · have c14d := Int32.not_lt.mpr c14
        rw [loopN_0] at hR1
        subst hR1
        refine r_lload_n (pc := 74) hX dX11_mixCode_74 rfl ?_
        exact r_lreturn (pc := 75) hX dX11_mixCode_75 rfl (by first | with_reducible rfl | (simp only [mixCode_, loopC, eq_true c14, eq_false c14d, ↓reduceIte, if_true, if_false, decide_true, decide_false, eq_self, b2i_t, b2i_f, Bool.false_eq_true, and_true, true_and, and_false, false_and, or_true, true_or, or_false, false_or, not_true_eq_false, not_false_eq_true] <;> rfl) | simp [mixCode_, loopC, eq_true c14, eq_false c14d]) rfl
      · have c14d := Int32.not_le.mp c14
        exact (cnt_ex hm1  c14).elim
    | succ w1 ih1 =>
      intro i1 J1  hm1 hR1
      refine r_iload (pc := 5) hX dX11_mixCode_5 rfl ?_
      refine r_aload_n (pc := 7) hX dX11_mixCode_7 rfl ?_
      refine r_getr (pc := 8) hX dX11_mixCode_8 fl_X11_229 rfl (o_X10_k hb1) (o_X10_r1 hb1) ?_
      refine r_geti (pc := 11) hX dX11_mixCode_11 fl_X11_233 rfl (o_X1_k (o_X10_o1 hb1)) ?_
      refine r_icmp_ge (pc := 14) hX 74 dX11_mixCode_14 (by decide) (fun c14 => ?_) (fun c14 => ?_)
      · have c14d := Int32.not_lt.mpr c14
        exact (cnt_go hm1  c14).elim
      · have c14d := Int32.not_le.mp c14
        refine r_iconst (pc := 17) hX 0 dX11_mixCode_17 (by decide) ?_
        refine r_istore (pc := 18) hX (L' := [_, _, _, _, _, _, _]) dX11_mixCode_18 rfl rfl (Nat.le_of_ble_eq_true rfl) ?_
        have hL20 : ∀ (w2 : Nat) (i2 : Int32) (J2 : Int64), cnt i2 (6) = w2 → loopN w2 i2 (fun w d => mix_ d (tellPlace_ I (b1 + 7) i1 w).toInt64) J2 = loopN (cnt (0) (6)) (0) (fun w d => mix_ d (tellPlace_ I (b1 + 7) i1 w).toInt64) (J1) → im_E X k (im_Q X k (some (.long (mixCode_ I b1 p0))) (S, I)) 20 [some (.long p0), none, some (.ref b1), some (.long J2), none, some (.int i1), some (.int i2)] [] S I := by
          intro w2
          induction w2 with
          | zero =>
            intro i2 J2  hm2 hR2
            refine r_iload (pc := 20) hX dX11_mixCode_20 rfl ?_
            refine r_bipush (pc := 22) hX 6 dX11_mixCode_22 (by decide) ?_
            refine r_icmp_ge (pc := 24) hX 50 dX11_mixCode_24 (by decide) (fun c24 => ?_) (fun c24 => ?_)
            · have c24d := Int32.not_lt.mpr c24
              rw [loopN_0] at hR2
              subst hR2
              refine r_lload_n (pc := 50) hX dX11_mixCode_50 rfl ?_
              refine r_aload_n (pc := 51) hX dX11_mixCode_51 rfl ?_
              refine r_getr (pc := 52) hX dX11_mixCode_52 fl_X11_244 rfl (o_X10_k hb1) (o_X10_r2 hb1) ?_
              refine r_getr (pc := 55) hX dX11_mixCode_55 fl_X11_248 rfl (o_X9_k (o_X10_o2 hb1)) (o_X9_r3 (o_X10_o2 hb1)) ?_
              refine r_iload (pc := 58) hX dX11_mixCode_58 rfl ?_
              refine r_callS (Z := mX11_at) (pc := 60) hX dX11_mixCode_60 ml_X11_102 mX11_at_w (sp_X11_at (o_X9_a3 (o_X10_o2 hb1))) rfl rfl (Nat.le_of_ble_eq_true rfl) (by decide) rfl (Or.inl rfl) ?_
              refine r_i2l (pc := 63) hX dX11_mixCode_63 ?_
              refine r_callS (Z := mX11_mix) (pc := 64) hX dX11_mixCode_64 ml_X11_300 mX11_mix_w (sp_X11_mix) rfl rfl (Nat.le_of_ble_eq_true rfl) (by decide) rfl (Or.inl rfl) ?_
              refine r_lstore_n (pc := 67) hX (L' := [_, _, _, _, _, _, _]) dX11_mixCode_67 rfl rfl (Nat.le_of_ble_eq_true rfl) ?_
              refine r_iinc (pc := 68) hX 1 (L' := [_, _, _, _, _, _, _]) dX11_mixCode_68 rfl (by decide) rfl rfl ?_
              refine r_goto (pc := 71) hX (tgt := 5) dX11_mixCode_71 (by decide) ?_
              refine r_weak (L' := [some _, none, some _, some _, none, some _, none]) (And.intro rfl (And.intro rfl (And.intro rfl (And.intro rfl trivial)))) ?_
              exact ih1 _ _  (cnt_nx hm1) (by refine Eq.trans (congrArg (loopN w1 (i1 + 1) (mixPlace_ I b1)) ?_) (loopN_s.symm.trans hR1); exact (by first | with_reducible rfl | (simp only [mixPlace_, loopC, eq_false c14, eq_true c14d, eq_true c24, eq_false c24d, ↓reduceIte, if_true, if_false, decide_true, decide_false, eq_self, b2i_t, b2i_f, Bool.false_eq_true, and_true, true_and, and_false, false_and, or_true, true_or, or_false, false_or, not_true_eq_false, not_false_eq_true] <;> rfl) | simp [mixPlace_, loopC, eq_false c14, eq_true c14d, eq_true c24, eq_false c24d]))
            · have c24d := Int32.not_le.mp c24
              exact (cnt_ex hm2  c24).elim
          | succ w2 ih2 =>
            intro i2 J2  hm2 hR2
            refine r_iload (pc := 20) hX dX11_mixCode_20 rfl ?_
            refine r_bipush (pc := 22) hX 6 dX11_mixCode_22 (by decide) ?_
            refine r_icmp_ge (pc := 24) hX 50 dX11_mixCode_24 (by decide) (fun c24 => ?_) (fun c24 => ?_)
            · have c24d := Int32.not_lt.mpr c24
              exact (cnt_go hm2  c24).elim
            · have c24d := Int32.not_le.mp c24
              refine r_lload_n (pc := 27) hX dX11_mixCode_27 rfl ?_
              refine r_aload_n (pc := 28) hX dX11_mixCode_28 rfl ?_
              refine r_getr (pc := 29) hX dX11_mixCode_29 fl_X11_229 rfl (o_X10_k hb1) (o_X10_r1 hb1) ?_
              refine r_iload (pc := 32) hX dX11_mixCode_32 rfl ?_
              refine r_iload (pc := 34) hX dX11_mixCode_34 rfl ?_
              refine r_callV (Z := mX1_tellPlace) (t := 1) (pc := 36) hX dX11_mixCode_36 ml_X11_240 mX1_tellPlace_w ⟨by decide, rfl⟩ (o_X1_k (o_X10_o1 hb1)) (sp_X1_tellPlace (o_X10_o1 hb1)) rfl rfl (Nat.le_of_ble_eq_true rfl) (by decide) rfl (Or.inl rfl) ?_
              refine r_i2l (pc := 39) hX dX11_mixCode_39 ?_
              refine r_callS (Z := mX11_mix) (pc := 40) hX dX11_mixCode_40 ml_X11_300 mX11_mix_w (sp_X11_mix) rfl rfl (Nat.le_of_ble_eq_true rfl) (by decide) rfl (Or.inl rfl) ?_
              refine r_lstore_n (pc := 43) hX (L' := [_, _, _, _, _, _, _]) dX11_mixCode_43 rfl rfl (Nat.le_of_ble_eq_true rfl) ?_
              refine r_iinc (pc := 44) hX 1 (L' := [_, _, _, _, _, _, _]) dX11_mixCode_44 rfl (by decide) rfl rfl ?_
              refine r_goto (pc := 47) hX (tgt := 20) dX11_mixCode_47 (by decide) ?_
              exact ih2 _ _  (cnt_nx hm2) (by refine Eq.trans (congrArg (loopN w2 (i2 + 1) (fun w d => mix_ d (tellPlace_ I (b1 + 7) i1 w).toInt64)) ?_) (loopN_s.symm.trans hR2); exact (by first | with_reducible rfl | (simp only [mixPlace_, loopC, eq_false c14, eq_true c14d, eq_false c24, eq_true c24d, ↓reduceIte, if_true, if_false, decide_true, decide_false, eq_self, b2i_t, b2i_f, Bool.false_eq_true, and_true, true_and, and_false, false_and, or_true, true_or, or_false, false_or, not_true_eq_false, not_false_eq_true] <;> rfl) | simp [mixPlace_, loopC, eq_false c14, eq_true c14d, eq_false c24, eq_true c24d]))
        exact hL20 (cnt (0) (6)) (0) (J1)  rfl rfl
  exact hL5 (cnt (0) (I (b1 + 7) 0)) (0) (p0)  rfl rfl
set_option maxRecDepth 100000 in
set_option maxHeartbeats 1000000 in
theorem sp_X11_digest {l : Launch} {k : im_K} {S : im_S} {I : im_I} {a : Nat} (h : o_X11 S a) (ha : a < 3) (hrt : ∀ b j : Int32, rootOf_ I 3 b j < 2147483647) (hz : (I 15 3 = 0 ∨ I 15 3 = 1) ∧ (I 15 4 = 0 ∨ I 15 4 = 1)) (he : (builtNow_ I a) 29 0 < 2147483647) : im_Runs l k 7 mX11_digest [.ref a] (S, I) (some (.long (digestV_ (builtNow_ I a) a))) (S, digestM_ (builtNow_ I a) a) := by
  refine im_run (by decide +kernel) ⟨Nat.le_refl _, Nat.le_refl _⟩ (Nat.le_of_ble_eq_true rfl) ?_
  intro X hl hX hxn hxz hxc hxs
  subst hl
  change im_E X k _ 0 [some (.ref a), none, none, none, none] [] S I
  refine r_aload_n (pc := 0) hX dX11_digest_0 rfl ?_
  refine r_callV (Z := mX11_builtNow) (t := 11) (pc := 1) hX dX11_digest_1 ml_X11_177 mX11_builtNow_w ⟨by decide, rfl⟩ (o_X11_k h) (sp_X11_builtNow h) rfl rfl (Nat.le_of_ble_eq_true rfl) (by decide) rfl (Or.inl rfl) ?_
  refine r_astore_n (pc := 4) hX (L' := [_, _, _, _, _]) dX11_digest_4 rfl rfl (Nat.le_of_ble_eq_true rfl) ?_
  refine r_ldc2 (pc := 5) hX dX11_digest_5 ko_X11_298 ?_
  refine r_lstore_n (pc := 8) hX (L' := [_, _, _, _, _]) dX11_digest_8 rfl rfl (Nat.le_of_ble_eq_true rfl) ?_
  refine r_iconst (pc := 9) hX 0 dX11_digest_9 (by decide) ?_
  refine r_istore (pc := 10) hX (L' := [_, _, _, _, _]) dX11_digest_10 rfl rfl (Nat.le_of_ble_eq_true rfl) ?_
  have hL12 : ∀ (w1 : Nat) (i1 : Int32) (J1 : Int64), cnt i1 (15 + 1) = w1 → loopN w1 i1 (fun w d => mix_ d (tellMany_ (builtNow_ I a) 91 19 w).toInt64) J1 = loopN (cnt (0) (15 + 1)) (0) (fun w d => mix_ d (tellMany_ (builtNow_ I a) 91 19 w).toInt64) (58132) → im_E X k (im_Q X k (some (.long (digestV_ (builtNow_ I a) a))) (S, digestM_ (builtNow_ I a) a)) 12 [some (.ref a), some (.ref 91), some (.long J1), none, some (.int i1)] [] S (builtNow_ I a) := by
    intro w1
    induction w1 with
    | zero =>
      intro i1 J1  hm1 hR1
      refine r_iload (pc := 12) hX dX11_digest_12 rfl ?_
      refine r_bipush (pc := 14) hX 15 dX11_digest_14 (by decide) ?_
      refine r_icmp_gt (pc := 16) hX 41 dX11_digest_16 (by decide) (fun c16 => ?_) (fun c16 => ?_)
      · have c16d := Int32.not_le.mpr c16
        rw [loopN_0] at hR1
        subst hR1
        refine r_aload_n (pc := 41) hX dX11_digest_41 rfl ?_
        refine r_lload_n (pc := 42) hX dX11_digest_42 rfl ?_
        refine r_aload_n (pc := 43) hX dX11_digest_43 rfl ?_
        refine r_callV (Z := mX11_mixVariables) (t := 11) (pc := 44) hX dX11_digest_44 ml_X11_304 mX11_mixVariables_w ⟨by decide, rfl⟩ (o_X11_k h) (sp_X11_mixVariables h (o_X11_o6 h) (fun b j => by rw [show rootOf_ (builtNow_ I a) 3 b j = rootOf_ I 3 b j from congrArg (fun r => at_ r 96 (placeOf_ b j)) (builtNow_fr ha (by omega) (by omega))]; exact hrt b j)) rfl rfl (Nat.le_of_ble_eq_true rfl) (by decide) rfl (Or.inl rfl) ?_
        refine r_lstore_n (pc := 47) hX (L' := [_, _, _, _, _]) dX11_digest_47 rfl rfl (Nat.le_of_ble_eq_true rfl) ?_
        refine r_aload_n (pc := 48) hX dX11_digest_48 rfl ?_
        refine r_lload_n (pc := 49) hX dX11_digest_49 rfl ?_
        refine r_aload_n (pc := 50) hX dX11_digest_50 rfl ?_
        refine r_callV (Z := mX11_mixLines) (t := 11) (pc := 51) hX dX11_digest_51 ml_X11_308 mX11_mixLines_w ⟨by decide, rfl⟩ (o_X11_k h) (sp_X11_mixLines h (o_X11_o6 h)) rfl rfl (Nat.le_of_ble_eq_true rfl) (by decide) rfl (Or.inl rfl) ?_
        refine r_lstore_n (pc := 54) hX (L' := [_, _, _, _, _]) dX11_digest_54 rfl rfl (Nat.le_of_ble_eq_true rfl) ?_
        refine r_aload_n (pc := 55) hX dX11_digest_55 rfl ?_
        refine r_lload_n (pc := 56) hX dX11_digest_56 rfl ?_
        refine r_aload_n (pc := 57) hX dX11_digest_57 rfl ?_
        refine r_callV (Z := mX11_mixValues) (t := 11) (pc := 58) hX dX11_digest_58 ml_X11_311 mX11_mixValues_w ⟨by decide, rfl⟩ (o_X11_k h) (sp_X11_mixValues h (o_X11_o6 h)) rfl rfl (Nat.le_of_ble_eq_true rfl) (by decide) rfl (Or.inl rfl) ?_
        refine r_lstore_n (pc := 61) hX (L' := [_, _, _, _, _]) dX11_digest_61 rfl rfl (Nat.le_of_ble_eq_true rfl) ?_
        refine r_aload_n (pc := 62) hX dX11_digest_62 rfl ?_
        refine r_lload_n (pc := 63) hX dX11_digest_63 rfl ?_
        refine r_aload_n (pc := 64) hX dX11_digest_64 rfl ?_
        refine r_callV (Z := mX11_mixCalls) (t := 11) (pc := 65) hX dX11_digest_65 ml_X11_314 mX11_mixCalls_w ⟨by decide, rfl⟩ (o_X11_k h) (sp_X11_mixCalls h (o_X11_o6 h)) rfl rfl (Nat.le_of_ble_eq_true rfl) (by decide) rfl (Or.inl rfl) ?_
        refine r_lstore_n (pc := 68) hX (L' := [_, _, _, _, _]) dX11_digest_68 rfl rfl (Nat.le_of_ble_eq_true rfl) ?_
        refine r_lload_n (pc := 69) hX dX11_digest_69 rfl ?_
        refine r_aload_n (pc := 70) hX dX11_digest_70 rfl ?_
        refine r_callS (Z := mX11_mixCode) (pc := 71) hX dX11_digest_71 ml_X11_317 mX11_mixCode_w (sp_X11_mixCode (o_X11_o6 h)) rfl rfl (Nat.le_of_ble_eq_true rfl) (by decide) rfl (Or.inl rfl) ?_
        refine r_lstore_n (pc := 74) hX (L' := [_, _, _, _, _]) dX11_digest_74 rfl rfl (Nat.le_of_ble_eq_true rfl) ?_
        refine r_lload_n (pc := 75) hX dX11_digest_75 rfl ?_
        refine r_aload_n (pc := 76) hX dX11_digest_76 rfl ?_
        refine r_callV (Z := mX11_fewestRegisters) (t := 11) (pc := 77) hX dX11_digest_77 ml_X11_291 mX11_fewestRegisters_w ⟨by decide, rfl⟩ (o_X11_k h) (sp_X11_fewestRegisters h (by rw [show (meantNow_ (builtNow_ I a) a) 15 = I 15 from (meantNow_fr (by omega) (by omega)).trans (builtNow_fr ha (by omega) (by omega))]; exact hz)) rfl rfl (Nat.le_of_ble_eq_true rfl) (by decide) rfl (Or.inl rfl) ?_
        refine r_i2l (pc := 80) hX dX11_digest_80 ?_
        refine r_callS (Z := mX11_mix) (pc := 81) hX dX11_digest_81 ml_X11_300 mX11_mix_w (sp_X11_mix) rfl rfl (Nat.le_of_ble_eq_true rfl) (by decide) rfl (Or.inl rfl) ?_
        refine r_lstore_n (pc := 84) hX (L' := [_, _, _, _, _]) dX11_digest_84 rfl rfl (Nat.le_of_ble_eq_true rfl) ?_
        refine r_lload_n (pc := 85) hX dX11_digest_85 rfl ?_
        refine r_aload_n (pc := 86) hX dX11_digest_86 rfl ?_
        refine r_callV (Z := mX11_cyclesUnordered) (t := 11) (pc := 87) hX dX11_digest_87 ml_X11_295 mX11_cyclesUnordered_w ⟨by decide, rfl⟩ (o_X11_k h) (sp_X11_cyclesUnordered h (by rw [show ((few_ (meantNow_ (builtNow_ I a) a)).2) 15 = I 15 from (few_fr (by omega)).trans ((meantNow_fr (by omega) (by omega)).trans (builtNow_fr ha (by omega) (by omega)))]; exact hz)) rfl rfl (Nat.le_of_ble_eq_true rfl) (by decide) rfl (Or.inl rfl) ?_
        refine r_aload_n (pc := 90) hX dX11_digest_90 rfl ?_
        refine r_getr (pc := 91) hX dX11_digest_91 fl_X11_244 rfl (o_X10_k (o_X11_o6 h)) (o_X10_r2 (o_X11_o6 h)) ?_
        refine r_geti (pc := 94) hX dX11_digest_94 fl_X11_288 rfl (o_X9_k (o_X10_o2 (o_X11_o6 h))) ?_
        refine r_isub (pc := 97) hX dX11_digest_97 ?_
        refine r_i2l (pc := 98) hX dX11_digest_98 ?_
        refine r_callS (Z := mX11_mix) (pc := 99) hX dX11_digest_99 ml_X11_300 mX11_mix_w (sp_X11_mix) rfl rfl (Nat.le_of_ble_eq_true rfl) (by decide) rfl (Or.inl rfl) ?_
        refine r_lstore_n (pc := 102) hX (L' := [_, _, _, _, _]) dX11_digest_102 rfl rfl (Nat.le_of_ble_eq_true rfl) ?_
        refine r_aload_n (pc := 103) hX dX11_digest_103 rfl ?_
        refine r_bipush (pc := 104) hX 6 dX11_digest_104 (by decide) ?_
        refine r_iconst (pc := 106) hX 4 dX11_digest_106 (by decide) ?_
        refine r_iconst (pc := 107) hX 1 dX11_digest_107 (by decide) ?_
        refine r_callV (Z := mX11_builtWith) (t := 11) (pc := 108) hX dX11_digest_108 ml_X11_273 mX11_builtWith_w ⟨by decide, rfl⟩ (o_X11_k h) (sp_X11_builtWith h (by rw [show (unordM_ ((few_ (meantNow_ (builtNow_ I a) a)).2)) 15 = I 15 from (unordM_fr (by omega)).trans ((few_fr (by omega)).trans ((meantNow_fr (by omega) (by omega)).trans (builtNow_fr ha (by omega) (by omega))))]; exact hz) (by decide)) rfl rfl (Nat.le_of_ble_eq_true rfl) (by decide) rfl (Or.inl rfl) ?_
        refine r_astore (pc := 111) hX (L' := [_, _, _, _, _]) dX11_digest_111 rfl rfl (Nat.le_of_ble_eq_true rfl) ?_
        refine r_lload_n (pc := 113) hX dX11_digest_113 rfl ?_
        refine r_aload (pc := 114) hX dX11_digest_114 rfl ?_
        refine r_aload_n (pc := 116) hX dX11_digest_116 rfl ?_
        refine r_getr (pc := 117) hX dX11_digest_117 fl_X11_40 rfl (o_X11_k h) (o_X11_r4 h) ?_
        refine r_bipush (pc := 120) hX 9 dX11_digest_120 (by decide) ?_
        refine r_callV (Z := mX10_tellMany) (t := 10) (pc := 122) hX dX11_digest_122 ml_X11_262 mX10_tellMany_w ⟨by decide, rfl⟩ (o_X10_k (o_X11_o7 h)) (sp_X10_tellMany (o_X11_o7 h) (o_X11_o4 h) (by rw [show builtWith_ (unordM_ ((few_ (meantNow_ (builtNow_ I a) a)).2)) 6 4 1 29 = (builtNow_ I a) 29 from (builtWith_fr (by omega)).trans ((unordM_fr (by omega)).trans ((few_fr (by omega)).trans (meantNow_fr (by omega) (by omega))))]; exact he)) rfl rfl (Nat.le_of_ble_eq_true rfl) (by decide) rfl (Or.inl rfl) ?_
        refine r_i2l (pc := 125) hX dX11_digest_125 ?_
        refine r_callS (Z := mX11_mix) (pc := 126) hX dX11_digest_126 ml_X11_300 mX11_mix_w (sp_X11_mix) rfl rfl (Nat.le_of_ble_eq_true rfl) (by decide) rfl (Or.inl rfl) ?_
        refine r_lstore_n (pc := 129) hX (L' := [_, _, _, _, _]) dX11_digest_129 rfl rfl (Nat.le_of_ble_eq_true rfl) ?_
        refine r_lload_n (pc := 130) hX dX11_digest_130 rfl ?_
        refine r_aload (pc := 131) hX dX11_digest_131 rfl ?_
        refine r_aload_n (pc := 133) hX dX11_digest_133 rfl ?_
        refine r_getr (pc := 134) hX dX11_digest_134 fl_X11_40 rfl (o_X11_k h) (o_X11_r4 h) ?_
        refine r_bipush (pc := 137) hX 13 dX11_digest_137 (by decide) ?_
        refine r_callV (Z := mX10_tellMany) (t := 10) (pc := 139) hX dX11_digest_139 ml_X11_262 mX10_tellMany_w ⟨by decide, rfl⟩ (o_X10_k (o_X11_o7 h)) (sp_X10_tellMany (o_X11_o7 h) (o_X11_o4 h) (by rw [show builtWith_ (unordM_ ((few_ (meantNow_ (builtNow_ I a) a)).2)) 6 4 1 29 = (builtNow_ I a) 29 from (builtWith_fr (by omega)).trans ((unordM_fr (by omega)).trans ((few_fr (by omega)).trans (meantNow_fr (by omega) (by omega))))]; exact he)) rfl rfl (Nat.le_of_ble_eq_true rfl) (by decide) rfl (Or.inl rfl) ?_
        refine r_i2l (pc := 142) hX dX11_digest_142 ?_
        refine r_callS (Z := mX11_mix) (pc := 143) hX dX11_digest_143 ml_X11_300 mX11_mix_w (sp_X11_mix) rfl rfl (Nat.le_of_ble_eq_true rfl) (by decide) rfl (Or.inl rfl) ?_
        exact r_lreturn (pc := 146) hX dX11_digest_146 rfl (by first | with_reducible rfl | (simp only [digestV_, digestA_, digestM_, mixMany_, loopC, eq_true c16, eq_false c16d, ↓reduceIte, if_true, if_false, decide_true, decide_false, eq_self, b2i_t, b2i_f, Bool.false_eq_true, and_true, true_and, and_false, false_and, or_true, true_or, or_false, false_or, not_true_eq_false, not_false_eq_true] <;> rfl) | simp [digestV_, digestA_, digestM_, mixMany_, loopC, eq_true c16, eq_false c16d]) (by first | with_reducible rfl | (simp only [digestV_, digestA_, digestM_, mixMany_, loopC, eq_true c16, eq_false c16d, ↓reduceIte, if_true, if_false, decide_true, decide_false, eq_self, b2i_t, b2i_f, Bool.false_eq_true, and_true, true_and, and_false, false_and, or_true, true_or, or_false, false_or, not_true_eq_false, not_false_eq_true] <;> rfl) | simp [digestV_, digestA_, digestM_, mixMany_, loopC, eq_true c16, eq_false c16d])
      · have c16d := Int32.not_lt.mp c16
        exact (cntL_ex hm1 (by decide) c16).elim
    | succ w1 ih1 =>
      intro i1 J1  hm1 hR1
      refine r_iload (pc := 12) hX dX11_digest_12 rfl ?_
      refine r_bipush (pc := 14) hX 15 dX11_digest_14 (by decide) ?_
      refine r_icmp_gt (pc := 16) hX 41 dX11_digest_16 (by decide) (fun c16 => ?_) (fun c16 => ?_)
      · have c16d := Int32.not_le.mpr c16
        exact (cntL_go hm1 (by decide) c16).elim
      · have c16d := Int32.not_lt.mp c16
        refine r_lload_n (pc := 19) hX dX11_digest_19 rfl ?_
        refine r_aload_n (pc := 20) hX dX11_digest_20 rfl ?_
        refine r_aload_n (pc := 21) hX dX11_digest_21 rfl ?_
        refine r_getr (pc := 22) hX dX11_digest_22 fl_X11_40 rfl (o_X11_k h) (o_X11_r4 h) ?_
        refine r_iload (pc := 25) hX dX11_digest_25 rfl ?_
        refine r_callV (Z := mX10_tellMany) (t := 10) (pc := 27) hX dX11_digest_27 ml_X11_262 mX10_tellMany_w ⟨by decide, rfl⟩ (o_X10_k (o_X11_o6 h)) (sp_X10_tellMany (o_X11_o6 h) (o_X11_o4 h) he) rfl rfl (Nat.le_of_ble_eq_true rfl) (by decide) rfl (Or.inl rfl) ?_
        refine r_i2l (pc := 30) hX dX11_digest_30 ?_
        refine r_callS (Z := mX11_mix) (pc := 31) hX dX11_digest_31 ml_X11_300 mX11_mix_w (sp_X11_mix) rfl rfl (Nat.le_of_ble_eq_true rfl) (by decide) rfl (Or.inl rfl) ?_
        refine r_lstore_n (pc := 34) hX (L' := [_, _, _, _, _]) dX11_digest_34 rfl rfl (Nat.le_of_ble_eq_true rfl) ?_
        refine r_iinc (pc := 35) hX 1 (L' := [_, _, _, _, _]) dX11_digest_35 rfl (by decide) rfl rfl ?_
        refine r_goto (pc := 38) hX (tgt := 12) dX11_digest_38 (by decide) ?_
        exact ih1 _ _  (cnt_nx hm1) (by refine Eq.trans (congrArg (loopN w1 (i1 + 1) (fun w d => mix_ d (tellMany_ (builtNow_ I a) 91 19 w).toInt64)) ?_) (loopN_s.symm.trans hR1); exact (by first | with_reducible rfl | (simp only [eq_false c16, eq_true c16d, ↓reduceIte, if_true, if_false, decide_true, decide_false, eq_self, b2i_t, b2i_f, Bool.false_eq_true, and_true, true_and, and_false, false_and, or_true, true_or, or_false, false_or, not_true_eq_false, not_false_eq_true] <;> rfl) | simp [eq_false c16, eq_true c16d]))
  exact hL12 (cnt (0) (15 + 1)) (0) (58132)  rfl rfl
set_option maxRecDepth 100000 in
set_option maxHeartbeats 1000000 in
theorem sp_X11_machine {l : Launch} {k : im_K} {S : im_S} {I : im_I} {a : Nat} {p0 : Int32} {p1 : Int32} {p2 : Int32} {p3 : Int32} {p4 : Int32} (h : o_X11 S a) (hw : isMachine_ p0 p1 = true) (h0 : ¬ p2 < 0) (h1 : p2 ≤ 99) (hb3 : p3 = 0 ∨ p3 = 1) (hb4 : p4 = 0 ∨ p4 = 1) : im_Runs l k 2 mX11_machine [.ref a, .int p0, .int p1, .int p2, .int p3, .int p4] (S, I) (some (.int (I 15 0))) (S, forget_ (im_up (im_up (im_up (im_up (im_up I 15 0 p0) 15 1 p1) 15 2 p2) 15 3 p3) 15 4 p4) a) := by
  refine im_run (by decide +kernel) ⟨Nat.le_refl _, Nat.le_refl _⟩ (Nat.le_of_ble_eq_true rfl) ?_
  intro X hl hX hxn hxz hxc hxs
  subst hl
  change im_E X k _ 0 [some (.ref a), some (.int p0), some (.int p1), some (.int p2), some (.int p3), some (.int p4), none] [] S I
  refine r_iload_n (pc := 0) hX dX11_machine_0 rfl ?_
  refine r_iload_n (pc := 1) hX dX11_machine_1 rfl ?_
  refine r_callS (Z := mX11_isMachine) (pc := 2) hX dX11_machine_2 ml_X11_57 mX11_isMachine_w (sp_X11_isMachine) rfl rfl (Nat.le_of_ble_eq_true rfl) (by decide) rfl (Or.inl rfl) ?_
  refine r_if_eq (pc := 5) hX 18 dX11_machine_5 (by decide) (fun c5 => ?_) (fun c5 => ?_)
  · replace c5 := b2i_0 c5
    exact absurd (hw.symm.trans c5) (by decide)
  · replace c5 := b2i_1 c5
    refine r_iload_n (pc := 8) hX dX11_machine_8 rfl ?_
    refine r_if_lt (pc := 9) hX 18 dX11_machine_9 (by decide) (fun c9 => ?_) (fun c9 => ?_)
    · have c9d := Int32.not_le.mpr c9
      exact absurd c9 h0
    · have c9d := Int32.not_lt.mp c9
      refine r_iload_n (pc := 12) hX dX11_machine_12 rfl ?_
      refine r_bipush (pc := 13) hX 99 dX11_machine_13 (by decide) ?_
      refine r_icmp_le (pc := 15) hX 28 dX11_machine_15 (by decide) (fun c15 => ?_) (fun c15 => ?_)
      · have c15d := Int32.not_lt.mpr c15
        refine r_aload_n (pc := 28) hX dX11_machine_28 rfl ?_
        refine r_getr (pc := 29) hX dX11_machine_29 fl_X11_28 rfl (o_X11_k h) (o_X11_r2 h) ?_
        refine r_geti (pc := 32) hX dX11_machine_32 fl_X11_68 rfl (o_X5_k (o_X11_o2 h)) ?_
        refine r_istore (pc := 35) hX (L' := [_, _, _, _, _, _, _]) dX11_machine_35 rfl rfl (Nat.le_of_ble_eq_true rfl) ?_
        refine r_aload_n (pc := 37) hX dX11_machine_37 rfl ?_
        refine r_getr (pc := 38) hX dX11_machine_38 fl_X11_28 rfl (o_X11_k h) (o_X11_r2 h) ?_
        refine r_iload_n (pc := 41) hX dX11_machine_41 rfl ?_
        refine r_puti (pc := 42) hX dX11_machine_42 fl_X11_68 rfl rfl (o_X5_k (o_X11_o2 h)) ?_
        refine r_aload_n (pc := 45) hX dX11_machine_45 rfl ?_
        refine r_getr (pc := 46) hX dX11_machine_46 fl_X11_28 rfl (o_X11_k h) (o_X11_r2 h) ?_
        refine r_iload_n (pc := 49) hX dX11_machine_49 rfl ?_
        refine r_puti (pc := 50) hX dX11_machine_50 fl_X11_72 rfl rfl (o_X5_k (o_X11_o2 h)) ?_
        refine r_aload_n (pc := 53) hX dX11_machine_53 rfl ?_
        refine r_getr (pc := 54) hX dX11_machine_54 fl_X11_28 rfl (o_X11_k h) (o_X11_r2 h) ?_
        refine r_iload_n (pc := 57) hX dX11_machine_57 rfl ?_
        refine r_puti (pc := 58) hX dX11_machine_58 fl_X11_75 rfl rfl (o_X5_k (o_X11_o2 h)) ?_
        refine r_aload_n (pc := 61) hX dX11_machine_61 rfl ?_
        refine r_getr (pc := 62) hX dX11_machine_62 fl_X11_28 rfl (o_X11_k h) (o_X11_r2 h) ?_
        refine r_iload (pc := 65) hX dX11_machine_65 rfl ?_
        refine r_puti (pc := 67) hX dX11_machine_67 fl_X11_78 rfl (im_fitZ (t := 5) (j := 3) rfl hb3) (o_X5_k (o_X11_o2 h)) ?_
        refine r_aload_n (pc := 70) hX dX11_machine_70 rfl ?_
        refine r_getr (pc := 71) hX dX11_machine_71 fl_X11_28 rfl (o_X11_k h) (o_X11_r2 h) ?_
        refine r_iload (pc := 74) hX dX11_machine_74 rfl ?_
        refine r_puti (pc := 76) hX dX11_machine_76 fl_X11_82 rfl (im_fitZ (t := 5) (j := 4) rfl hb4) (o_X5_k (o_X11_o2 h)) ?_
        refine r_aload_n (pc := 79) hX dX11_machine_79 rfl ?_
        refine r_callV (Z := mX11_forget) (t := 11) (pc := 80) hX dX11_machine_80 ml_X11_85 mX11_forget_w ⟨by decide, rfl⟩ (o_X11_k h) (sp_X11_forget h) rfl rfl (Nat.le_of_ble_eq_true rfl) (by decide) rfl (Or.inl rfl) ?_
        refine r_iload (pc := 83) hX dX11_machine_83 rfl ?_
        exact r_ireturn (pc := 85) hX dX11_machine_85 rfl rfl (by first | with_reducible rfl | (simp only [forget_, c5, eq_false c9, eq_true c9d, eq_true c15, eq_false c15d, ↓reduceIte, if_true, if_false, decide_true, decide_false, eq_self, b2i_t, b2i_f, Bool.false_eq_true, and_true, true_and, and_false, false_and, or_true, true_or, or_false, false_or, not_true_eq_false, not_false_eq_true] <;> rfl) | simp [forget_, c5, eq_false c9, eq_true c9d, eq_true c15, eq_false c15d]) (by first | with_reducible rfl | (simp only [forget_, c5, eq_false c9, eq_true c9d, eq_true c15, eq_false c15d, ↓reduceIte, if_true, if_false, decide_true, decide_false, eq_self, b2i_t, b2i_f, Bool.false_eq_true, and_true, true_and, and_false, false_and, or_true, true_or, or_false, false_or, not_true_eq_false, not_false_eq_true] <;> rfl) | simp [forget_, c5, eq_false c9, eq_true c9d, eq_true c15, eq_false c15d])
      · have c15d := Int32.not_le.mp c15
        exact absurd h1 c15
set_option maxRecDepth 100000 in
set_option maxHeartbeats 1000000 in
theorem sp_X11_latency {l : Launch} {k : im_K} {S : im_S} {I : im_I} {a : Nat} {p0 : Int32} {p1 : Int32} (h : o_X11 S a) (hw : isBelow_ p0 8 = true) (h0 : ¬ p1 < 1) (h1 : p1 ≤ 9) : im_Runs l k 1 mX11_latency [.ref a, .int p0, .int p1] (S, I) (some (.int (at_ (I 16) 8 p0))) (S, forget_ (put_ I 16 8 p0 p1) a) := by
  refine im_run (by decide +kernel) ⟨Nat.le_refl _, Nat.le_refl _⟩ (Nat.le_of_ble_eq_true rfl) ?_
  intro X hl hX hxn hxz hxc hxs
  subst hl
  change im_E X k _ 0 [some (.ref a), some (.int p0), some (.int p1), none] [] S I
  refine r_iload_n (pc := 0) hX dX11_latency_0 rfl ?_
  refine r_bipush (pc := 1) hX 8 dX11_latency_1 (by decide) ?_
  refine r_callS (Z := mX11_isBelow) (pc := 3) hX dX11_latency_3 ml_X11_88 mX11_isBelow_w (sp_X11_isBelow) rfl rfl (Nat.le_of_ble_eq_true rfl) (by decide) rfl (Or.inl rfl) ?_
  refine r_if_ne (pc := 6) hX 19 dX11_latency_6 (by decide) (fun c6 => ?_) (fun c6 => ?_)
  · replace c6 := b2i_1 c6
    refine r_iload_n (pc := 19) hX dX11_latency_19 rfl ?_
    refine r_iconst (pc := 20) hX 1 dX11_latency_20 (by decide) ?_
    refine r_icmp_lt (pc := 21) hX 30 dX11_latency_21 (by decide) (fun c21 => ?_) (fun c21 => ?_)
    · have c21d := Int32.not_le.mpr c21
      exact absurd c21 h0
    · have c21d := Int32.not_lt.mp c21
      refine r_iload_n (pc := 24) hX dX11_latency_24 rfl ?_
      refine r_bipush (pc := 25) hX 9 dX11_latency_25 (by decide) ?_
      refine r_icmp_le (pc := 27) hX 40 dX11_latency_27 (by decide) (fun c27 => ?_) (fun c27 => ?_)
      · have c27d := Int32.not_lt.mpr c27
        refine r_aload_n (pc := 40) hX dX11_latency_40 rfl ?_
        refine r_getr (pc := 41) hX dX11_latency_41 fl_X11_28 rfl (o_X11_k h) (o_X11_r2 h) ?_
        refine r_getr (pc := 44) hX dX11_latency_44 fl_X11_98 rfl (o_X5_k (o_X11_o2 h)) (o_X5_r5 (o_X11_o2 h)) ?_
        refine r_iload_n (pc := 47) hX dX11_latency_47 rfl ?_
        refine r_callS (Z := mX11_at) (pc := 48) hX dX11_latency_48 ml_X11_102 mX11_at_w (sp_X11_at (o_X5_a5 (o_X11_o2 h))) rfl rfl (Nat.le_of_ble_eq_true rfl) (by decide) rfl (Or.inl rfl) ?_
        refine r_istore_n (pc := 51) hX (L' := [_, _, _, _]) dX11_latency_51 rfl rfl (Nat.le_of_ble_eq_true rfl) ?_
        refine r_aload_n (pc := 52) hX dX11_latency_52 rfl ?_
        refine r_getr (pc := 53) hX dX11_latency_53 fl_X11_28 rfl (o_X11_k h) (o_X11_r2 h) ?_
        refine r_getr (pc := 56) hX dX11_latency_56 fl_X11_98 rfl (o_X5_k (o_X11_o2 h)) (o_X5_r5 (o_X11_o2 h)) ?_
        refine r_iload_n (pc := 59) hX dX11_latency_59 rfl ?_
        refine r_iload_n (pc := 60) hX dX11_latency_60 rfl ?_
        refine r_callS (Z := mX11_put) (pc := 61) hX dX11_latency_61 ml_X11_106 mX11_put_w (sp_X11_put (o_X5_a5 (o_X11_o2 h))) rfl rfl (Nat.le_of_ble_eq_true rfl) (by decide) rfl (Or.inl rfl) ?_
        refine r_aload_n (pc := 64) hX dX11_latency_64 rfl ?_
        refine r_callV (Z := mX11_forget) (t := 11) (pc := 65) hX dX11_latency_65 ml_X11_85 mX11_forget_w ⟨by decide, rfl⟩ (o_X11_k h) (sp_X11_forget h) rfl rfl (Nat.le_of_ble_eq_true rfl) (by decide) rfl (Or.inl rfl) ?_
        refine r_iload_n (pc := 68) hX dX11_latency_68 rfl ?_
        exact r_ireturn (pc := 69) hX dX11_latency_69 rfl rfl (by first | with_reducible rfl | (simp only [forget_, c6, eq_false c21, eq_true c21d, eq_true c27, eq_false c27d, ↓reduceIte, if_true, if_false, decide_true, decide_false, eq_self, b2i_t, b2i_f, Bool.false_eq_true, and_true, true_and, and_false, false_and, or_true, true_or, or_false, false_or, not_true_eq_false, not_false_eq_true] <;> rfl) | simp [forget_, c6, eq_false c21, eq_true c21d, eq_true c27, eq_false c27d]) (by first | with_reducible rfl | (simp only [forget_, c6, eq_false c21, eq_true c21d, eq_true c27, eq_false c27d, ↓reduceIte, if_true, if_false, decide_true, decide_false, eq_self, b2i_t, b2i_f, Bool.false_eq_true, and_true, true_and, and_false, false_and, or_true, true_or, or_false, false_or, not_true_eq_false, not_false_eq_true] <;> rfl) | simp [forget_, c6, eq_false c21, eq_true c21d, eq_true c27, eq_false c27d])
      · have c27d := Int32.not_le.mp c27
        exact absurd h1 c27
  · replace c6 := b2i_0 c6
    exact absurd (hw.symm.trans c6) (by decide)
set_option maxRecDepth 100000 in
set_option maxHeartbeats 1000000 in
theorem sp_X11_node {l : Launch} {k : im_K} {S : im_S} {I : im_I} {a : Nat} {p0 : Int32} {p1 : Int32} {p2 : Int32} (h : o_X11 S a) (ha : a < 3) (hw : canBeNode_ I 3 p0 p1 p2 = true) (h0 : I 3 0 < 80) : im_Runs l k 3 mX11_node [.ref a, .int p0, .int p1, .int p2] (S, I) (some (.int (I 3 0))) (S, addNode_ (forget_ I a) 3 p0 p1 p2) := by
  refine im_run (by decide +kernel) ⟨Nat.le_refl _, Nat.le_refl _⟩ (Nat.le_of_ble_eq_true rfl) ?_
  intro X hl hX hxn hxz hxc hxs
  subst hl
  change im_E X k _ 0 [some (.ref a), some (.int p0), some (.int p1), some (.int p2)] [] S I
  refine r_aload_n (pc := 0) hX dX11_node_0 rfl ?_
  refine r_getr (pc := 1) hX dX11_node_1 fl_X11_12 rfl (o_X11_k h) (o_X11_r0 h) ?_
  refine r_iload_n (pc := 4) hX dX11_node_4 rfl ?_
  refine r_iload_n (pc := 5) hX dX11_node_5 rfl ?_
  refine r_iload_n (pc := 6) hX dX11_node_6 rfl ?_
  refine r_callV (Z := mX8_canBeNode) (t := 8) (pc := 7) hX dX11_node_7 ml_X11_110 mX8_canBeNode_w ⟨by decide, rfl⟩ (o_X8_k (o_X11_o0 h)) (sp_X8_canBeNode (o_X11_o0 h)) rfl rfl (Nat.le_of_ble_eq_true rfl) (by decide) rfl (Or.inl rfl) ?_
  refine r_if_ne (pc := 10) hX 23 dX11_node_10 (by decide) (fun c10 => ?_) (fun c10 => ?_)
  · replace c10 := b2i_1 c10
    refine r_aload_n (pc := 23) hX dX11_node_23 rfl ?_
    refine r_getr (pc := 24) hX dX11_node_24 fl_X11_12 rfl (o_X11_k h) (o_X11_r0 h) ?_
    refine r_geti (pc := 27) hX dX11_node_27 fl_X11_116 rfl (o_X8_k (o_X11_o0 h)) ?_
    refine r_bipush (pc := 30) hX 80 dX11_node_30 (by decide) ?_
    refine r_icmp_lt (pc := 32) hX 45 dX11_node_32 (by decide) (fun c32 => ?_) (fun c32 => ?_)
    · have c32d := Int32.not_le.mpr c32
      refine r_aload_n (pc := 45) hX dX11_node_45 rfl ?_
      refine r_callV (Z := mX11_forget) (t := 11) (pc := 46) hX dX11_node_46 ml_X11_85 mX11_forget_w ⟨by decide, rfl⟩ (o_X11_k h) (sp_X11_forget h) rfl rfl (Nat.le_of_ble_eq_true rfl) (by decide) rfl (Or.inl rfl) ?_
      refine r_aload_n (pc := 49) hX dX11_node_49 rfl ?_
      refine r_getr (pc := 50) hX dX11_node_50 fl_X11_12 rfl (o_X11_k h) (o_X11_r0 h) ?_
      refine r_iload_n (pc := 53) hX dX11_node_53 rfl ?_
      refine r_iload_n (pc := 54) hX dX11_node_54 rfl ?_
      refine r_iload_n (pc := 55) hX dX11_node_55 rfl ?_
      refine r_callV (Z := mX8_addNode) (t := 8) (pc := 56) hX dX11_node_56 ml_X11_124 mX8_addNode_w ⟨by decide, rfl⟩ (o_X8_k (o_X11_o0 h)) (sp_X8_addNode (o_X11_o0 h)) rfl rfl (Nat.le_of_ble_eq_true rfl) (by decide) rfl (Or.inl rfl) ?_
      exact r_ireturn (pc := 59) hX dX11_node_59 rfl rfl (congrArg (fun r => some (Value.int (r 0))) ((up_fr (by omega)).trans (up_fr (by omega)))) (by first | with_reducible rfl | (simp only [forget_, c10, eq_true c32, eq_false c32d, ↓reduceIte, if_true, if_false, decide_true, decide_false, eq_self, b2i_t, b2i_f, Bool.false_eq_true, and_true, true_and, and_false, false_and, or_true, true_or, or_false, false_or, not_true_eq_false, not_false_eq_true] <;> rfl) | simp [forget_, c10, eq_true c32, eq_false c32d])
    · have c32d := Int32.not_lt.mp c32
      exact absurd h0 c32
  · replace c10 := b2i_0 c10
    exact absurd (hw.symm.trans c10) (by decide)
set_option maxRecDepth 100000 in
set_option maxHeartbeats 1000000 in
theorem sp_X11_statement {l : Launch} {k : im_K} {S : im_S} {I : im_I} {a : Nat} {p0 : Int32} {p1 : Int32} {p2 : Int32} (h : o_X11 S a) (hw : isBelow_ p0 4 = true) (hv : isBelow_ p1 8 = true) (hn : isBelow_ p2 (I 3 0) = true) (hl : isLoose_ I 3 p2 = true) (h0 : I 3 1 < 24) : im_Runs l k 3 mX11_statement [.ref a, .int p0, .int p1, .int p2] (S, I) (some (.int (statementsIn_ (forget_ I a) 3 p0 + 1))) (S, addStatement_ (forget_ I a) 3 p0 p1 p2) := by
  refine im_run (by decide +kernel) ⟨Nat.le_refl _, Nat.le_refl _⟩ (Nat.le_of_ble_eq_true rfl) ?_
  intro X hl hX hxn hxz hxc hxs
  subst hl
  change im_E X k _ 0 [some (.ref a), some (.int p0), some (.int p1), some (.int p2)] [] S I
  refine r_iload_n (pc := 0) hX dX11_statement_0 rfl ?_
  refine r_iconst (pc := 1) hX 4 dX11_statement_1 (by decide) ?_
  refine r_callS (Z := mX11_isBelow) (pc := 2) hX dX11_statement_2 ml_X11_88 mX11_isBelow_w (sp_X11_isBelow) rfl rfl (Nat.le_of_ble_eq_true rfl) (by decide) rfl (Or.inl rfl) ?_
  refine r_if_eq (pc := 5) hX 31 dX11_statement_5 (by decide) (fun c5 => ?_) (fun c5 => ?_)
  · replace c5 := b2i_0 c5
    exact absurd (hw.symm.trans c5) (by decide)
  · replace c5 := b2i_1 c5
    refine r_iload_n (pc := 8) hX dX11_statement_8 rfl ?_
    refine r_bipush (pc := 9) hX 8 dX11_statement_9 (by decide) ?_
    refine r_callS (Z := mX11_isBelow) (pc := 11) hX dX11_statement_11 ml_X11_88 mX11_isBelow_w (sp_X11_isBelow) rfl rfl (Nat.le_of_ble_eq_true rfl) (by decide) rfl (Or.inl rfl) ?_
    refine r_if_eq (pc := 14) hX 31 dX11_statement_14 (by decide) (fun c14 => ?_) (fun c14 => ?_)
    · replace c14 := b2i_0 c14
      exact absurd (hv.symm.trans c14) (by decide)
    · replace c14 := b2i_1 c14
      refine r_iload_n (pc := 17) hX dX11_statement_17 rfl ?_
      refine r_aload_n (pc := 18) hX dX11_statement_18 rfl ?_
      refine r_getr (pc := 19) hX dX11_statement_19 fl_X11_12 rfl (o_X11_k h) (o_X11_r0 h) ?_
      refine r_geti (pc := 22) hX dX11_statement_22 fl_X11_116 rfl (o_X8_k (o_X11_o0 h)) ?_
      refine r_callS (Z := mX11_isBelow) (pc := 25) hX dX11_statement_25 ml_X11_88 mX11_isBelow_w (sp_X11_isBelow) rfl rfl (Nat.le_of_ble_eq_true rfl) (by decide) rfl (Or.inl rfl) ?_
      refine r_if_ne (pc := 28) hX 41 dX11_statement_28 (by decide) (fun c28 => ?_) (fun c28 => ?_)
      · replace c28 := b2i_1 c28
        refine r_aload_n (pc := 41) hX dX11_statement_41 rfl ?_
        refine r_getr (pc := 42) hX dX11_statement_42 fl_X11_12 rfl (o_X11_k h) (o_X11_r0 h) ?_
        refine r_iload_n (pc := 45) hX dX11_statement_45 rfl ?_
        refine r_callV (Z := mX8_isLoose) (t := 8) (pc := 46) hX dX11_statement_46 ml_X11_130 mX8_isLoose_w ⟨by decide, rfl⟩ (o_X8_k (o_X11_o0 h)) (sp_X8_isLoose (o_X11_o0 h)) rfl rfl (Nat.le_of_ble_eq_true rfl) (by decide) rfl (Or.inl rfl) ?_
        refine r_if_ne (pc := 49) hX 62 dX11_statement_49 (by decide) (fun c49 => ?_) (fun c49 => ?_)
        · replace c49 := b2i_1 c49
          refine r_aload_n (pc := 62) hX dX11_statement_62 rfl ?_
          refine r_getr (pc := 63) hX dX11_statement_63 fl_X11_12 rfl (o_X11_k h) (o_X11_r0 h) ?_
          refine r_geti (pc := 66) hX dX11_statement_66 fl_X11_136 rfl (o_X8_k (o_X11_o0 h)) ?_
          refine r_bipush (pc := 69) hX 24 dX11_statement_69 (by decide) ?_
          refine r_icmp_lt (pc := 71) hX 84 dX11_statement_71 (by decide) (fun c71 => ?_) (fun c71 => ?_)
          · have c71d := Int32.not_le.mpr c71
            refine r_aload_n (pc := 84) hX dX11_statement_84 rfl ?_
            refine r_callV (Z := mX11_forget) (t := 11) (pc := 85) hX dX11_statement_85 ml_X11_85 mX11_forget_w ⟨by decide, rfl⟩ (o_X11_k h) (sp_X11_forget h) rfl rfl (Nat.le_of_ble_eq_true rfl) (by decide) rfl (Or.inl rfl) ?_
            refine r_aload_n (pc := 88) hX dX11_statement_88 rfl ?_
            refine r_getr (pc := 89) hX dX11_statement_89 fl_X11_12 rfl (o_X11_k h) (o_X11_r0 h) ?_
            refine r_iload_n (pc := 92) hX dX11_statement_92 rfl ?_
            refine r_iload_n (pc := 93) hX dX11_statement_93 rfl ?_
            refine r_iload_n (pc := 94) hX dX11_statement_94 rfl ?_
            refine r_callV (Z := mX8_addStatement) (t := 8) (pc := 95) hX dX11_statement_95 ml_X11_141 mX8_addStatement_w ⟨by decide, rfl⟩ (o_X8_k (o_X11_o0 h)) (sp_X8_addStatement (o_X11_o0 h)) rfl rfl (Nat.le_of_ble_eq_true rfl) (by decide) rfl (Or.inl rfl) ?_
            exact r_ireturn (pc := 98) hX dX11_statement_98 rfl rfl (by first | with_reducible rfl | (simp only [forget_, c5, c14, c28, c49, eq_true c71, eq_false c71d, ↓reduceIte, if_true, if_false, decide_true, decide_false, eq_self, b2i_t, b2i_f, Bool.false_eq_true, and_true, true_and, and_false, false_and, or_true, true_or, or_false, false_or, not_true_eq_false, not_false_eq_true] <;> rfl) | simp [forget_, c5, c14, c28, c49, eq_true c71, eq_false c71d]) (by first | with_reducible rfl | (simp only [forget_, c5, c14, c28, c49, eq_true c71, eq_false c71d, ↓reduceIte, if_true, if_false, decide_true, decide_false, eq_self, b2i_t, b2i_f, Bool.false_eq_true, and_true, true_and, and_false, false_and, or_true, true_or, or_false, false_or, not_true_eq_false, not_false_eq_true] <;> rfl) | simp [forget_, c5, c14, c28, c49, eq_true c71, eq_false c71d])
          · have c71d := Int32.not_lt.mp c71
            exact absurd h0 c71
        · replace c49 := b2i_0 c49
          exact absurd (hl.symm.trans c49) (by decide)
      · replace c28 := b2i_0 c28
        exact absurd (hn.symm.trans c28) (by decide)
set_option maxRecDepth 100000 in
set_option maxHeartbeats 1000000 in
theorem sp_X11_times {l : Launch} {k : im_K} {S : im_S} {I : im_I} {a : Nat} {p0 : Int32} {p1 : Int32} (h : o_X11 S a) (hw : isBelow_ p0 4 = true) (h0 : ¬ p1 < 1) (h1 : p1 ≤ 9) : im_Runs l k 2 mX11_times [.ref a, .int p0, .int p1] (S, I) (some (.int (roundsOf_ I 3 p0))) (S, forget_ (put_ I 4 4 p0 p1) a) := by
  refine im_run (by decide +kernel) ⟨Nat.le_refl _, Nat.le_refl _⟩ (Nat.le_of_ble_eq_true rfl) ?_
  intro X hl hX hxn hxz hxc hxs
  subst hl
  change im_E X k _ 0 [some (.ref a), some (.int p0), some (.int p1), none] [] S I
  refine r_iload_n (pc := 0) hX dX11_times_0 rfl ?_
  refine r_iconst (pc := 1) hX 4 dX11_times_1 (by decide) ?_
  refine r_callS (Z := mX11_isBelow) (pc := 2) hX dX11_times_2 ml_X11_88 mX11_isBelow_w (sp_X11_isBelow) rfl rfl (Nat.le_of_ble_eq_true rfl) (by decide) rfl (Or.inl rfl) ?_
  refine r_if_ne (pc := 5) hX 18 dX11_times_5 (by decide) (fun c5 => ?_) (fun c5 => ?_)
  · replace c5 := b2i_1 c5
    refine r_iload_n (pc := 18) hX dX11_times_18 rfl ?_
    refine r_iconst (pc := 19) hX 1 dX11_times_19 (by decide) ?_
    refine r_icmp_lt (pc := 20) hX 29 dX11_times_20 (by decide) (fun c20 => ?_) (fun c20 => ?_)
    · have c20d := Int32.not_le.mpr c20
      exact absurd c20 h0
    · have c20d := Int32.not_lt.mp c20
      refine r_iload_n (pc := 23) hX dX11_times_23 rfl ?_
      refine r_bipush (pc := 24) hX 9 dX11_times_24 (by decide) ?_
      refine r_icmp_le (pc := 26) hX 39 dX11_times_26 (by decide) (fun c26 => ?_) (fun c26 => ?_)
      · have c26d := Int32.not_lt.mpr c26
        refine r_aload_n (pc := 39) hX dX11_times_39 rfl ?_
        refine r_getr (pc := 40) hX dX11_times_40 fl_X11_12 rfl (o_X11_k h) (o_X11_r0 h) ?_
        refine r_iload_n (pc := 43) hX dX11_times_43 rfl ?_
        refine r_callV (Z := mX8_roundsOf) (t := 8) (pc := 44) hX dX11_times_44 ml_X11_157 mX8_roundsOf_w ⟨by decide, rfl⟩ (o_X8_k (o_X11_o0 h)) (sp_X8_roundsOf (o_X11_o0 h)) rfl rfl (Nat.le_of_ble_eq_true rfl) (by decide) rfl (Or.inl rfl) ?_
        refine r_istore_n (pc := 47) hX (L' := [_, _, _, _]) dX11_times_47 rfl rfl (Nat.le_of_ble_eq_true rfl) ?_
        refine r_aload_n (pc := 48) hX dX11_times_48 rfl ?_
        refine r_getr (pc := 49) hX dX11_times_49 fl_X11_12 rfl (o_X11_k h) (o_X11_r0 h) ?_
        refine r_getr (pc := 52) hX dX11_times_52 fl_X11_160 rfl (o_X8_k (o_X11_o0 h)) (o_X8_r3 (o_X11_o0 h)) ?_
        refine r_iload_n (pc := 55) hX dX11_times_55 rfl ?_
        refine r_iload_n (pc := 56) hX dX11_times_56 rfl ?_
        refine r_callS (Z := mX11_put) (pc := 57) hX dX11_times_57 ml_X11_106 mX11_put_w (sp_X11_put (o_X8_a3 (o_X11_o0 h))) rfl rfl (Nat.le_of_ble_eq_true rfl) (by decide) rfl (Or.inl rfl) ?_
        refine r_aload_n (pc := 60) hX dX11_times_60 rfl ?_
        refine r_callV (Z := mX11_forget) (t := 11) (pc := 61) hX dX11_times_61 ml_X11_85 mX11_forget_w ⟨by decide, rfl⟩ (o_X11_k h) (sp_X11_forget h) rfl rfl (Nat.le_of_ble_eq_true rfl) (by decide) rfl (Or.inl rfl) ?_
        refine r_iload_n (pc := 64) hX dX11_times_64 rfl ?_
        exact r_ireturn (pc := 65) hX dX11_times_65 rfl rfl (by first | with_reducible rfl | (simp only [forget_, c5, eq_false c20, eq_true c20d, eq_true c26, eq_false c26d, ↓reduceIte, if_true, if_false, decide_true, decide_false, eq_self, b2i_t, b2i_f, Bool.false_eq_true, and_true, true_and, and_false, false_and, or_true, true_or, or_false, false_or, not_true_eq_false, not_false_eq_true] <;> rfl) | simp [forget_, c5, eq_false c20, eq_true c20d, eq_true c26, eq_false c26d]) (by first | with_reducible rfl | (simp only [forget_, c5, eq_false c20, eq_true c20d, eq_true c26, eq_false c26d, ↓reduceIte, if_true, if_false, decide_true, decide_false, eq_self, b2i_t, b2i_f, Bool.false_eq_true, and_true, true_and, and_false, false_and, or_true, true_or, or_false, false_or, not_true_eq_false, not_false_eq_true] <;> rfl) | simp [forget_, c5, eq_false c20, eq_true c20d, eq_true c26, eq_false c26d])
      · have c26d := Int32.not_le.mp c26
        exact absurd h1 c26
  · replace c5 := b2i_0 c5
    exact absurd (hw.symm.trans c5) (by decide)
set_option maxRecDepth 100000 in
set_option maxHeartbeats 1000000 in
theorem sp_X11_out {l : Launch} {k : im_K} {S : im_S} {I : im_I} {a : Nat} {p0 : Int32} (h : o_X11 S a) (h0 : ¬ p0 < 0) (h1 : p0 ≤ 255) : im_Runs l k 1 mX11_out [.ref a, .int p0] (S, I) (some (.int (I 3 2))) (S, forget_ (im_up I 3 2 p0) a) := by
  refine im_run (by decide +kernel) ⟨Nat.le_refl _, Nat.le_refl _⟩ (Nat.le_of_ble_eq_true rfl) ?_
  intro X hl hX hxn hxz hxc hxs
  subst hl
  change im_E X k _ 0 [some (.ref a), some (.int p0), none] [] S I
  refine r_iload_n (pc := 0) hX dX11_out_0 rfl ?_
  refine r_if_lt (pc := 1) hX 11 dX11_out_1 (by decide) (fun c1 => ?_) (fun c1 => ?_)
  · have c1d := Int32.not_le.mpr c1
    exact absurd c1 h0
  · have c1d := Int32.not_lt.mp c1
    refine r_iload_n (pc := 4) hX dX11_out_4 rfl ?_
    refine r_sipush (pc := 5) hX 255 dX11_out_5 (by decide) ?_
    refine r_icmp_le (pc := 8) hX 21 dX11_out_8 (by decide) (fun c8 => ?_) (fun c8 => ?_)
    · have c8d := Int32.not_lt.mpr c8
      refine r_aload_n (pc := 21) hX dX11_out_21 rfl ?_
      refine r_getr (pc := 22) hX dX11_out_22 fl_X11_12 rfl (o_X11_k h) (o_X11_r0 h) ?_
      refine r_geti (pc := 25) hX dX11_out_25 fl_X11_165 rfl (o_X8_k (o_X11_o0 h)) ?_
      refine r_istore_n (pc := 28) hX (L' := [_, _, _]) dX11_out_28 rfl rfl (Nat.le_of_ble_eq_true rfl) ?_
      refine r_aload_n (pc := 29) hX dX11_out_29 rfl ?_
      refine r_getr (pc := 30) hX dX11_out_30 fl_X11_12 rfl (o_X11_k h) (o_X11_r0 h) ?_
      refine r_iload_n (pc := 33) hX dX11_out_33 rfl ?_
      refine r_puti (pc := 34) hX dX11_out_34 fl_X11_165 rfl rfl (o_X8_k (o_X11_o0 h)) ?_
      refine r_aload_n (pc := 37) hX dX11_out_37 rfl ?_
      refine r_callV (Z := mX11_forget) (t := 11) (pc := 38) hX dX11_out_38 ml_X11_85 mX11_forget_w ⟨by decide, rfl⟩ (o_X11_k h) (sp_X11_forget h) rfl rfl (Nat.le_of_ble_eq_true rfl) (by decide) rfl (Or.inl rfl) ?_
      refine r_iload_n (pc := 41) hX dX11_out_41 rfl ?_
      exact r_ireturn (pc := 42) hX dX11_out_42 rfl rfl (by first | with_reducible rfl | (simp only [forget_, eq_false c1, eq_true c1d, eq_true c8, eq_false c8d, ↓reduceIte, if_true, if_false, decide_true, decide_false, eq_self, b2i_t, b2i_f, Bool.false_eq_true, and_true, true_and, and_false, false_and, or_true, true_or, or_false, false_or, not_true_eq_false, not_false_eq_true] <;> rfl) | simp [forget_, eq_false c1, eq_true c1d, eq_true c8, eq_false c8d]) (by first | with_reducible rfl | (simp only [forget_, eq_false c1, eq_true c1d, eq_true c8, eq_false c8d, ↓reduceIte, if_true, if_false, decide_true, decide_false, eq_self, b2i_t, b2i_f, Bool.false_eq_true, and_true, true_and, and_false, false_and, or_true, true_or, or_false, false_or, not_true_eq_false, not_false_eq_true] <;> rfl) | simp [forget_, eq_false c1, eq_true c1d, eq_true c8, eq_false c8d])
    · have c8d := Int32.not_le.mp c8
      exact absurd h1 c8
set_option maxRecDepth 100000 in
set_option maxHeartbeats 1000000 in
theorem sp_X11_meant {l : Launch} {k : im_K} {S : im_S} {I : im_I} {a : Nat} {p0 : Int32} (h : o_X11 S a) (hrt : ∀ b j : Int32, rootOf_ I 3 b j < 2147483647) (hw : isBelow_ p0 8 = true) : im_Runs l k 5 mX11_meant [.ref a, .int p0] (S, I) (some (.int (at_ (meantNow_ I a 13) 8 p0))) (S, meantNow_ I a) := by
  refine im_run (by decide +kernel) ⟨Nat.le_refl _, Nat.le_refl _⟩ (Nat.le_of_ble_eq_true rfl) ?_
  intro X hl hX hxn hxz hxc hxs
  subst hl
  change im_E X k _ 0 [some (.ref a), some (.int p0)] [] S I
  refine r_iload_n (pc := 0) hX dX11_meant_0 rfl ?_
  refine r_bipush (pc := 1) hX 8 dX11_meant_1 (by decide) ?_
  refine r_callS (Z := mX11_isBelow) (pc := 3) hX dX11_meant_3 ml_X11_88 mX11_isBelow_w (sp_X11_isBelow) rfl rfl (Nat.le_of_ble_eq_true rfl) (by decide) rfl (Or.inl rfl) ?_
  refine r_if_ne (pc := 6) hX 19 dX11_meant_6 (by decide) (fun c6 => ?_) (fun c6 => ?_)
  · replace c6 := b2i_1 c6
    refine r_aload_n (pc := 19) hX dX11_meant_19 rfl ?_
    refine r_callV (Z := mX11_meantNow) (t := 11) (pc := 20) hX dX11_meant_20 ml_X11_170 mX11_meantNow_w ⟨by decide, rfl⟩ (o_X11_k h) (sp_X11_meantNow h hrt) rfl rfl (Nat.le_of_ble_eq_true rfl) (by decide) rfl (Or.inl rfl) ?_
    refine r_getr (pc := 23) hX dX11_meant_23 fl_X11_174 rfl (o_X6_k (o_X11_o1 h)) (o_X6_r0 (o_X11_o1 h)) ?_
    refine r_iload_n (pc := 26) hX dX11_meant_26 rfl ?_
    refine r_callS (Z := mX11_at) (pc := 27) hX dX11_meant_27 ml_X11_102 mX11_at_w (sp_X11_at (o_X6_a0 (o_X11_o1 h))) rfl rfl (Nat.le_of_ble_eq_true rfl) (by decide) rfl (Or.inl rfl) ?_
    exact r_ireturn (pc := 30) hX dX11_meant_30 rfl rfl (by first | with_reducible rfl | (simp only [c6, ↓reduceIte, if_true, if_false, decide_true, decide_false, eq_self, b2i_t, b2i_f, Bool.false_eq_true, and_true, true_and, and_false, false_and, or_true, true_or, or_false, false_or, not_true_eq_false, not_false_eq_true] <;> rfl) | simp [c6]) (by first | with_reducible rfl | (simp only [c6, ↓reduceIte, if_true, if_false, decide_true, decide_false, eq_self, b2i_t, b2i_f, Bool.false_eq_true, and_true, true_and, and_false, false_and, or_true, true_or, or_false, false_or, not_true_eq_false, not_false_eq_true] <;> rfl) | simp [c6])
  · replace c6 := b2i_0 c6
    exact absurd (hw.symm.trans c6) (by decide)
set_option maxRecDepth 100000 in
set_option maxHeartbeats 1000000 in
theorem sp_X11_chosen {l : Launch} {k : im_K} {S : im_S} {I : im_I} {a : Nat} {p0 : Int32} {p1 : Int32} (h : o_X11 S a) (hw : isBelow_ p0 ((builtNow_ I a) 29 0) = true) (hv : isBelow_ p1 8 = true) : im_Runs l k 7 mX11_chosen [.ref a, .int p0, .int p1] (S, I) (some (.int (tellLine_ (builtNow_ I a) 19 p0 p1))) (S, builtNow_ I a) := by
  refine im_run (by decide +kernel) ⟨Nat.le_refl _, Nat.le_refl _⟩ (Nat.le_of_ble_eq_true rfl) ?_
  intro X hl hX hxn hxz hxc hxs
  subst hl
  change im_E X k _ 0 [some (.ref a), some (.int p0), some (.int p1), none] [] S I
  refine r_aload_n (pc := 0) hX dX11_chosen_0 rfl ?_
  refine r_callV (Z := mX11_builtNow) (t := 11) (pc := 1) hX dX11_chosen_1 ml_X11_177 mX11_builtNow_w ⟨by decide, rfl⟩ (o_X11_k h) (sp_X11_builtNow h) rfl rfl (Nat.le_of_ble_eq_true rfl) (by decide) rfl (Or.inl rfl) ?_
  refine r_astore_n (pc := 4) hX (L' := [_, _, _, _]) dX11_chosen_4 rfl rfl (Nat.le_of_ble_eq_true rfl) ?_
  refine r_iload_n (pc := 5) hX dX11_chosen_5 rfl ?_
  refine r_aload_n (pc := 6) hX dX11_chosen_6 rfl ?_
  refine r_getr (pc := 7) hX dX11_chosen_7 fl_X11_40 rfl (o_X11_k h) (o_X11_r4 h) ?_
  refine r_getr (pc := 10) hX dX11_chosen_10 fl_X11_181 rfl (o_X7_k (o_X11_o4 h)) (o_X7_r1 (o_X11_o4 h)) ?_
  refine r_geti (pc := 13) hX dX11_chosen_13 fl_X11_185 rfl (o_X3_k (o_X7_o1 (o_X11_o4 h))) ?_
  refine r_callS (Z := mX11_isBelow) (pc := 16) hX dX11_chosen_16 ml_X11_88 mX11_isBelow_w (sp_X11_isBelow) rfl rfl (Nat.le_of_ble_eq_true rfl) (by decide) rfl (Or.inl rfl) ?_
  refine r_if_ne (pc := 19) hX 32 dX11_chosen_19 (by decide) (fun c19 => ?_) (fun c19 => ?_)
  · replace c19 := b2i_1 c19
    refine r_iload_n (pc := 32) hX dX11_chosen_32 rfl ?_
    refine r_bipush (pc := 33) hX 8 dX11_chosen_33 (by decide) ?_
    refine r_callS (Z := mX11_isBelow) (pc := 35) hX dX11_chosen_35 ml_X11_88 mX11_isBelow_w (sp_X11_isBelow) rfl rfl (Nat.le_of_ble_eq_true rfl) (by decide) rfl (Or.inl rfl) ?_
    refine r_if_ne (pc := 38) hX 51 dX11_chosen_38 (by decide) (fun c38 => ?_) (fun c38 => ?_)
    · replace c38 := b2i_1 c38
      refine r_aload_n (pc := 51) hX dX11_chosen_51 rfl ?_
      refine r_aload_n (pc := 52) hX dX11_chosen_52 rfl ?_
      refine r_getr (pc := 53) hX dX11_chosen_53 fl_X11_40 rfl (o_X11_k h) (o_X11_r4 h) ?_
      refine r_iload_n (pc := 56) hX dX11_chosen_56 rfl ?_
      refine r_iload_n (pc := 57) hX dX11_chosen_57 rfl ?_
      refine r_callV (Z := mX10_tellLine) (t := 10) (pc := 58) hX dX11_chosen_58 ml_X11_194 mX10_tellLine_w ⟨by decide, rfl⟩ (o_X10_k (o_X11_o6 h)) (sp_X10_tellLine (o_X11_o6 h) (o_X11_o4 h)) rfl rfl (Nat.le_of_ble_eq_true rfl) (by decide) rfl (Or.inl rfl) ?_
      exact r_ireturn (pc := 61) hX dX11_chosen_61 rfl rfl (by first | with_reducible rfl | (simp only [c19, c38, ↓reduceIte, if_true, if_false, decide_true, decide_false, eq_self, b2i_t, b2i_f, Bool.false_eq_true, and_true, true_and, and_false, false_and, or_true, true_or, or_false, false_or, not_true_eq_false, not_false_eq_true] <;> rfl) | simp [c19, c38]) (by first | with_reducible rfl | (simp only [c19, c38, ↓reduceIte, if_true, if_false, decide_true, decide_false, eq_self, b2i_t, b2i_f, Bool.false_eq_true, and_true, true_and, and_false, false_and, or_true, true_or, or_false, false_or, not_true_eq_false, not_false_eq_true] <;> rfl) | simp [c19, c38])
    · replace c38 := b2i_0 c38
      exact absurd (hv.symm.trans c38) (by decide)
  · replace c19 := b2i_0 c19
    exact absurd (hw.symm.trans c19) (by decide)
set_option maxRecDepth 100000 in
set_option maxHeartbeats 1000000 in
theorem sp_X11_ofValue {l : Launch} {k : im_K} {S : im_S} {I : im_I} {a : Nat} {p0 : Int32} {p1 : Int32} (h : o_X11 S a) (hw : isLiving_ (builtNow_ I a) 36 p0 = true) (hv : isBelow_ p1 8 = true) : im_Runs l k 7 mX11_ofValue [.ref a, .int p0, .int p1] (S, I) (some (.int (tellValue_ (builtNow_ I a) 91 19 p0 p1))) (S, builtNow_ I a) := by
  refine im_run (by decide +kernel) ⟨Nat.le_refl _, Nat.le_refl _⟩ (Nat.le_of_ble_eq_true rfl) ?_
  intro X hl hX hxn hxz hxc hxs
  subst hl
  change im_E X k _ 0 [some (.ref a), some (.int p0), some (.int p1), none] [] S I
  refine r_aload_n (pc := 0) hX dX11_ofValue_0 rfl ?_
  refine r_callV (Z := mX11_builtNow) (t := 11) (pc := 1) hX dX11_ofValue_1 ml_X11_177 mX11_builtNow_w ⟨by decide, rfl⟩ (o_X11_k h) (sp_X11_builtNow h) rfl rfl (Nat.le_of_ble_eq_true rfl) (by decide) rfl (Or.inl rfl) ?_
  refine r_astore_n (pc := 4) hX (L' := [_, _, _, _]) dX11_ofValue_4 rfl rfl (Nat.le_of_ble_eq_true rfl) ?_
  refine r_aload_n (pc := 5) hX dX11_ofValue_5 rfl ?_
  refine r_getr (pc := 6) hX dX11_ofValue_6 fl_X11_40 rfl (o_X11_k h) (o_X11_r4 h) ?_
  refine r_getr (pc := 9) hX dX11_ofValue_9 fl_X11_198 rfl (o_X7_k (o_X11_o4 h)) (o_X7_r2 (o_X11_o4 h)) ?_
  refine r_iload_n (pc := 12) hX dX11_ofValue_12 rfl ?_
  refine r_callV (Z := mX4_isLiving) (t := 4) (pc := 13) hX dX11_ofValue_13 ml_X11_202 mX4_isLiving_w ⟨by decide, rfl⟩ (o_X4_k (o_X7_o2 (o_X11_o4 h))) (sp_X4_isLiving (o_X7_o2 (o_X11_o4 h))) rfl rfl (Nat.le_of_ble_eq_true rfl) (by decide) rfl (Or.inl rfl) ?_
  refine r_if_ne (pc := 16) hX 29 dX11_ofValue_16 (by decide) (fun c16 => ?_) (fun c16 => ?_)
  · replace c16 := b2i_1 c16
    refine r_iload_n (pc := 29) hX dX11_ofValue_29 rfl ?_
    refine r_bipush (pc := 30) hX 8 dX11_ofValue_30 (by decide) ?_
    refine r_callS (Z := mX11_isBelow) (pc := 32) hX dX11_ofValue_32 ml_X11_88 mX11_isBelow_w (sp_X11_isBelow) rfl rfl (Nat.le_of_ble_eq_true rfl) (by decide) rfl (Or.inl rfl) ?_
    refine r_if_ne (pc := 35) hX 48 dX11_ofValue_35 (by decide) (fun c35 => ?_) (fun c35 => ?_)
    · replace c35 := b2i_1 c35
      refine r_aload_n (pc := 48) hX dX11_ofValue_48 rfl ?_
      refine r_aload_n (pc := 49) hX dX11_ofValue_49 rfl ?_
      refine r_getr (pc := 50) hX dX11_ofValue_50 fl_X11_40 rfl (o_X11_k h) (o_X11_r4 h) ?_
      refine r_iload_n (pc := 53) hX dX11_ofValue_53 rfl ?_
      refine r_iload_n (pc := 54) hX dX11_ofValue_54 rfl ?_
      refine r_callV (Z := mX10_tellValue) (t := 10) (pc := 55) hX dX11_ofValue_55 ml_X11_209 mX10_tellValue_w ⟨by decide, rfl⟩ (o_X10_k (o_X11_o6 h)) (sp_X10_tellValue (o_X11_o6 h) (o_X11_o4 h)) rfl rfl (Nat.le_of_ble_eq_true rfl) (by decide) rfl (Or.inl rfl) ?_
      exact r_ireturn (pc := 58) hX dX11_ofValue_58 rfl rfl (by first | with_reducible rfl | (simp only [c16, c35, ↓reduceIte, if_true, if_false, decide_true, decide_false, eq_self, b2i_t, b2i_f, Bool.false_eq_true, and_true, true_and, and_false, false_and, or_true, true_or, or_false, false_or, not_true_eq_false, not_false_eq_true] <;> rfl) | simp [c16, c35]) (by first | with_reducible rfl | (simp only [c16, c35, ↓reduceIte, if_true, if_false, decide_true, decide_false, eq_self, b2i_t, b2i_f, Bool.false_eq_true, and_true, true_and, and_false, false_and, or_true, true_or, or_false, false_or, not_true_eq_false, not_false_eq_true] <;> rfl) | simp [c16, c35])
    · replace c35 := b2i_0 c35
      exact absurd (hv.symm.trans c35) (by decide)
  · replace c16 := b2i_0 c16
    exact absurd (hw.symm.trans c16) (by decide)
set_option maxRecDepth 100000 in
set_option maxHeartbeats 1000000 in
theorem sp_X11_answer {l : Launch} {k : im_K} {S : im_S} {I : im_I} {a : Nat} {p0 : Int32} (h : o_X11 S a) (hw : isBelow_ p0 8 = true) (hv : hasBit_ (I 3 2) p0 = true) : im_Runs l k 7 mX11_answer [.ref a, .int p0] (S, I) (some (.int (tellAnswer_ (builtNow_ I a) 91 19 p0))) (S, builtNow_ I a) := by
  refine im_run (by decide +kernel) ⟨Nat.le_refl _, Nat.le_refl _⟩ (Nat.le_of_ble_eq_true rfl) ?_
  intro X hl hX hxn hxz hxc hxs
  subst hl
  change im_E X k _ 0 [some (.ref a), some (.int p0)] [] S I
  refine r_iload_n (pc := 0) hX dX11_answer_0 rfl ?_
  refine r_bipush (pc := 1) hX 8 dX11_answer_1 (by decide) ?_
  refine r_callS (Z := mX11_isBelow) (pc := 3) hX dX11_answer_3 ml_X11_88 mX11_isBelow_w (sp_X11_isBelow) rfl rfl (Nat.le_of_ble_eq_true rfl) (by decide) rfl (Or.inl rfl) ?_
  refine r_if_eq (pc := 6) hX 23 dX11_answer_6 (by decide) (fun c6 => ?_) (fun c6 => ?_)
  · replace c6 := b2i_0 c6
    exact absurd (hw.symm.trans c6) (by decide)
  · replace c6 := b2i_1 c6
    refine r_aload_n (pc := 9) hX dX11_answer_9 rfl ?_
    refine r_getr (pc := 10) hX dX11_answer_10 fl_X11_12 rfl (o_X11_k h) (o_X11_r0 h) ?_
    refine r_geti (pc := 13) hX dX11_answer_13 fl_X11_165 rfl (o_X8_k (o_X11_o0 h)) ?_
    refine r_iload_n (pc := 16) hX dX11_answer_16 rfl ?_
    refine r_callS (Z := mX11_hasBit) (pc := 17) hX dX11_answer_17 ml_X11_253 mX11_hasBit_w (sp_X11_hasBit) rfl rfl (Nat.le_of_ble_eq_true rfl) (by decide) rfl (Or.inl rfl) ?_
    refine r_if_ne (pc := 20) hX 34 dX11_answer_20 (by decide) (fun c20 => ?_) (fun c20 => ?_)
    · replace c20 := b2i_1 c20
      refine r_aload_n (pc := 34) hX dX11_answer_34 rfl ?_
      refine r_callV (Z := mX11_builtNow) (t := 11) (pc := 35) hX dX11_answer_35 ml_X11_177 mX11_builtNow_w ⟨by decide, rfl⟩ (o_X11_k h) (sp_X11_builtNow h) rfl rfl (Nat.le_of_ble_eq_true rfl) (by decide) rfl (Or.inl rfl) ?_
      refine r_aload_n (pc := 38) hX dX11_answer_38 rfl ?_
      refine r_getr (pc := 39) hX dX11_answer_39 fl_X11_40 rfl (o_X11_k h) (o_X11_r4 h) ?_
      refine r_iload_n (pc := 42) hX dX11_answer_42 rfl ?_
      refine r_callV (Z := mX10_tellAnswer) (t := 10) (pc := 43) hX dX11_answer_43 ml_X11_258 mX10_tellAnswer_w ⟨by decide, rfl⟩ (o_X10_k (o_X11_o6 h)) (sp_X10_tellAnswer (o_X11_o6 h) (o_X11_o4 h)) rfl rfl (Nat.le_of_ble_eq_true rfl) (by decide) rfl (Or.inl rfl) ?_
      exact r_ireturn (pc := 46) hX dX11_answer_46 rfl rfl (by first | with_reducible rfl | (simp only [c6, c20, ↓reduceIte, if_true, if_false, decide_true, decide_false, eq_self, b2i_t, b2i_f, Bool.false_eq_true, and_true, true_and, and_false, false_and, or_true, true_or, or_false, false_or, not_true_eq_false, not_false_eq_true] <;> rfl) | simp [c6, c20]) (by first | with_reducible rfl | (simp only [c6, c20, ↓reduceIte, if_true, if_false, decide_true, decide_false, eq_self, b2i_t, b2i_f, Bool.false_eq_true, and_true, true_and, and_false, false_and, or_true, true_or, or_false, false_or, not_true_eq_false, not_false_eq_true] <;> rfl) | simp [c6, c20])
    · replace c20 := b2i_0 c20
      exact absurd (hv.symm.trans c20) (by decide)
set_option maxRecDepth 100000 in
set_option maxHeartbeats 1000000 in
theorem sp_X11_many {l : Launch} {k : im_K} {S : im_S} {I : im_I} {a : Nat} {p0 : Int32} (h : o_X11 S a) (hw : isBelow_ p0 16 = true) (he : (builtNow_ I a) 29 0 < 2147483647) : im_Runs l k 7 mX11_many [.ref a, .int p0] (S, I) (some (.int (tellMany_ (builtNow_ I a) 91 19 p0))) (S, builtNow_ I a) := by
  refine im_run (by decide +kernel) ⟨Nat.le_refl _, Nat.le_refl _⟩ (Nat.le_of_ble_eq_true rfl) ?_
  intro X hl hX hxn hxz hxc hxs
  subst hl
  change im_E X k _ 0 [some (.ref a), some (.int p0)] [] S I
  refine r_iload_n (pc := 0) hX dX11_many_0 rfl ?_
  refine r_bipush (pc := 1) hX 16 dX11_many_1 (by decide) ?_
  refine r_callS (Z := mX11_isBelow) (pc := 3) hX dX11_many_3 ml_X11_88 mX11_isBelow_w (sp_X11_isBelow) rfl rfl (Nat.le_of_ble_eq_true rfl) (by decide) rfl (Or.inl rfl) ?_
  refine r_if_ne (pc := 6) hX 19 dX11_many_6 (by decide) (fun c6 => ?_) (fun c6 => ?_)
  · replace c6 := b2i_1 c6
    refine r_aload_n (pc := 19) hX dX11_many_19 rfl ?_
    refine r_callV (Z := mX11_builtNow) (t := 11) (pc := 20) hX dX11_many_20 ml_X11_177 mX11_builtNow_w ⟨by decide, rfl⟩ (o_X11_k h) (sp_X11_builtNow h) rfl rfl (Nat.le_of_ble_eq_true rfl) (by decide) rfl (Or.inl rfl) ?_
    refine r_aload_n (pc := 23) hX dX11_many_23 rfl ?_
    refine r_getr (pc := 24) hX dX11_many_24 fl_X11_40 rfl (o_X11_k h) (o_X11_r4 h) ?_
    refine r_iload_n (pc := 27) hX dX11_many_27 rfl ?_
    refine r_callV (Z := mX10_tellMany) (t := 10) (pc := 28) hX dX11_many_28 ml_X11_262 mX10_tellMany_w ⟨by decide, rfl⟩ (o_X10_k (o_X11_o6 h)) (sp_X10_tellMany (o_X11_o6 h) (o_X11_o4 h) he) rfl rfl (Nat.le_of_ble_eq_true rfl) (by decide) rfl (Or.inl rfl) ?_
    exact r_ireturn (pc := 31) hX dX11_many_31 rfl rfl (by first | with_reducible rfl | (simp only [c6, ↓reduceIte, if_true, if_false, decide_true, decide_false, eq_self, b2i_t, b2i_f, Bool.false_eq_true, and_true, true_and, and_false, false_and, or_true, true_or, or_false, false_or, not_true_eq_false, not_false_eq_true] <;> rfl) | simp [c6]) (by first | with_reducible rfl | (simp only [c6, ↓reduceIte, if_true, if_false, decide_true, decide_false, eq_self, b2i_t, b2i_f, Bool.false_eq_true, and_true, true_and, and_false, false_and, or_true, true_or, or_false, false_or, not_true_eq_false, not_false_eq_true] <;> rfl) | simp [c6])
  · replace c6 := b2i_0 c6
    exact absurd (hw.symm.trans c6) (by decide)
set_option maxRecDepth 100000 in
set_option maxHeartbeats 1000000 in
theorem sp_X11_with {l : Launch} {k : im_K} {S : im_S} {I : im_I} {a : Nat} {p0 : Int32} {p1 : Int32} {p2 : Int32} {p3 : Int32} (h : o_X11 S a) (ha : a < 3) (hw : isMachine_ p0 p1 = true) (h0 : ¬ p3 < 3) (h1 : p3 ≤ 15) (hz : (I 15 3 = 0 ∨ I 15 3 = 1) ∧ (I 15 4 = 0 ∨ I 15 4 = 1)) (hb2 : p2 = 0 ∨ p2 = 1) (he : (builtNow_ I a) 29 0 < 2147483647) : im_Runs l k 7 mX11_with [.ref a, .int p0, .int p1, .int p2, .int p3] (S, I) (some (.int (tellMany_ (builtWith_ (builtNow_ I a) p0 p1 p2) 108 19 p3))) (S, builtWith_ (builtNow_ I a) p0 p1 p2) := by
  refine im_run (by decide +kernel) ⟨Nat.le_refl _, Nat.le_refl _⟩ (Nat.le_of_ble_eq_true rfl) ?_
  intro X hl hX hxn hxz hxc hxs
  subst hl
  change im_E X k _ 0 [some (.ref a), some (.int p0), some (.int p1), some (.int p2), some (.int p3)] [] S I
  refine r_iload_n (pc := 0) hX dX11_with_0 rfl ?_
  refine r_iload_n (pc := 1) hX dX11_with_1 rfl ?_
  refine r_callS (Z := mX11_isMachine) (pc := 2) hX dX11_with_2 ml_X11_57 mX11_isMachine_w (sp_X11_isMachine) rfl rfl (Nat.le_of_ble_eq_true rfl) (by decide) rfl (Or.inl rfl) ?_
  refine r_if_eq (pc := 5) hX 21 dX11_with_5 (by decide) (fun c5 => ?_) (fun c5 => ?_)
  · replace c5 := b2i_0 c5
    exact absurd (hw.symm.trans c5) (by decide)
  · replace c5 := b2i_1 c5
    refine r_iload (pc := 8) hX dX11_with_8 rfl ?_
    refine r_iconst (pc := 10) hX 3 dX11_with_10 (by decide) ?_
    refine r_icmp_lt (pc := 11) hX 21 dX11_with_11 (by decide) (fun c11 => ?_) (fun c11 => ?_)
    · have c11d := Int32.not_le.mpr c11
      exact absurd c11 h0
    · have c11d := Int32.not_lt.mp c11
      refine r_iload (pc := 14) hX dX11_with_14 rfl ?_
      refine r_bipush (pc := 16) hX 15 dX11_with_16 (by decide) ?_
      refine r_icmp_le (pc := 18) hX 32 dX11_with_18 (by decide) (fun c18 => ?_) (fun c18 => ?_)
      · have c18d := Int32.not_lt.mpr c18
        refine r_aload_n (pc := 32) hX dX11_with_32 rfl ?_
        refine r_callV (Z := mX11_builtNow) (t := 11) (pc := 33) hX dX11_with_33 ml_X11_177 mX11_builtNow_w ⟨by decide, rfl⟩ (o_X11_k h) (sp_X11_builtNow h) rfl rfl (Nat.le_of_ble_eq_true rfl) (by decide) rfl (Or.inl rfl) ?_
        refine r_pop (pc := 36) hX dX11_with_36 rfl ?_
        refine r_aload_n (pc := 37) hX dX11_with_37 rfl ?_
        refine r_iload_n (pc := 38) hX dX11_with_38 rfl ?_
        refine r_iload_n (pc := 39) hX dX11_with_39 rfl ?_
        refine r_iload_n (pc := 40) hX dX11_with_40 rfl ?_
        refine r_callV (Z := mX11_builtWith) (t := 11) (pc := 41) hX dX11_with_41 ml_X11_273 mX11_builtWith_w ⟨by decide, rfl⟩ (o_X11_k h) (sp_X11_builtWith h (by rw [builtNow_fr ha (by omega) (by omega)]; exact hz) hb2) rfl rfl (Nat.le_of_ble_eq_true rfl) (by decide) rfl (Or.inl rfl) ?_
        refine r_aload_n (pc := 44) hX dX11_with_44 rfl ?_
        refine r_getr (pc := 45) hX dX11_with_45 fl_X11_40 rfl (o_X11_k h) (o_X11_r4 h) ?_
        refine r_iload (pc := 48) hX dX11_with_48 rfl ?_
        refine r_callV (Z := mX10_tellMany) (t := 10) (pc := 50) hX dX11_with_50 ml_X11_262 mX10_tellMany_w ⟨by decide, rfl⟩ (o_X10_k (o_X11_o7 h)) (sp_X10_tellMany (o_X11_o7 h) (o_X11_o4 h) (by rw [builtWith_fr (by omega)]; exact he)) rfl rfl (Nat.le_of_ble_eq_true rfl) (by decide) rfl (Or.inl rfl) ?_
        exact r_ireturn (pc := 53) hX dX11_with_53 rfl rfl (by first | with_reducible rfl | (simp only [c5, eq_false c11, eq_true c11d, eq_true c18, eq_false c18d, ↓reduceIte, if_true, if_false, decide_true, decide_false, eq_self, b2i_t, b2i_f, Bool.false_eq_true, and_true, true_and, and_false, false_and, or_true, true_or, or_false, false_or, not_true_eq_false, not_false_eq_true] <;> rfl) | simp [c5, eq_false c11, eq_true c11d, eq_true c18, eq_false c18d]) (by first | with_reducible rfl | (simp only [c5, eq_false c11, eq_true c11d, eq_true c18, eq_false c18d, ↓reduceIte, if_true, if_false, decide_true, decide_false, eq_self, b2i_t, b2i_f, Bool.false_eq_true, and_true, true_and, and_false, false_and, or_true, true_or, or_false, false_or, not_true_eq_false, not_false_eq_true] <;> rfl) | simp [c5, eq_false c11, eq_true c11d, eq_true c18, eq_false c18d])
      · have c18d := Int32.not_le.mp c18
        exact absurd h1 c18
set_option maxRecDepth 100000 in
set_option maxHeartbeats 1000000 in
theorem sp_X11_cyclesWith {l : Launch} {k : im_K} {S : im_S} {I : im_I} {a : Nat} {p0 : Int32} {p1 : Int32} (h : o_X11 S a) (hz : (I 15 3 = 0 ∨ I 15 3 = 1) ∧ (I 15 4 = 0 ∨ I 15 4 = 1)) (hw : isBelow_ p0 8 = true) (h0 : ¬ p1 < 1) (h1 : p1 ≤ 9) : im_Runs l k 6 mX11_cyclesWith [.ref a, .int p0, .int p1] (S, I) (some (.int (wouldM_ I p0 p1 120 1))) (S, wouldM_ I p0 p1) := by
  refine im_run (by decide +kernel) ⟨Nat.le_refl _, Nat.le_refl _⟩ (Nat.le_of_ble_eq_true rfl) ?_
  intro X hl hX hxn hxz hxc hxs
  subst hl
  change im_E X k _ 0 [some (.ref a), some (.int p0), some (.int p1)] [] S I
  refine r_iload_n (pc := 0) hX dX11_cyclesWith_0 rfl ?_
  refine r_bipush (pc := 1) hX 8 dX11_cyclesWith_1 (by decide) ?_
  refine r_callS (Z := mX11_isBelow) (pc := 3) hX dX11_cyclesWith_3 ml_X11_88 mX11_isBelow_w (sp_X11_isBelow) rfl rfl (Nat.le_of_ble_eq_true rfl) (by decide) rfl (Or.inl rfl) ?_
  refine r_if_ne (pc := 6) hX 19 dX11_cyclesWith_6 (by decide) (fun c6 => ?_) (fun c6 => ?_)
  · replace c6 := b2i_1 c6
    refine r_iload_n (pc := 19) hX dX11_cyclesWith_19 rfl ?_
    refine r_iconst (pc := 20) hX 1 dX11_cyclesWith_20 (by decide) ?_
    refine r_icmp_lt (pc := 21) hX 30 dX11_cyclesWith_21 (by decide) (fun c21 => ?_) (fun c21 => ?_)
    · have c21d := Int32.not_le.mpr c21
      exact absurd c21 h0
    · have c21d := Int32.not_lt.mp c21
      refine r_iload_n (pc := 24) hX dX11_cyclesWith_24 rfl ?_
      refine r_bipush (pc := 25) hX 9 dX11_cyclesWith_25 (by decide) ?_
      refine r_icmp_le (pc := 27) hX 40 dX11_cyclesWith_27 (by decide) (fun c27 => ?_) (fun c27 => ?_)
      · have c27d := Int32.not_lt.mpr c27
        refine r_aload_n (pc := 40) hX dX11_cyclesWith_40 rfl ?_
        refine r_getr (pc := 41) hX dX11_cyclesWith_41 fl_X11_32 rfl (o_X11_k h) (o_X11_r3 h) ?_
        refine r_aload_n (pc := 44) hX dX11_cyclesWith_44 rfl ?_
        refine r_getr (pc := 45) hX dX11_cyclesWith_45 fl_X11_28 rfl (o_X11_k h) (o_X11_r2 h) ?_
        refine r_callV (Z := mX5_beLike) (t := 5) (pc := 48) hX dX11_cyclesWith_48 ml_X11_277 mX5_beLike_w ⟨by decide, rfl⟩ (o_X5_k (o_X11_o3 h)) (sp_X5_beLike (o_X11_o3 h) (o_X11_o2 h) hz (by decide)) rfl rfl (Nat.le_of_ble_eq_true rfl) (by decide) rfl (Or.inl rfl) ?_
        refine r_aload_n (pc := 51) hX dX11_cyclesWith_51 rfl ?_
        refine r_getr (pc := 52) hX dX11_cyclesWith_52 fl_X11_32 rfl (o_X11_k h) (o_X11_r3 h) ?_
        refine r_getr (pc := 55) hX dX11_cyclesWith_55 fl_X11_98 rfl (o_X5_k (o_X11_o3 h)) (o_X5_r5 (o_X11_o3 h)) ?_
        refine r_iload_n (pc := 58) hX dX11_cyclesWith_58 rfl ?_
        refine r_iload_n (pc := 59) hX dX11_cyclesWith_59 rfl ?_
        refine r_callS (Z := mX11_put) (pc := 60) hX dX11_cyclesWith_60 ml_X11_106 mX11_put_w (sp_X11_put (o_X5_a5 (o_X11_o3 h))) rfl rfl (Nat.le_of_ble_eq_true rfl) (by decide) rfl (Or.inl rfl) ?_
        refine r_aload_n (pc := 63) hX dX11_cyclesWith_63 rfl ?_
        refine r_getr (pc := 64) hX dX11_cyclesWith_64 fl_X11_44 rfl (o_X11_k h) (o_X11_r5 h) ?_
        refine r_iconst (pc := 67) hX 1 dX11_cyclesWith_67 (by decide) ?_
        refine r_callV (Z := mX7_build) (t := 7) (pc := 68) hX dX11_cyclesWith_68 ml_X11_281 mX7_build_w ⟨by decide, rfl⟩ (o_X7_k (o_X11_o5 h)) (sp_X7_build (o_X11_o5 h) (by decide) hs_all) rfl rfl (Nat.le_of_ble_eq_true rfl) (by decide) rfl (Or.inl rfl) ?_
        refine r_aload_n (pc := 71) hX dX11_cyclesWith_71 rfl ?_
        refine r_getr (pc := 72) hX dX11_cyclesWith_72 fl_X11_54 rfl (o_X11_k h) (o_X11_r7 h) ?_
        refine r_aload_n (pc := 75) hX dX11_cyclesWith_75 rfl ?_
        refine r_getr (pc := 76) hX dX11_cyclesWith_76 fl_X11_44 rfl (o_X11_k h) (o_X11_r5 h) ?_
        refine r_callV (Z := mX10_build) (t := 10) (pc := 79) hX dX11_cyclesWith_79 ml_X11_285 mX10_build_w ⟨by decide, rfl⟩ (o_X10_k (o_X11_o7 h)) (sp_X10_build (o_X11_o7 h) (o_X11_o5 h) (by decide) (by decide)) rfl rfl (Nat.le_of_ble_eq_true rfl) (by decide) rfl (Or.inl rfl) ?_
        refine r_aload_n (pc := 82) hX dX11_cyclesWith_82 rfl ?_
        refine r_getr (pc := 83) hX dX11_cyclesWith_83 fl_X11_54 rfl (o_X11_k h) (o_X11_r7 h) ?_
        refine r_getr (pc := 86) hX dX11_cyclesWith_86 fl_X11_244 rfl (o_X10_k (o_X11_o7 h)) (o_X10_r2 (o_X11_o7 h)) ?_
        refine r_geti (pc := 89) hX dX11_cyclesWith_89 fl_X11_288 rfl (o_X9_k (o_X10_o2 (o_X11_o7 h))) ?_
        exact r_ireturn (pc := 92) hX dX11_cyclesWith_92 rfl rfl (by first | with_reducible rfl | (simp only [wouldM_, c6, eq_false c21, eq_true c21d, eq_true c27, eq_false c27d, ↓reduceIte, if_true, if_false, decide_true, decide_false, eq_self, b2i_t, b2i_f, Bool.false_eq_true, and_true, true_and, and_false, false_and, or_true, true_or, or_false, false_or, not_true_eq_false, not_false_eq_true] <;> rfl) | simp [wouldM_, c6, eq_false c21, eq_true c21d, eq_true c27, eq_false c27d]) (by first | with_reducible rfl | (simp only [wouldM_, c6, eq_false c21, eq_true c21d, eq_true c27, eq_false c27d, ↓reduceIte, if_true, if_false, decide_true, decide_false, eq_self, b2i_t, b2i_f, Bool.false_eq_true, and_true, true_and, and_false, false_and, or_true, true_or, or_false, false_or, not_true_eq_false, not_false_eq_true] <;> rfl) | simp [wouldM_, c6, eq_false c21, eq_true c21d, eq_true c27, eq_false c27d])
      · have c27d := Int32.not_le.mp c27
        exact absurd h1 c27
  · replace c6 := b2i_0 c6
    exact absurd (hw.symm.trans c6) (by decide)
set_option maxRecDepth 100000 in
set_option maxHeartbeats 1000000 in
theorem sp_X11_enough {l : Launch} {k : im_K} {S : im_S} {I : im_I} {a : Nat} (h : o_X11 S a) (ha : a < 3) (hz : (I 15 3 = 0 ∨ I 15 3 = 1) ∧ (I 15 4 = 0 ∨ I 15 4 = 1)) : im_Runs l k 7 mX11_enough [.ref a] (S, I) (some (.int ((few_ (builtNow_ I a)).1))) (S, (few_ (builtNow_ I a)).2) := by
  refine im_run (by decide +kernel) ⟨Nat.le_refl _, Nat.le_refl _⟩ (Nat.le_of_ble_eq_true rfl) ?_
  intro X hl hX hxn hxz hxc hxs
  subst hl
  change im_E X k _ 0 [some (.ref a)] [] S I
  refine r_aload_n (pc := 0) hX dX11_enough_0 rfl ?_
  refine r_callV (Z := mX11_builtNow) (t := 11) (pc := 1) hX dX11_enough_1 ml_X11_177 mX11_builtNow_w ⟨by decide, rfl⟩ (o_X11_k h) (sp_X11_builtNow h) rfl rfl (Nat.le_of_ble_eq_true rfl) (by decide) rfl (Or.inl rfl) ?_
  refine r_pop (pc := 4) hX dX11_enough_4 rfl ?_
  refine r_aload_n (pc := 5) hX dX11_enough_5 rfl ?_
  refine r_callV (Z := mX11_fewestRegisters) (t := 11) (pc := 6) hX dX11_enough_6 ml_X11_291 mX11_fewestRegisters_w ⟨by decide, rfl⟩ (o_X11_k h) (sp_X11_fewestRegisters h (by rw [builtNow_fr ha (by omega) (by omega)]; exact hz)) rfl rfl (Nat.le_of_ble_eq_true rfl) (by decide) rfl (Or.inl rfl) ?_
  exact r_ireturn (pc := 9) hX dX11_enough_9 rfl rfl rfl rfl
set_option maxRecDepth 100000 in
set_option maxHeartbeats 1000000 in
theorem sp_X11_unordered {l : Launch} {k : im_K} {S : im_S} {I : im_I} {a : Nat} (h : o_X11 S a) (ha : a < 3) (hz : (I 15 3 = 0 ∨ I 15 3 = 1) ∧ (I 15 4 = 0 ∨ I 15 4 = 1)) : im_Runs l k 7 mX11_unordered [.ref a] (S, I) (some (.int (unordM_ (builtNow_ I a) 120 1 - unordM_ (builtNow_ I a) 103 1))) (S, unordM_ (builtNow_ I a)) := by
  refine im_run (by decide +kernel) ⟨Nat.le_refl _, Nat.le_refl _⟩ (Nat.le_of_ble_eq_true rfl) ?_
  intro X hl hX hxn hxz hxc hxs
  subst hl
  change im_E X k _ 0 [some (.ref a)] [] S I
  refine r_aload_n (pc := 0) hX dX11_unordered_0 rfl ?_
  refine r_callV (Z := mX11_builtNow) (t := 11) (pc := 1) hX dX11_unordered_1 ml_X11_177 mX11_builtNow_w ⟨by decide, rfl⟩ (o_X11_k h) (sp_X11_builtNow h) rfl rfl (Nat.le_of_ble_eq_true rfl) (by decide) rfl (Or.inl rfl) ?_
  refine r_pop (pc := 4) hX dX11_unordered_4 rfl ?_
  refine r_aload_n (pc := 5) hX dX11_unordered_5 rfl ?_
  refine r_callV (Z := mX11_cyclesUnordered) (t := 11) (pc := 6) hX dX11_unordered_6 ml_X11_295 mX11_cyclesUnordered_w ⟨by decide, rfl⟩ (o_X11_k h) (sp_X11_cyclesUnordered h (by rw [builtNow_fr ha (by omega) (by omega)]; exact hz)) rfl rfl (Nat.le_of_ble_eq_true rfl) (by decide) rfl (Or.inl rfl) ?_
  refine r_aload_n (pc := 9) hX dX11_unordered_9 rfl ?_
  refine r_getr (pc := 10) hX dX11_unordered_10 fl_X11_50 rfl (o_X11_k h) (o_X11_r6 h) ?_
  refine r_getr (pc := 13) hX dX11_unordered_13 fl_X11_244 rfl (o_X10_k (o_X11_o6 h)) (o_X10_r2 (o_X11_o6 h)) ?_
  refine r_geti (pc := 16) hX dX11_unordered_16 fl_X11_288 rfl (o_X9_k (o_X10_o2 (o_X11_o6 h))) ?_
  refine r_isub (pc := 19) hX dX11_unordered_19 ?_
  exact r_ireturn (pc := 20) hX dX11_unordered_20 rfl rfl rfl rfl
