/-! walks, by program out of spec1.py -/
set_option maxRecDepth 100000 in
set_option maxHeartbeats 1000000 in
theorem sp_X11_isBelow {l : Launch} {k : im_K} {S : im_S} {I : im_I} {p0 : Int32} {p1 : Int32}  : im_Runs l k 0 mX11_isBelow [.int p0, .int p1] (S, I) (some (.int (b2i (isBelow_ p0 p1)))) (S, I) := by
  refine im_run (by decide +kernel) ⟨Nat.le_refl _, Nat.le_refl _⟩ (Nat.le_of_ble_eq_true rfl) ?_
  intro X hl hX hxn hxz hxc hxs
  subst hl
  change im_E X k _ 0 [some (.int p0), some (.int p1)] [] S I
  refine r_iload_n (pc := 0) hX dX11_isBelow_0 rfl ?_
  refine r_if_lt (pc := 1) hX 13 dX11_isBelow_1 (by decide) (fun c1 => ?_) (fun c1 => ?_)
  · have c1d := Int32.not_le.mpr c1
    refine r_iconst (pc := 13) hX 0 dX11_isBelow_13 (by decide) ?_
    exact r_ireturn (pc := 14) hX dX11_isBelow_14 rfl rfl (by first | with_reducible rfl | (simp only [isBelow_, b2i, eq_true c1, eq_false c1d, ↓reduceIte, if_true, if_false, decide_true, decide_false, eq_self, b2i_t, b2i_f, Bool.false_eq_true, and_true, true_and, and_false, false_and, or_true, true_or, or_false, false_or, not_true_eq_false, not_false_eq_true] <;> rfl) | simp [isBelow_, b2i, eq_true c1, eq_false c1d]) rfl
  · have c1d := Int32.not_lt.mp c1
    refine r_iload_n (pc := 4) hX dX11_isBelow_4 rfl ?_
    refine r_iload_n (pc := 5) hX dX11_isBelow_5 rfl ?_
    refine r_icmp_ge (pc := 6) hX 13 dX11_isBelow_6 (by decide) (fun c6 => ?_) (fun c6 => ?_)
    · have c6d := Int32.not_lt.mpr c6
      refine r_iconst (pc := 13) hX 0 dX11_isBelow_13 (by decide) ?_
      exact r_ireturn (pc := 14) hX dX11_isBelow_14 rfl rfl (by first | with_reducible rfl | (simp only [isBelow_, b2i, eq_false c1, eq_true c1d, eq_true c6, eq_false c6d, ↓reduceIte, if_true, if_false, decide_true, decide_false, eq_self, b2i_t, b2i_f, Bool.false_eq_true, and_true, true_and, and_false, false_and, or_true, true_or, or_false, false_or, not_true_eq_false, not_false_eq_true] <;> rfl) | simp [isBelow_, b2i, eq_false c1, eq_true c1d, eq_true c6, eq_false c6d]) rfl
    · have c6d := Int32.not_le.mp c6
      refine r_iconst (pc := 9) hX 1 dX11_isBelow_9 (by decide) ?_
      refine r_goto (pc := 10) hX (tgt := 14) dX11_isBelow_10 (by decide) ?_
      exact r_ireturn (pc := 14) hX dX11_isBelow_14 rfl rfl (by first | with_reducible rfl | (simp only [isBelow_, b2i, eq_false c1, eq_true c1d, eq_false c6, eq_true c6d, ↓reduceIte, if_true, if_false, decide_true, decide_false, eq_self, b2i_t, b2i_f, Bool.false_eq_true, and_true, true_and, and_false, false_and, or_true, true_or, or_false, false_or, not_true_eq_false, not_false_eq_true] <;> rfl) | simp [isBelow_, b2i, eq_false c1, eq_true c1d, eq_false c6, eq_true c6d]) rfl
set_option maxRecDepth 100000 in
set_option maxHeartbeats 1000000 in
theorem sp_X11_bit {l : Launch} {k : im_K} {S : im_S} {I : im_I} {p0 : Int32}  : im_Runs l k 0 mX11_bit [.int p0] (S, I) (some (.int (bit_ p0))) (S, I) := by
  refine im_run (by decide +kernel) ⟨Nat.le_refl _, Nat.le_refl _⟩ (Nat.le_of_ble_eq_true rfl) ?_
  intro X hl hX hxn hxz hxc hxs
  subst hl
  change im_E X k _ 0 [some (.int p0)] [] S I
  refine r_iload_n (pc := 0) hX dX11_bit_0 rfl ?_
  refine r_if_lt (pc := 1) hX 16 dX11_bit_1 (by decide) (fun c1 => ?_) (fun c1 => ?_)
  · have c1d := Int32.not_le.mpr c1
    refine r_iconst (pc := 16) hX 0 dX11_bit_16 (by decide) ?_
    exact r_ireturn (pc := 17) hX dX11_bit_17 rfl rfl (by first | with_reducible rfl | (simp only [bit_, eq_true c1, eq_false c1d, ↓reduceIte, if_true, if_false, decide_true, decide_false, eq_self, b2i_t, b2i_f, Bool.false_eq_true, and_true, true_and, and_false, false_and, or_true, true_or, or_false, false_or, not_true_eq_false, not_false_eq_true] <;> rfl) | simp [bit_, eq_true c1, eq_false c1d]) rfl
  · have c1d := Int32.not_lt.mp c1
    refine r_iload_n (pc := 4) hX dX11_bit_4 rfl ?_
    refine r_bipush (pc := 5) hX 32 dX11_bit_5 (by decide) ?_
    refine r_icmp_ge (pc := 7) hX 16 dX11_bit_7 (by decide) (fun c7 => ?_) (fun c7 => ?_)
    · have c7d := Int32.not_lt.mpr c7
      refine r_iconst (pc := 16) hX 0 dX11_bit_16 (by decide) ?_
      exact r_ireturn (pc := 17) hX dX11_bit_17 rfl rfl (by first | with_reducible rfl | (simp only [bit_, eq_false c1, eq_true c1d, eq_true c7, eq_false c7d, ↓reduceIte, if_true, if_false, decide_true, decide_false, eq_self, b2i_t, b2i_f, Bool.false_eq_true, and_true, true_and, and_false, false_and, or_true, true_or, or_false, false_or, not_true_eq_false, not_false_eq_true] <;> rfl) | simp [bit_, eq_false c1, eq_true c1d, eq_true c7, eq_false c7d]) rfl
    · have c7d := Int32.not_le.mp c7
      refine r_iconst (pc := 10) hX 1 dX11_bit_10 (by decide) ?_
      refine r_iload_n (pc := 11) hX dX11_bit_11 rfl ?_
      refine r_ishl (pc := 12) hX dX11_bit_12 ?_
      refine r_goto (pc := 13) hX (tgt := 17) dX11_bit_13 (by decide) ?_
      exact r_ireturn (pc := 17) hX dX11_bit_17 rfl rfl (by first | with_reducible rfl | (simp only [bit_, eq_false c1, eq_true c1d, eq_false c7, eq_true c7d, ↓reduceIte, if_true, if_false, decide_true, decide_false, eq_self, b2i_t, b2i_f, Bool.false_eq_true, and_true, true_and, and_false, false_and, or_true, true_or, or_false, false_or, not_true_eq_false, not_false_eq_true] <;> rfl) | simp [bit_, eq_false c1, eq_true c1d, eq_false c7, eq_true c7d]) rfl
set_option maxRecDepth 100000 in
set_option maxHeartbeats 1000000 in
theorem sp_X11_hasBit {l : Launch} {k : im_K} {S : im_S} {I : im_I} {p0 : Int32} {p1 : Int32}  : im_Runs l k 0 mX11_hasBit [.int p0, .int p1] (S, I) (some (.int (b2i (hasBit_ p0 p1)))) (S, I) := by
  refine im_run (by decide +kernel) ⟨Nat.le_refl _, Nat.le_refl _⟩ (Nat.le_of_ble_eq_true rfl) ?_
  intro X hl hX hxn hxz hxc hxs
  subst hl
  change im_E X k _ 0 [some (.int p0), some (.int p1)] [] S I
  refine r_iload_n (pc := 0) hX dX11_hasBit_0 rfl ?_
  refine r_if_lt (pc := 1) hX 23 dX11_hasBit_1 (by decide) (fun c1 => ?_) (fun c1 => ?_)
  · have c1d := Int32.not_le.mpr c1
    refine r_iconst (pc := 23) hX 0 dX11_hasBit_23 (by decide) ?_
    exact r_ireturn (pc := 24) hX dX11_hasBit_24 rfl rfl (by first | with_reducible rfl | (simp only [hasBit_, b2i, eq_true c1, eq_false c1d, ↓reduceIte, if_true, if_false, decide_true, decide_false, eq_self, b2i_t, b2i_f, Bool.false_eq_true, and_true, true_and, and_false, false_and, or_true, true_or, or_false, false_or, not_true_eq_false, not_false_eq_true] <;> rfl) | simp [hasBit_, b2i, eq_true c1, eq_false c1d]) rfl
  · have c1d := Int32.not_lt.mp c1
    refine r_iload_n (pc := 4) hX dX11_hasBit_4 rfl ?_
    refine r_bipush (pc := 5) hX 32 dX11_hasBit_5 (by decide) ?_
    refine r_icmp_ge (pc := 7) hX 23 dX11_hasBit_7 (by decide) (fun c7 => ?_) (fun c7 => ?_)
    · have c7d := Int32.not_lt.mpr c7
      refine r_iconst (pc := 23) hX 0 dX11_hasBit_23 (by decide) ?_
      exact r_ireturn (pc := 24) hX dX11_hasBit_24 rfl rfl (by first | with_reducible rfl | (simp only [hasBit_, b2i, eq_false c1, eq_true c1d, eq_true c7, eq_false c7d, ↓reduceIte, if_true, if_false, decide_true, decide_false, eq_self, b2i_t, b2i_f, Bool.false_eq_true, and_true, true_and, and_false, false_and, or_true, true_or, or_false, false_or, not_true_eq_false, not_false_eq_true] <;> rfl) | simp [hasBit_, b2i, eq_false c1, eq_true c1d, eq_true c7, eq_false c7d]) rfl
    · have c7d := Int32.not_le.mp c7
      refine r_iload_n (pc := 10) hX dX11_hasBit_10 rfl ?_
      refine r_iload_n (pc := 11) hX dX11_hasBit_11 rfl ?_
      refine r_ishr (pc := 12) hX dX11_hasBit_12 ?_
      refine r_iconst (pc := 13) hX 1 dX11_hasBit_13 (by decide) ?_
      refine r_iand (pc := 14) hX dX11_hasBit_14 ?_
      refine r_iconst (pc := 15) hX 1 dX11_hasBit_15 (by decide) ?_
      refine r_icmp_ne (pc := 16) hX 23 dX11_hasBit_16 (by decide) (fun c16 => ?_) (fun c16 => ?_)
      · refine r_iconst (pc := 23) hX 0 dX11_hasBit_23 (by decide) ?_
        exact r_ireturn (pc := 24) hX dX11_hasBit_24 rfl rfl (by first | with_reducible rfl | (simp only [hasBit_, b2i, eq_false c1, eq_true c1d, eq_false c7, eq_true c7d, eq_false c16, ↓reduceIte, if_true, if_false, decide_true, decide_false, eq_self, b2i_t, b2i_f, Bool.false_eq_true, and_true, true_and, and_false, false_and, or_true, true_or, or_false, false_or, not_true_eq_false, not_false_eq_true] <;> rfl) | simp [hasBit_, b2i, eq_false c1, eq_true c1d, eq_false c7, eq_true c7d, eq_false c16]) rfl
      · refine r_iconst (pc := 19) hX 1 dX11_hasBit_19 (by decide) ?_
        refine r_goto (pc := 20) hX (tgt := 24) dX11_hasBit_20 (by decide) ?_
        exact r_ireturn (pc := 24) hX dX11_hasBit_24 rfl rfl (by first | with_reducible rfl | (simp only [hasBit_, b2i, eq_false c1, eq_true c1d, eq_false c7, eq_true c7d, eq_true c16, ↓reduceIte, if_true, if_false, decide_true, decide_false, eq_self, b2i_t, b2i_f, Bool.false_eq_true, and_true, true_and, and_false, false_and, or_true, true_or, or_false, false_or, not_true_eq_false, not_false_eq_true] <;> rfl) | simp [hasBit_, b2i, eq_false c1, eq_true c1d, eq_false c7, eq_true c7d, eq_true c16]) rfl
set_option maxRecDepth 100000 in
set_option maxHeartbeats 1000000 in
theorem sp_X11_isMachine {l : Launch} {k : im_K} {S : im_S} {I : im_I} {p0 : Int32} {p1 : Int32}  : im_Runs l k 1 mX11_isMachine [.int p0, .int p1] (S, I) (some (.int (b2i (isMachine_ p0 p1)))) (S, I) := by
  refine im_run (by decide +kernel) ⟨Nat.le_refl _, Nat.le_refl _⟩ (Nat.le_of_ble_eq_true rfl) ?_
  intro X hl hX hxn hxz hxc hxs
  subst hl
  change im_E X k _ 0 [some (.int p0), some (.int p1), none] [] S I
  refine r_iload_n (pc := 0) hX dX11_isMachine_0 rfl ?_
  refine r_iconst (pc := 1) hX 5 dX11_isMachine_1 (by decide) ?_
  refine r_icmp_lt (pc := 2) hX 15 dX11_isMachine_2 (by decide) (fun c2 => ?_) (fun c2 => ?_)
  · have c2d := Int32.not_le.mpr c2
    refine r_iconst (pc := 15) hX 0 dX11_isMachine_15 (by decide) ?_
    exact r_ireturn (pc := 16) hX dX11_isMachine_16 rfl rfl (by first | with_reducible rfl | (simp only [isMachine_, b2i, eq_true c2, eq_false c2d, ↓reduceIte, if_true, if_false, decide_true, decide_false, eq_self, b2i_t, b2i_f, Bool.false_eq_true, and_true, true_and, and_false, false_and, or_true, true_or, or_false, false_or, not_true_eq_false, not_false_eq_true] <;> rfl) | simp [isMachine_, b2i, eq_true c2, eq_false c2d]) rfl
  · have c2d := Int32.not_lt.mp c2
    refine r_iload_n (pc := 5) hX dX11_isMachine_5 rfl ?_
    refine r_bipush (pc := 6) hX 11 dX11_isMachine_6 (by decide) ?_
    refine r_icmp_gt (pc := 8) hX 15 dX11_isMachine_8 (by decide) (fun c8 => ?_) (fun c8 => ?_)
    · have c8d := Int32.not_le.mpr c8
      refine r_iconst (pc := 15) hX 0 dX11_isMachine_15 (by decide) ?_
      exact r_ireturn (pc := 16) hX dX11_isMachine_16 rfl rfl (by first | with_reducible rfl | (simp only [isMachine_, b2i, eq_false c2, eq_true c2d, eq_true c8, eq_false c8d, ↓reduceIte, if_true, if_false, decide_true, decide_false, eq_self, b2i_t, b2i_f, Bool.false_eq_true, and_true, true_and, and_false, false_and, or_true, true_or, or_false, false_or, not_true_eq_false, not_false_eq_true] <;> rfl) | simp [isMachine_, b2i, eq_false c2, eq_true c2d, eq_true c8, eq_false c8d]) rfl
    · have c8d := Int32.not_lt.mp c8
      refine r_iload_n (pc := 11) hX dX11_isMachine_11 rfl ?_
      refine r_if_ge (pc := 12) hX 17 dX11_isMachine_12 (by decide) (fun c12 => ?_) (fun c12 => ?_)
      · have c12d := Int32.not_lt.mpr c12
        refine r_iload_n (pc := 17) hX dX11_isMachine_17 rfl ?_
        refine r_iconst (pc := 18) hX 3 dX11_isMachine_18 (by decide) ?_
        refine r_isub (pc := 19) hX dX11_isMachine_19 ?_
        refine r_callS (Z := mX11_bit) (pc := 20) hX dX11_isMachine_20 ml_X11_332 mX11_bit_w (sp_X11_bit) rfl rfl (Nat.le_of_ble_eq_true rfl) (by decide) rfl (Or.inl rfl) ?_
        refine r_iconst (pc := 23) hX 2 dX11_isMachine_23 (by decide) ?_
        refine r_callS (Z := mX11_bit) (pc := 24) hX dX11_isMachine_24 ml_X11_332 mX11_bit_w (sp_X11_bit) rfl rfl (Nat.le_of_ble_eq_true rfl) (by decide) rfl (Or.inl rfl) ?_
        refine r_isub (pc := 27) hX dX11_isMachine_27 ?_
        refine r_istore_n (pc := 28) hX (L' := [_, _, _]) dX11_isMachine_28 rfl rfl (Nat.le_of_ble_eq_true rfl) ?_
        refine r_iload_n (pc := 29) hX dX11_isMachine_29 rfl ?_
        refine r_iload_n (pc := 30) hX dX11_isMachine_30 rfl ?_
        refine r_iconst (pc := 31) hX (-1) dX11_isMachine_31 (by decide) ?_
        refine r_ixor (pc := 32) hX dX11_isMachine_32 ?_
        refine r_iand (pc := 33) hX dX11_isMachine_33 ?_
        refine r_if_ne (pc := 34) hX 41 dX11_isMachine_34 (by decide) (fun c34 => ?_) (fun c34 => ?_)
        · refine r_iconst (pc := 41) hX 0 dX11_isMachine_41 (by decide) ?_
          exact r_ireturn (pc := 42) hX dX11_isMachine_42 rfl rfl (by first | with_reducible rfl | (simp only [isMachine_, b2i, eq_false c2, eq_true c2d, eq_false c8, eq_true c8d, eq_true c12, eq_false c12d, eq_false c34, ↓reduceIte, if_true, if_false, decide_true, decide_false, eq_self, b2i_t, b2i_f, Bool.false_eq_true, and_true, true_and, and_false, false_and, or_true, true_or, or_false, false_or, not_true_eq_false, not_false_eq_true] <;> rfl) | simp [isMachine_, b2i, eq_false c2, eq_true c2d, eq_false c8, eq_true c8d, eq_true c12, eq_false c12d, eq_false c34]) rfl
        · refine r_iconst (pc := 37) hX 1 dX11_isMachine_37 (by decide) ?_
          refine r_goto (pc := 38) hX (tgt := 42) dX11_isMachine_38 (by decide) ?_
          exact r_ireturn (pc := 42) hX dX11_isMachine_42 rfl rfl (by first | with_reducible rfl | (simp only [isMachine_, b2i, eq_false c2, eq_true c2d, eq_false c8, eq_true c8d, eq_true c12, eq_false c12d, eq_true c34, ↓reduceIte, if_true, if_false, decide_true, decide_false, eq_self, b2i_t, b2i_f, Bool.false_eq_true, and_true, true_and, and_false, false_and, or_true, true_or, or_false, false_or, not_true_eq_false, not_false_eq_true] <;> rfl) | simp [isMachine_, b2i, eq_false c2, eq_true c2d, eq_false c8, eq_true c8d, eq_true c12, eq_false c12d, eq_true c34]) rfl
      · have c12d := Int32.not_le.mp c12
        refine r_iconst (pc := 15) hX 0 dX11_isMachine_15 (by decide) ?_
        exact r_ireturn (pc := 16) hX dX11_isMachine_16 rfl rfl (by first | with_reducible rfl | (simp only [isMachine_, b2i, eq_false c2, eq_true c2d, eq_false c8, eq_true c8d, eq_false c12, eq_true c12d, ↓reduceIte, if_true, if_false, decide_true, decide_false, eq_self, b2i_t, b2i_f, Bool.false_eq_true, and_true, true_and, and_false, false_and, or_true, true_or, or_false, false_or, not_true_eq_false, not_false_eq_true] <;> rfl) | simp [isMachine_, b2i, eq_false c2, eq_true c2d, eq_false c8, eq_true c8d, eq_false c12, eq_true c12d]) rfl
set_option maxRecDepth 100000 in
set_option maxHeartbeats 1000000 in
theorem sp_X11_mix {l : Launch} {k : im_K} {S : im_S} {I : im_I} {p0 : Int64} {p1 : Int64}  : im_Runs l k 0 mX11_mix [.long p0, .long p1] (S, I) (some (.long (mix_ p0 p1))) (S, I) := by
  refine im_run (by decide +kernel) ⟨Nat.le_refl _, Nat.le_refl _⟩ (Nat.le_of_ble_eq_true rfl) ?_
  intro X hl hX hxn hxz hxc hxs
  subst hl
  change im_E X k _ 0 [some (.long p0), none, some (.long p1), none] [] S I
  refine r_lload_n (pc := 0) hX dX11_mix_0 rfl ?_
  refine r_ldc2 (pc := 1) hX dX11_mix_1 ko_X11_351 ?_
  refine r_lmul (pc := 4) hX dX11_mix_4 ?_
  refine r_lload_n (pc := 5) hX dX11_mix_5 rfl ?_
  refine r_ladd (pc := 6) hX dX11_mix_6 ?_
  exact r_lreturn (pc := 7) hX dX11_mix_7 rfl (by first | with_reducible rfl | (simp only [mix_, ↓reduceIte, if_true, if_false, decide_true, decide_false, eq_self, b2i_t, b2i_f, Bool.false_eq_true, and_true, true_and, and_false, false_and, or_true, true_or, or_false, false_or, not_true_eq_false, not_false_eq_true] <;> rfl) | simp [mix_]) rfl
set_option maxRecDepth 100000 in
set_option maxHeartbeats 1000000 in
theorem sp_X11_at {l : Launch} {k : im_K} {S : im_S} {I : im_I} {x0 n0 : Nat} {p1 : Int32} (hx0 : im_k S x0 = (20, n0)) (hn : n0 < 2 ^ 31 := by first | decide | assumption) : im_Runs l k 0 mX11_at [.ref x0, .int p1] (S, I) (some (.int (at_ (I x0) n0 p1))) (S, I) := by
  refine im_run (by decide +kernel) ⟨Nat.le_refl _, Nat.le_refl _⟩ (Nat.le_of_ble_eq_true rfl) ?_
  intro X hl hX hxn hxz hxc hxs
  subst hl
  change im_E X k _ 0 [some (.ref x0), some (.int p1)] [] S I
  refine r_iload_n (pc := 0) hX dX11_at_0 rfl ?_
  refine r_if_lt (pc := 1) hX 16 dX11_at_1 (by decide) (fun c1 => ?_) (fun c1 => ?_)
  · have c1d := Int32.not_le.mpr c1
    refine r_iconst (pc := 16) hX (-1) dX11_at_16 (by decide) ?_
    exact r_ireturn (pc := 17) hX dX11_at_17 rfl rfl (by first | with_reducible rfl | (simp only [at_, eq_true c1, eq_false c1d, ↓reduceIte, if_true, if_false, decide_true, decide_false, eq_self, b2i_t, b2i_f, Bool.false_eq_true, and_true, true_and, and_false, false_and, or_true, true_or, or_false, false_or, not_true_eq_false, not_false_eq_true] <;> rfl) | simp [at_, eq_true c1, eq_false c1d]) rfl
  · have c1d := Int32.not_lt.mp c1
    refine r_iload_n (pc := 4) hX dX11_at_4 rfl ?_
    refine r_aload_n (pc := 5) hX dX11_at_5 rfl ?_
    refine r_alen (pc := 6) hX _ dX11_at_6 hx0 rfl ?_
    refine r_icmp_ge (pc := 7) hX 16 dX11_at_7 (by decide) (fun c7 => ?_) (fun c7 => ?_)
    · have c7d := Int32.not_lt.mpr c7
      refine r_iconst (pc := 16) hX (-1) dX11_at_16 (by decide) ?_
      exact r_ireturn (pc := 17) hX dX11_at_17 rfl rfl (by first | with_reducible rfl | (simp only [at_, eq_false c1, eq_true c1d, eq_true c7, eq_false c7d, ↓reduceIte, if_true, if_false, decide_true, decide_false, eq_self, b2i_t, b2i_f, Bool.false_eq_true, and_true, true_and, and_false, false_and, or_true, true_or, or_false, false_or, not_true_eq_false, not_false_eq_true] <;> rfl) | simp [at_, eq_false c1, eq_true c1d, eq_true c7, eq_false c7d]) rfl
    · have c7d := Int32.not_le.mp c7
      refine r_aload_n (pc := 10) hX dX11_at_10 rfl ?_
      refine r_iload_n (pc := 11) hX dX11_at_11 rfl ?_
      refine r_iald (pc := 12) hX dX11_at_12 hx0 (im_vp (by assumption) (by assumption) (by first | decide | assumption)) ?_
      refine r_goto (pc := 13) hX (tgt := 17) dX11_at_13 (by decide) ?_
      exact r_ireturn (pc := 17) hX dX11_at_17 rfl rfl (by first | with_reducible rfl | (simp only [at_, eq_false c1, eq_true c1d, eq_false c7, eq_true c7d, ↓reduceIte, if_true, if_false, decide_true, decide_false, eq_self, b2i_t, b2i_f, Bool.false_eq_true, and_true, true_and, and_false, false_and, or_true, true_or, or_false, false_or, not_true_eq_false, not_false_eq_true] <;> rfl) | simp [at_, eq_false c1, eq_true c1d, eq_false c7, eq_true c7d]) rfl
set_option maxRecDepth 100000 in
set_option maxHeartbeats 1000000 in
theorem sp_X11_put {l : Launch} {k : im_K} {S : im_S} {I : im_I} {x0 n0 : Nat} {p1 : Int32} {p2 : Int32} (hx0 : im_k S x0 = (20, n0)) (hn : n0 < 2 ^ 31 := by first | decide | assumption) : im_Runs l k 0 mX11_put [.ref x0, .int p1, .int p2] (S, I) (none) (S, put_ I x0 n0 p1 p2) := by
  refine im_run (by decide +kernel) ⟨Nat.le_refl _, Nat.le_refl _⟩ (Nat.le_of_ble_eq_true rfl) ?_
  intro X hl hX hxn hxz hxc hxs
  subst hl
  change im_E X k _ 0 [some (.ref x0), some (.int p1), some (.int p2)] [] S I
  refine r_iload_n (pc := 0) hX dX11_put_0 rfl ?_
  refine r_if_lt (pc := 1) hX 14 dX11_put_1 (by decide) (fun c1 => ?_) (fun c1 => ?_)
  · have c1d := Int32.not_le.mpr c1
    exact r_return (pc := 14) hX dX11_put_14 rfl rfl (by first | with_reducible rfl | (simp only [put_, eq_true c1, eq_false c1d, ↓reduceIte, if_true, if_false, decide_true, decide_false, eq_self, b2i_t, b2i_f, Bool.false_eq_true, and_true, true_and, and_false, false_and, or_true, true_or, or_false, false_or, not_true_eq_false, not_false_eq_true] <;> rfl) | simp [put_, eq_true c1, eq_false c1d])
  · have c1d := Int32.not_lt.mp c1
    refine r_iload_n (pc := 4) hX dX11_put_4 rfl ?_
    refine r_aload_n (pc := 5) hX dX11_put_5 rfl ?_
    refine r_alen (pc := 6) hX _ dX11_put_6 hx0 rfl ?_
    refine r_icmp_ge (pc := 7) hX 14 dX11_put_7 (by decide) (fun c7 => ?_) (fun c7 => ?_)
    · have c7d := Int32.not_lt.mpr c7
      exact r_return (pc := 14) hX dX11_put_14 rfl rfl (by first | with_reducible rfl | (simp only [put_, eq_false c1, eq_true c1d, eq_true c7, eq_false c7d, ↓reduceIte, if_true, if_false, decide_true, decide_false, eq_self, b2i_t, b2i_f, Bool.false_eq_true, and_true, true_and, and_false, false_and, or_true, true_or, or_false, false_or, not_true_eq_false, not_false_eq_true] <;> rfl) | simp [put_, eq_false c1, eq_true c1d, eq_true c7, eq_false c7d])
    · have c7d := Int32.not_le.mp c7
      refine r_aload_n (pc := 10) hX dX11_put_10 rfl ?_
      refine r_iload_n (pc := 11) hX dX11_put_11 rfl ?_
      refine r_iload_n (pc := 12) hX dX11_put_12 rfl ?_
      refine r_iast (pc := 13) hX dX11_put_13 hx0 (im_vp (by assumption) (by assumption) (by first | decide | assumption)) ?_
      exact r_return (pc := 14) hX dX11_put_14 rfl rfl (by first | with_reducible rfl | (simp only [put_, eq_false c1, eq_true c1d, eq_false c7, eq_true c7d, ↓reduceIte, if_true, if_false, decide_true, decide_false, eq_self, b2i_t, b2i_f, Bool.false_eq_true, and_true, true_and, and_false, false_and, or_true, true_or, or_false, false_or, not_true_eq_false, not_false_eq_true] <;> rfl) | simp [put_, eq_false c1, eq_true c1d, eq_false c7, eq_true c7d])
set_option maxRecDepth 100000 in
set_option maxHeartbeats 1000000 in
theorem sp_X5_scratch {l : Launch} {k : im_K} {S : im_S} {I : im_I} {a : Nat} (h : o_X5 S a) : im_Runs l k 0 mX5_scratch [.ref a] (S, I) (some (.int (scratch_ I a))) (S, I) := by
  refine im_run (by decide +kernel) ⟨Nat.le_refl _, Nat.le_refl _⟩ (Nat.le_of_ble_eq_true rfl) ?_
  intro X hl hX hxn hxz hxc hxs
  subst hl
  change im_E X k _ 0 [some (.ref a)] [] S I
  refine r_aload_n (pc := 0) hX dX5_scratch_0 rfl ?_
  refine r_geti (pc := 1) hX dX5_scratch_1 fl_X5_9 rfl (o_X5_k h) ?_
  refine r_iconst (pc := 4) hX 3 dX5_scratch_4 (by decide) ?_
  refine r_isub (pc := 5) hX dX5_scratch_5 ?_
  exact r_ireturn (pc := 6) hX dX5_scratch_6 rfl rfl (by first | with_reducible rfl | (simp only [scratch_, ↓reduceIte, if_true, if_false, decide_true, decide_false, eq_self, b2i_t, b2i_f, Bool.false_eq_true, and_true, true_and, and_false, false_and, or_true, true_or, or_false, false_or, not_true_eq_false, not_false_eq_true] <;> rfl) | simp [scratch_]) rfl
set_option maxRecDepth 100000 in
set_option maxHeartbeats 1000000 in
theorem sp_X3_kindOf {l : Launch} {k : im_K} {S : im_S} {I : im_I} {a : Nat} {p0 : Int32} (h : o_X3 S a) : im_Runs l k 1 mX3_kindOf [.ref a, .int p0] (S, I) (some (.int (kindOf_ I a p0))) (S, I) := by
  refine im_run (by decide +kernel) ⟨Nat.le_refl _, Nat.le_refl _⟩ (Nat.le_of_ble_eq_true rfl) ?_
  intro X hl hX hxn hxz hxc hxs
  subst hl
  change im_E X k _ 0 [some (.ref a), some (.int p0)] [] S I
  refine r_aload_n (pc := 0) hX dX3_kindOf_0 rfl ?_
  refine r_getr (pc := 1) hX dX3_kindOf_1 fl_X3_9 rfl (o_X3_k h) (o_X3_r1 h) ?_
  refine r_iload_n (pc := 4) hX dX3_kindOf_4 rfl ?_
  refine r_callSN (Z := mX11_at) (pc := 5) hX dX3_kindOf_5 mn_X3_73 mX11_at_w (sp_X11_at (o_X3_a1 h)) rfl rfl (Nat.le_of_ble_eq_true rfl) (by decide) rfl (Or.inl rfl) ?_
  exact r_ireturn (pc := 8) hX dX3_kindOf_8 rfl rfl (by first | with_reducible rfl | (simp only [kindOf_, ↓reduceIte, if_true, if_false, decide_true, decide_false, eq_self, b2i_t, b2i_f, Bool.false_eq_true, and_true, true_and, and_false, false_and, or_true, true_or, or_false, false_or, not_true_eq_false, not_false_eq_true] <;> rfl) | simp [kindOf_]) rfl
set_option maxRecDepth 100000 in
set_option maxHeartbeats 1000000 in
theorem sp_X3_writtenBy {l : Launch} {k : im_K} {S : im_S} {I : im_I} {a : Nat} {p0 : Int32} (h : o_X3 S a) : im_Runs l k 1 mX3_writtenBy [.ref a, .int p0] (S, I) (some (.int (writtenBy_ I a p0))) (S, I) := by
  refine im_run (by decide +kernel) ⟨Nat.le_refl _, Nat.le_refl _⟩ (Nat.le_of_ble_eq_true rfl) ?_
  intro X hl hX hxn hxz hxc hxs
  subst hl
  change im_E X k _ 0 [some (.ref a), some (.int p0)] [] S I
  refine r_aload_n (pc := 0) hX dX3_writtenBy_0 rfl ?_
  refine r_getr (pc := 1) hX dX3_writtenBy_1 fl_X3_15 rfl (o_X3_k h) (o_X3_r2 h) ?_
  refine r_iload_n (pc := 4) hX dX3_writtenBy_4 rfl ?_
  refine r_callSN (Z := mX11_at) (pc := 5) hX dX3_writtenBy_5 mn_X3_73 mX11_at_w (sp_X11_at (o_X3_a2 h)) rfl rfl (Nat.le_of_ble_eq_true rfl) (by decide) rfl (Or.inl rfl) ?_
  exact r_ireturn (pc := 8) hX dX3_writtenBy_8 rfl rfl (by first | with_reducible rfl | (simp only [writtenBy_, ↓reduceIte, if_true, if_false, decide_true, decide_false, eq_self, b2i_t, b2i_f, Bool.false_eq_true, and_true, true_and, and_false, false_and, or_true, true_or, or_false, false_or, not_true_eq_false, not_false_eq_true] <;> rfl) | simp [writtenBy_]) rfl
set_option maxRecDepth 100000 in
set_option maxHeartbeats 1000000 in
theorem sp_X3_readBy {l : Launch} {k : im_K} {S : im_S} {I : im_I} {a : Nat} {p0 : Int32} {p1 : Int32} (h : o_X3 S a) : im_Runs l k 1 mX3_readBy [.ref a, .int p0, .int p1] (S, I) (some (.int (readBy_ I a p0 p1))) (S, I) := by
  refine im_run (by decide +kernel) ⟨Nat.le_refl _, Nat.le_refl _⟩ (Nat.le_of_ble_eq_true rfl) ?_
  intro X hl hX hxn hxz hxc hxs
  subst hl
  change im_E X k _ 0 [some (.ref a), some (.int p0), some (.int p1)] [] S I
  refine r_aload_n (pc := 0) hX dX3_readBy_0 rfl ?_
  refine r_getr (pc := 1) hX dX3_readBy_1 fl_X3_18 rfl (o_X3_k h) (o_X3_r3 h) ?_
  refine r_iconst (pc := 4) hX 3 dX3_readBy_4 (by decide) ?_
  refine r_iload_n (pc := 5) hX dX3_readBy_5 rfl ?_
  refine r_imul (pc := 6) hX dX3_readBy_6 ?_
  refine r_iload_n (pc := 7) hX dX3_readBy_7 rfl ?_
  refine r_iadd (pc := 8) hX dX3_readBy_8 ?_
  refine r_callSN (Z := mX11_at) (pc := 9) hX dX3_readBy_9 mn_X3_73 mX11_at_w (sp_X11_at (o_X3_a3 h)) rfl rfl (Nat.le_of_ble_eq_true rfl) (by decide) rfl (Or.inl rfl) ?_
  exact r_ireturn (pc := 12) hX dX3_readBy_12 rfl rfl (by first | with_reducible rfl | (simp only [readBy_, ↓reduceIte, if_true, if_false, decide_true, decide_false, eq_self, b2i_t, b2i_f, Bool.false_eq_true, and_true, true_and, and_false, false_and, or_true, true_or, or_false, false_or, not_true_eq_false, not_false_eq_true] <;> rfl) | simp [readBy_]) rfl
set_option maxRecDepth 100000 in
set_option maxHeartbeats 1000000 in
theorem sp_X3_numberOf {l : Launch} {k : im_K} {S : im_S} {I : im_I} {a : Nat} {p0 : Int32} (h : o_X3 S a) : im_Runs l k 1 mX3_numberOf [.ref a, .int p0] (S, I) (some (.int (numberOf_ I a p0))) (S, I) := by
  refine im_run (by decide +kernel) ⟨Nat.le_refl _, Nat.le_refl _⟩ (Nat.le_of_ble_eq_true rfl) ?_
  intro X hl hX hxn hxz hxc hxs
  subst hl
  change im_E X k _ 0 [some (.ref a), some (.int p0)] [] S I
  refine r_aload_n (pc := 0) hX dX3_numberOf_0 rfl ?_
  refine r_getr (pc := 1) hX dX3_numberOf_1 fl_X3_21 rfl (o_X3_k h) (o_X3_r4 h) ?_
  refine r_iload_n (pc := 4) hX dX3_numberOf_4 rfl ?_
  refine r_callSN (Z := mX11_at) (pc := 5) hX dX3_numberOf_5 mn_X3_73 mX11_at_w (sp_X11_at (o_X3_a4 h)) rfl rfl (Nat.le_of_ble_eq_true rfl) (by decide) rfl (Or.inl rfl) ?_
  exact r_ireturn (pc := 8) hX dX3_numberOf_8 rfl rfl (by first | with_reducible rfl | (simp only [numberOf_, ↓reduceIte, if_true, if_false, decide_true, decide_false, eq_self, b2i_t, b2i_f, Bool.false_eq_true, and_true, true_and, and_false, false_and, or_true, true_or, or_false, false_or, not_true_eq_false, not_false_eq_true] <;> rfl) | simp [numberOf_]) rfl
set_option maxRecDepth 100000 in
set_option maxHeartbeats 1000000 in
theorem sp_X3_blockOf {l : Launch} {k : im_K} {S : im_S} {I : im_I} {a : Nat} {p0 : Int32} (h : o_X3 S a) : im_Runs l k 1 mX3_blockOf [.ref a, .int p0] (S, I) (some (.int (blockOf_ I a p0))) (S, I) := by
  refine im_run (by decide +kernel) ⟨Nat.le_refl _, Nat.le_refl _⟩ (Nat.le_of_ble_eq_true rfl) ?_
  intro X hl hX hxn hxz hxc hxs
  subst hl
  change im_E X k _ 0 [some (.ref a), some (.int p0)] [] S I
  refine r_aload_n (pc := 0) hX dX3_blockOf_0 rfl ?_
  refine r_getr (pc := 1) hX dX3_blockOf_1 fl_X3_24 rfl (o_X3_k h) (o_X3_r5 h) ?_
  refine r_iload_n (pc := 4) hX dX3_blockOf_4 rfl ?_
  refine r_callSN (Z := mX11_at) (pc := 5) hX dX3_blockOf_5 mn_X3_73 mX11_at_w (sp_X11_at (o_X3_a5 h)) rfl rfl (Nat.le_of_ble_eq_true rfl) (by decide) rfl (Or.inl rfl) ?_
  exact r_ireturn (pc := 8) hX dX3_blockOf_8 rfl rfl (by first | with_reducible rfl | (simp only [blockOf_, ↓reduceIte, if_true, if_false, decide_true, decide_false, eq_self, b2i_t, b2i_f, Bool.false_eq_true, and_true, true_and, and_false, false_and, or_true, true_or, or_false, false_or, not_true_eq_false, not_false_eq_true] <;> rfl) | simp [blockOf_]) rfl
set_option maxRecDepth 100000 in
set_option maxHeartbeats 1000000 in
theorem sp_X3_heightOf {l : Launch} {k : im_K} {S : im_S} {I : im_I} {a : Nat} {p0 : Int32} (h : o_X3 S a) : im_Runs l k 1 mX3_heightOf [.ref a, .int p0] (S, I) (some (.int (heightOf_ I a p0))) (S, I) := by
  refine im_run (by decide +kernel) ⟨Nat.le_refl _, Nat.le_refl _⟩ (Nat.le_of_ble_eq_true rfl) ?_
  intro X hl hX hxn hxz hxc hxs
  subst hl
  change im_E X k _ 0 [some (.ref a), some (.int p0)] [] S I
  refine r_aload_n (pc := 0) hX dX3_heightOf_0 rfl ?_
  refine r_getr (pc := 1) hX dX3_heightOf_1 fl_X3_27 rfl (o_X3_k h) (o_X3_r6 h) ?_
  refine r_iload_n (pc := 4) hX dX3_heightOf_4 rfl ?_
  refine r_callSN (Z := mX11_at) (pc := 5) hX dX3_heightOf_5 mn_X3_73 mX11_at_w (sp_X11_at (o_X3_a6 h)) rfl rfl (Nat.le_of_ble_eq_true rfl) (by decide) rfl (Or.inl rfl) ?_
  exact r_ireturn (pc := 8) hX dX3_heightOf_8 rfl rfl (by first | with_reducible rfl | (simp only [heightOf_, ↓reduceIte, if_true, if_false, decide_true, decide_false, eq_self, b2i_t, b2i_f, Bool.false_eq_true, and_true, true_and, and_false, false_and, or_true, true_or, or_false, false_or, not_true_eq_false, not_false_eq_true] <;> rfl) | simp [heightOf_]) rfl
