/-! walks, by program out of spec11.py -/
set_option maxRecDepth 100000 in
set_option maxHeartbeats 1000000 in
theorem sp_L_below {l : Launch} {k : im_K} {S : im_S} {I : im_I} {p0 : Int32} {p1 : Int32} (h0 : ¬ p1 = 0) : im_Runs l k 0 mL_below [.int p0, .int p1] (S, I) (some (.int (below_ p0 p1))) (S, I) := by
  refine im_run (by decide +kernel) ⟨Nat.le_refl _, Nat.le_refl _⟩ (Nat.le_of_ble_eq_true rfl) ?_
  intro X hl hX hxn hxz hxc hxs
  subst hl
  change im_E X k _ 0 [some (.int p0), some (.int p1)] [] S I
  refine r_iload_n (pc := 0) hX dL_below_0 rfl ?_
  refine r_ldc (pc := 1) hX dL_below_1 ko_L_7 ?_
  refine r_iand (pc := 3) hX dL_below_3 ?_
  refine r_iload_n (pc := 4) hX dL_below_4 rfl ?_
  refine r_irem (pc := 5) hX dL_below_5 h0 ?_
  exact r_ireturn (pc := 6) hX dL_below_6 rfl rfl (by first | with_reducible rfl | (simp only [below_, ↓reduceIte, if_true, if_false, decide_true, decide_false, eq_self, b2i_t, b2i_f, Bool.false_eq_true, and_true, true_and, and_false, false_and, or_true, true_or, or_false, false_or, not_true_eq_false, not_false_eq_true] <;> rfl) | simp [below_]) rfl
set_option maxRecDepth 100000 in
set_option maxHeartbeats 1000000 in
theorem sp_L_cell {l : Launch} {k : im_K} {S : im_S} {I : im_I} {p1 : Int32} (h0 : ¬ p1 < 0) (hk : kL k < 2 ^ 31) : im_Runs l k 0 mL_cell [.ref 0, .int p1] (S, I) (some (.int (cell_ k p1))) (S, I) := by
  refine im_run (by decide +kernel) ⟨Nat.le_refl _, Nat.le_refl _⟩ (Nat.le_of_ble_eq_true rfl) ?_
  intro X hl hX hxn hxz hxc hxs
  subst hl
  change im_E X k _ 0 [some (.ref 0), some (.int p1)] [] S I
  refine r_iload_n (pc := 0) hX dL_cell_0 rfl ?_
  refine r_aload_n (pc := 1) hX dL_cell_1 rfl ?_
  refine r_slen (pc := 2) hX dL_cell_2 ?_
  refine r_icmp_ge (pc := 3) hX 12 dL_cell_3 (by decide) (fun c3 => ?_) (fun c3 => ?_)
  · have c3d := Int32.not_lt.mpr c3
    refine r_ldc (pc := 12) hX dL_cell_12 ko_L_8 ?_
    refine r_iload_n (pc := 14) hX dL_cell_14 rfl ?_
    refine r_iconst (pc := 15) hX 3 dL_cell_15 (by decide) ?_
    refine r_iadd (pc := 16) hX dL_cell_16 ?_
    refine r_imul (pc := 17) hX dL_cell_17 ?_
    exact r_ireturn (pc := 18) hX dL_cell_18 rfl rfl (by first | with_reducible rfl | (simp only [cell_, eq_true c3, eq_false c3d, ↓reduceIte, if_true, if_false, decide_true, decide_false, eq_self, b2i_t, b2i_f, Bool.false_eq_true, and_true, true_and, and_false, false_and, or_true, true_or, or_false, false_or, not_true_eq_false, not_false_eq_true] <;> rfl) | simp [cell_, eq_true c3, eq_false c3d]) rfl
  · have c3d := Int32.not_le.mp c3
    refine r_aload_n (pc := 6) hX dL_cell_6 rfl ?_
    refine r_iload_n (pc := 7) hX dL_cell_7 rfl ?_
    refine r_sld (pc := 8) hX dL_cell_8 (im_vp (by assumption) (by assumption) (by first | decide | assumption)) ?_
    refine r_goto (pc := 9) hX (tgt := 18) dL_cell_9 (by decide) ?_
    exact r_ireturn (pc := 18) hX dL_cell_18 rfl rfl (by first | with_reducible rfl | (simp only [cell_, eq_false c3, eq_true c3d, ↓reduceIte, if_true, if_false, decide_true, decide_false, eq_self, b2i_t, b2i_f, Bool.false_eq_true, and_true, true_and, and_false, false_and, or_true, true_or, or_false, false_or, not_true_eq_false, not_false_eq_true] <;> rfl) | simp [cell_, eq_false c3, eq_true c3d]) rfl
