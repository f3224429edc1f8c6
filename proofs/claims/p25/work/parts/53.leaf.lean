/-! the law's tree: its leaves, by gen21.py -/
set_option maxRecDepth 100000 in
set_option maxHeartbeats 1000000 in
theorem tree_leaf0 {l : Launch} {k : im_K} {S : im_S} {I : im_I} {rn nn rs ns lv : Nat} {x : Int32} (h : Lw S I rn nn rs ns) (hkL : kL k < 2 ^ 31) (hx : ¬ x < 0) (hl : (Int32.ofNat lv = 0 ∨ below_ (cell_ k (x - x / 16 * 16) + 7 * x) 4 = 0 ∨ ¬ Int32.ofNat nn ≤ 72)) (hz : below_ ((cell_ k (x - x / 16 * 16) + 7 * x) >>> ((2 : Int32) &&& 31)) 3 = 0) : ∃ S' I' rn' nn' v, im_Runs l k (5 + lv) mL_tree [.ref 2, .ref 125, .ref 0, .int x, .int (Int32.ofNat lv)] (S, I) (some (.int v)) (S', I') ∧ Lw S' I' rn' nn' rs ns ∧ Step S I nn S' I' nn' ∧ (∀ j, j < nn → I' 8 j = I 8 j) ∧ (v = -1 ∨ ∃ j, v = Int32.ofNat j ∧ nn ≤ j ∧ j < nn' ∧ I' 8 j = 0) := by
  have hm := old_o (Lw_old h)
  have ho := Lw_own h
  obtain ⟨S', I', rn', nn', v, hr, g1, g2, g3, g4⟩ := node_ex (l := l) (k := k) (kd := 0) (x := (below_ ((cell_ k (x - x / 16 * 16) + 7 * x) >>> ((4 : Int32) &&& 31)) 41 - 20)) (y := 0) h (fun _ => can0 (below_range (by decide)))
  refine ⟨S', I', rn', nn', v, ?_, g1, g2, fun j hj => g3 j hj (Or.inr (by decide)), ?_⟩
  · obtain ⟨⟨s1, s2, s3⟩, -⟩ := id g2
    refine im_run (by decide +kernel) ⟨by omega, by omega⟩ (Nat.le_of_ble_eq_true rfl) ?_
    intro X hl' hX hxn hxz hxc hxs
    subst hl'
    change im_E X k _ 0 [some (.ref 2), some (.ref 125), some (.ref 0), some (.int x), some (.int (Int32.ofNat lv)), none, none, none] [] S I
    have h39 : im_E X k (im_Q X k (some (.int v)) (S', I')) 39 [some (.ref 2), some (.ref 125), some (.ref 0), some (.int x), some (.int (Int32.ofNat lv)), some (.int (cell_ k (x - x / 16 * 16) + 7 * x)), none, none] [] S I := by
      refine r_iload (pc := 39) hX dL_tree_39 rfl ?_
      refine r_iconst (pc := 41) hX 2 dL_tree_41 (by decide) ?_
      refine r_ishr (pc := 42) hX dL_tree_42 ?_
      refine r_iconst (pc := 43) hX 3 dL_tree_43 (by decide) ?_
      refine r_callS (Z := mL_below) (pc := 44) hX dL_tree_44 ml_L_31 mL_below_w (sp_L_below (by decide)) rfl rfl (Nat.le_of_ble_eq_true rfl) (by omega) rfl (Or.inl rfl) ?_
      refine r_if_ne (pc := 47) hX 72 dL_tree_47 (by decide) (fun c47 => ?_) (fun c47 => ?_)
      · exact absurd hz c47
      · refine r_aload_n (pc := 50) hX dL_tree_50 rfl ?_
        refine r_aload_n (pc := 51) hX dL_tree_51 rfl ?_
        refine r_iconst (pc := 52) hX 0 dL_tree_52 (by decide) ?_
        refine r_iload (pc := 53) hX dL_tree_53 rfl ?_
        refine r_iconst (pc := 55) hX 4 dL_tree_55 (by decide) ?_
        refine r_ishr (pc := 56) hX dL_tree_56 ?_
        refine r_bipush (pc := 57) hX 41 dL_tree_57 (by decide) ?_
        refine r_callS (Z := mL_below) (pc := 59) hX dL_tree_59 ml_L_31 mL_below_w (sp_L_below (by decide)) rfl rfl (Nat.le_of_ble_eq_true rfl) (by omega) rfl (Or.inl rfl) ?_
        refine r_bipush (pc := 62) hX 20 dL_tree_62 (by decide) ?_
        refine r_isub (pc := 64) hX dL_tree_64 ?_
        refine r_iconst (pc := 65) hX 0 dL_tree_65 (by decide) ?_
        refine r_callS (Z := mL_node) (pc := 66) hX dL_tree_66 ml_L_35 mL_node_w ((fun (_ : o_X11 S 2) (_ : o_X12 S 125 rn nn rs ns) => hr) hm ho) rfl rfl (Nat.le_of_ble_eq_true rfl) (by omega) rfl (Or.inr (by rw [hxn, hxz, hxc, hxs]; exact ⟨Nat.le_refl _, Nat.le_refl _⟩)) ?_
        refine r_goto (pc := 69) hX (tgt := 88) dL_tree_69 (by decide) ?_
        exact r_ireturn (pc := 88) hX dL_tree_88 rfl rfl (by first | with_reducible rfl | (simp only [eq_true c47, ↓reduceIte, if_true, if_false, decide_true, decide_false, eq_self, b2i_t, b2i_f, Bool.false_eq_true, and_true, true_and, and_false, false_and, or_true, true_or, or_false, false_or, not_true_eq_false, not_false_eq_true] <;> rfl) | simp [eq_true c47]) rfl
    refine r_aload_n (pc := 0) hX dL_tree_0 rfl ?_
    refine r_iload_n (pc := 1) hX dL_tree_1 rfl ?_
    refine r_bipush (pc := 2) hX 16 dL_tree_2 (by decide) ?_
    refine r_irem (pc := 4) hX dL_tree_4 (by decide) ?_
    refine r_callS (Z := mL_cell) (pc := 5) hX dL_tree_5 ml_L_25 mL_cell_w (sp_L_cell  (rem_nn hx) hkL) rfl rfl (Nat.le_of_ble_eq_true rfl) (by omega) rfl (Or.inl rfl) ?_
    refine r_bipush (pc := 8) hX 7 dL_tree_8 (by decide) ?_
    refine r_iload_n (pc := 10) hX dL_tree_10 rfl ?_
    refine r_imul (pc := 11) hX dL_tree_11 ?_
    refine r_iadd (pc := 12) hX dL_tree_12 ?_
    refine r_istore (pc := 13) hX (L' := [_, _, _, _, _, _, _, _]) dL_tree_13 rfl rfl (Nat.le_of_ble_eq_true rfl) ?_
    refine r_iload (pc := 15) hX dL_tree_15 rfl ?_
    refine r_if_eq (pc := 17) hX 39 dL_tree_17 (by decide) (fun c17 => ?_) (fun c17 => ?_)
    · exact h39
    · refine r_iload (pc := 20) hX dL_tree_20 rfl ?_
      refine r_iconst (pc := 22) hX 4 dL_tree_22 (by decide) ?_
      refine r_callS (Z := mL_below) (pc := 23) hX dL_tree_23 ml_L_31 mL_below_w (sp_L_below (by decide)) rfl rfl (Nat.le_of_ble_eq_true rfl) (by omega) rfl (Or.inl rfl) ?_
      refine r_if_eq (pc := 26) hX 39 dL_tree_26 (by decide) (fun c26 => ?_) (fun c26 => ?_)
      · exact h39
      · refine r_aload_n (pc := 29) hX dL_tree_29 rfl ?_
        refine r_getr (pc := 30) hX dL_tree_30 fl_L_9 rfl (o_X12_k ho) (o_X12_r0 ho) ?_
        refine r_alenR (pc := 33) hX _ dL_tree_33 (o_X12_a0 ho) rfl ?_
        refine r_bipush (pc := 34) hX 72 dL_tree_34 (by decide) ?_
        refine r_icmp_le (pc := 36) hX 89 dL_tree_36 (by decide) (fun c36 => ?_) (fun c36 => ?_)
        · have c36d := Int32.not_lt.mpr c36
          exact (hl.elim c17 (fun e => e.elim c26 (fun e => e c36))).elim
        · have c36d := Int32.not_le.mp c36
          exact h39
  · rcases g4 with e | ⟨e1, e2, e3⟩
    · exact Or.inl e
    · exact Or.inr ⟨nn, e1, Nat.le_refl _, e2, e3⟩
set_option maxRecDepth 100000 in
set_option maxHeartbeats 1000000 in
theorem tree_leaf1 {l : Launch} {k : im_K} {S : im_S} {I : im_I} {rn nn rs ns lv : Nat} {x : Int32} (h : Lw S I rn nn rs ns) (hkL : kL k < 2 ^ 31) (hx : ¬ x < 0) (hl : (Int32.ofNat lv = 0 ∨ below_ (cell_ k (x - x / 16 * 16) + 7 * x) 4 = 0 ∨ ¬ Int32.ofNat nn ≤ 72)) (hz : ¬ below_ ((cell_ k (x - x / 16 * 16) + 7 * x) >>> ((2 : Int32) &&& 31)) 3 = 0) : ∃ S' I' rn' nn' v, im_Runs l k (5 + lv) mL_tree [.ref 2, .ref 125, .ref 0, .int x, .int (Int32.ofNat lv)] (S, I) (some (.int v)) (S', I') ∧ Lw S' I' rn' nn' rs ns ∧ Step S I nn S' I' nn' ∧ (∀ j, j < nn → I' 8 j = I 8 j) ∧ (v = -1 ∨ ∃ j, v = Int32.ofNat j ∧ nn ≤ j ∧ j < nn' ∧ I' 8 j = 0) := by
  have hm := old_o (Lw_old h)
  have ho := Lw_own h
  obtain ⟨S', I', rn', nn', v, hr, g1, g2, g3, g4⟩ := node_ex (l := l) (k := k) (kd := 1) (x := (below_ ((cell_ k (x - x / 16 * 16) + 7 * x) >>> ((4 : Int32) &&& 31)) 6)) (y := 0) h (fun _ => can1 (below_range (by decide)))
  refine ⟨S', I', rn', nn', v, ?_, g1, g2, fun j hj => g3 j hj (Or.inr (by decide)), ?_⟩
  · obtain ⟨⟨s1, s2, s3⟩, -⟩ := id g2
    refine im_run (by decide +kernel) ⟨by omega, by omega⟩ (Nat.le_of_ble_eq_true rfl) ?_
    intro X hl' hX hxn hxz hxc hxs
    subst hl'
    change im_E X k _ 0 [some (.ref 2), some (.ref 125), some (.ref 0), some (.int x), some (.int (Int32.ofNat lv)), none, none, none] [] S I
    have h39 : im_E X k (im_Q X k (some (.int v)) (S', I')) 39 [some (.ref 2), some (.ref 125), some (.ref 0), some (.int x), some (.int (Int32.ofNat lv)), some (.int (cell_ k (x - x / 16 * 16) + 7 * x)), none, none] [] S I := by
      refine r_iload (pc := 39) hX dL_tree_39 rfl ?_
      refine r_iconst (pc := 41) hX 2 dL_tree_41 (by decide) ?_
      refine r_ishr (pc := 42) hX dL_tree_42 ?_
      refine r_iconst (pc := 43) hX 3 dL_tree_43 (by decide) ?_
      refine r_callS (Z := mL_below) (pc := 44) hX dL_tree_44 ml_L_31 mL_below_w (sp_L_below (by decide)) rfl rfl (Nat.le_of_ble_eq_true rfl) (by omega) rfl (Or.inl rfl) ?_
      refine r_if_ne (pc := 47) hX 72 dL_tree_47 (by decide) (fun c47 => ?_) (fun c47 => ?_)
      · refine r_aload_n (pc := 72) hX dL_tree_72 rfl ?_
        refine r_aload_n (pc := 73) hX dL_tree_73 rfl ?_
        refine r_iconst (pc := 74) hX 1 dL_tree_74 (by decide) ?_
        refine r_iload (pc := 75) hX dL_tree_75 rfl ?_
        refine r_iconst (pc := 77) hX 4 dL_tree_77 (by decide) ?_
        refine r_ishr (pc := 78) hX dL_tree_78 ?_
        refine r_bipush (pc := 79) hX 6 dL_tree_79 (by decide) ?_
        refine r_callS (Z := mL_below) (pc := 81) hX dL_tree_81 ml_L_31 mL_below_w (sp_L_below (by decide)) rfl rfl (Nat.le_of_ble_eq_true rfl) (by omega) rfl (Or.inl rfl) ?_
        refine r_iconst (pc := 84) hX 0 dL_tree_84 (by decide) ?_
        refine r_callS (Z := mL_node) (pc := 85) hX dL_tree_85 ml_L_35 mL_node_w ((fun (_ : o_X11 S 2) (_ : o_X12 S 125 rn nn rs ns) => hr) hm ho) rfl rfl (Nat.le_of_ble_eq_true rfl) (by omega) rfl (Or.inr (by rw [hxn, hxz, hxc, hxs]; exact ⟨Nat.le_refl _, Nat.le_refl _⟩)) ?_
        exact r_ireturn (pc := 88) hX dL_tree_88 rfl rfl (by first | with_reducible rfl | (simp only [eq_false c47, ↓reduceIte, if_true, if_false, decide_true, decide_false, eq_self, b2i_t, b2i_f, Bool.false_eq_true, and_true, true_and, and_false, false_and, or_true, true_or, or_false, false_or, not_true_eq_false, not_false_eq_true] <;> rfl) | simp [eq_false c47]) rfl
      · exact absurd c47 hz
    refine r_aload_n (pc := 0) hX dL_tree_0 rfl ?_
    refine r_iload_n (pc := 1) hX dL_tree_1 rfl ?_
    refine r_bipush (pc := 2) hX 16 dL_tree_2 (by decide) ?_
    refine r_irem (pc := 4) hX dL_tree_4 (by decide) ?_
    refine r_callS (Z := mL_cell) (pc := 5) hX dL_tree_5 ml_L_25 mL_cell_w (sp_L_cell  (rem_nn hx) hkL) rfl rfl (Nat.le_of_ble_eq_true rfl) (by omega) rfl (Or.inl rfl) ?_
    refine r_bipush (pc := 8) hX 7 dL_tree_8 (by decide) ?_
    refine r_iload_n (pc := 10) hX dL_tree_10 rfl ?_
    refine r_imul (pc := 11) hX dL_tree_11 ?_
    refine r_iadd (pc := 12) hX dL_tree_12 ?_
    refine r_istore (pc := 13) hX (L' := [_, _, _, _, _, _, _, _]) dL_tree_13 rfl rfl (Nat.le_of_ble_eq_true rfl) ?_
    refine r_iload (pc := 15) hX dL_tree_15 rfl ?_
    refine r_if_eq (pc := 17) hX 39 dL_tree_17 (by decide) (fun c17 => ?_) (fun c17 => ?_)
    · exact h39
    · refine r_iload (pc := 20) hX dL_tree_20 rfl ?_
      refine r_iconst (pc := 22) hX 4 dL_tree_22 (by decide) ?_
      refine r_callS (Z := mL_below) (pc := 23) hX dL_tree_23 ml_L_31 mL_below_w (sp_L_below (by decide)) rfl rfl (Nat.le_of_ble_eq_true rfl) (by omega) rfl (Or.inl rfl) ?_
      refine r_if_eq (pc := 26) hX 39 dL_tree_26 (by decide) (fun c26 => ?_) (fun c26 => ?_)
      · exact h39
      · refine r_aload_n (pc := 29) hX dL_tree_29 rfl ?_
        refine r_getr (pc := 30) hX dL_tree_30 fl_L_9 rfl (o_X12_k ho) (o_X12_r0 ho) ?_
        refine r_alenR (pc := 33) hX _ dL_tree_33 (o_X12_a0 ho) rfl ?_
        refine r_bipush (pc := 34) hX 72 dL_tree_34 (by decide) ?_
        refine r_icmp_le (pc := 36) hX 89 dL_tree_36 (by decide) (fun c36 => ?_) (fun c36 => ?_)
        · have c36d := Int32.not_lt.mpr c36
          exact (hl.elim c17 (fun e => e.elim c26 (fun e => e c36))).elim
        · have c36d := Int32.not_le.mp c36
          exact h39
  · rcases g4 with e | ⟨e1, e2, e3⟩
    · exact Or.inl e
    · exact Or.inr ⟨nn, e1, Nat.le_refl _, e2, e3⟩
