/-! the law's write, as a call -/
set_option maxRecDepth 100000 in
set_option maxHeartbeats 1000000 in
theorem sp_L_write {l : Launch} {k : im_K} {S : im_S} {I : im_I} {rn nn rs ns pn : Nat} (hkL : kL k < 2 ^ 31) (hpn : pn < 4) (h : Lw S I rn nn rs ns) (hns : ns = 0) (hRt : ∀ j, I 11 j < 1000) (h1s : ∀ j, j < 4 → I 4 j = 1) (h32 : I 3 2 = 1) (hwas : I 15 0 = I 125 4) (hls : latSame 125 I) (hl : LatOk I 15) :
    ∃ (S' : im_S) (F : im_I) (rn' nn' rs' ns' : Nat) (tm : Nat → Nat), Rd S' F rn' nn' rs' ns' tm ∧ (im_n S ≤ im_n S' ∧ im_z S ≤ im_z S') ∧ (im_n S' ≤ im_n S + 208 ∧ im_z S' ≤ im_z S + 7920) ∧ im_Runs l k 9 mL_write [.ref 2, .ref 125, .ref 0, .int (nI pn)] (S, I) (some (.int 1)) (S', F) := by
  obtain ⟨m', em, hm'⟩ := below_nat (v := cell_ k (nI pn)) (n := 11) (m := 11) rfl (by decide) (by decide)
  obtain ⟨S', I', rn', nn', rs', ns', g1, g2, g3, g4, g5⟩ := wr_loop (l := l) (k := k) (pn := pn) (mm := 2 + m') hkL hpn (by omega) (2 + m') 0 (by omega) S I rn nn rs ns h (by omega) hRt
  obtain ⟨⟨w1, w2, w3, w4⟩, ⟨w5, w6⟩, wF, w3q⟩ := g3
  obtain ⟨b1, b2, b3, -, -⟩ := Lw_ne h (b := im_n S + 2) rfl
  have n80 := Lw_n80 g1
  have hl' : LatOk I' 15 := LatOk_f hl (wF (15 + 1) (by omega) (by decide) (by decide) (by decide))
  obtain ⟨tm, hR⟩ := Rd_write (k := k) (p := nI pn) g1 g2 hl'
  refine ⟨S', wrEnd_ k (nI pn) I', rn', nn', rs', ns', tm, hR, ⟨w1, w2⟩, ⟨by omega, by omega⟩, ?_⟩
  refine im_run (by decide +kernel) ⟨w1, w2⟩ (Nat.le_of_ble_eq_true rfl) ?_
  intro X hlX hX hxn hxz hxc hxs
  subst hlX
  refine r_iconst (pc := 0) hX 2 dL_write_0 (by decide) ?_
  refine r_aload_n (pc := 1) hX dL_write_1 rfl ?_
  refine r_iload_n (pc := 2) hX dL_write_2 rfl ?_
  refine r_callS (Z := mL_cell) (pc := 3) hX dL_write_3 ml_L_25 mL_cell_w (sp_L_cell (nI_pos (by omega)) hkL) rfl rfl (Nat.le_of_ble_eq_true rfl) (by decide) rfl (Or.inl rfl) ?_
  refine r_bipush (pc := 6) hX 11 dL_write_6 (by decide) ?_
  refine r_callS (Z := mL_below) (pc := 8) hX dL_write_8 ml_L_31 mL_below_w (sp_L_below (by decide)) rfl rfl (Nat.le_of_ble_eq_true rfl) (by decide) rfl (Or.inl rfl) ?_
  refine r_iadd (pc := 11) hX dL_write_11 ?_
  refine r_istore (pc := 12) hX (L' := [_, _, _, _, _, _, _, _, _, _, _, _, _, _, _]) dL_write_12 rfl rfl (Nat.le_of_ble_eq_true rfl) ?_
  refine r_iconst (pc := 14) hX 0 dL_write_14 (by decide) ?_
  refine r_istore (pc := 15) hX (L' := [_, _, _, _, _, _, _, _, _, _, _, _, _, _, _]) dL_write_15 rfl rfl (Nat.le_of_ble_eq_true rfl) ?_
  rw [em, show (2 : Int32) + nI m' = Int32.ofNat (2 + m') by rw [show (2 : Int32) = nI 2 from rfl, nI_add]; rfl]
  refine g5 X rfl hX _ ⟨by rw [hxn, hxc]; omega, by rw [hxz, hxs]; omega⟩ ?_
  refine r_iload (pc := 17) hX dL_write_17 rfl ?_
  refine r_iload (pc := 19) hX dL_write_19 rfl ?_
  refine r_icmp_ge (pc := 21) hX 200 dL_write_21 (by decide) (fun c21 => ?_) (fun c21 => absurd (Int32.le_refl _) c21)
  have fI : ∀ z, z = 4 ∨ z = 15 ∨ z = 16 ∨ z = 125 ∨ z = 129 → I' z = I z := fun z hz => wF z (by omega) (by omega) (by omega) (by omega)
  refine wr_end hX (old_o (Lw_old g1)) (Lw_own g1) hkL (fun j hj _ => by rw [fI 4 (by decide)]; exact h1s j hj) ?_ out_ok.1 out_ok.2 (nI_pos (by omega)) (nI_lt (a := pn) (b := 2000000) (by omega) (by decide)) ?_ ?_ ?_ ?_ ?_ ?_ ?_ latV_ge' latV_le'
  · rw [up_fr (by decide), times_all.2 3 (by decide), w3q 2 (by decide) (by decide)]
    exact h32
  · rw [wrOut_fr (by decide), wrOut_125, if_neg (by decide), fI 15 (by decide), fI 125 (by decide)]
    exact hwas
  · intro i i0 i8
    rw [mach1_fr (show 16 ≠ 125 by decide) (by decide) (by decide), mach1_fr (show 125 + 4 ≠ 125 by decide) (by decide) (by decide), wrOut_fr (by decide), wrOut_fr (by decide), fI 16 (by decide), fI (125 + 4) (by decide)]
    exact hls i i0 i8
  · rw [mach0_R, mach0_K]
    exact machK_ok.choose_spec.2
  · rw [mach0_S]; exact machS_ok.1
  · rw [mach0_S]; exact machS_ok.2
  · rw [mach0_F]; exact machF_01
  · rw [mach0_T]; exact machT_01
