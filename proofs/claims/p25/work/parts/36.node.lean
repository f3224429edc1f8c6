/-! the law's node -/
def nodeS_ (S : im_S) (a rn nn b : Nat) : im_S := im_upr (withS_ (im_alS S b 20 3) rn b nn (b + 1)) a 0 (b + 1 + 1)
def rowI_ (I : im_I) (b : Nat) (x y z : Int32) : im_I := im_alI (im_up (im_up (im_up (im_alI I b) b 0 x) b 1 y) b 2 z) (b + 1)
theorem icmp_self {x y : Int32} (h : x = y) (c : ¬ x = y) : False := c h
section LNode
variable {l : Launch} {k : im_K} {S : im_S} {I : im_I} {a rn nn rs ns b : Nat} {kd x y : Int32}
set_option maxRecDepth 100000 in
set_option maxHeartbeats 1000000 in
theorem sp_L_node_no (ho : o_X12 S a rn nn rs ns) (h80 : nn = 80) : im_Runs l k 4 mL_node [.ref 2, .ref a, .int kd, .int x, .int y] (S, I) (some (.int (-1))) (S, I) := by
  subst h80
  refine im_run (by decide +kernel) ⟨Nat.le_refl _, Nat.le_refl _⟩ (Nat.le_of_ble_eq_true rfl) ?_
  intro X hl hX hxn hxz hxc hxs
  subst hl
  change im_E X k _ 0 [some (.ref 2), some (.ref a), some (.int kd), some (.int x), some (.int y), none] [] S I
  refine r_aload_n (pc := 0) hX dL_node_0 rfl ?_
  refine r_getr (pc := 1) hX dL_node_1 fl_L_9 rfl (o_X12_k ho) (o_X12_r0 ho) ?_
  refine r_alenR (pc := 4) hX _ dL_node_4 (o_X12_a0 ho) rfl ?_
  refine r_istore (pc := 5) (L' := [_, _, _, _, _, _]) hX dL_node_5 rfl rfl (Nat.le_of_ble_eq_true rfl) ?_
  refine r_iload (pc := 7) hX dL_node_7 rfl ?_
  refine r_bipush (pc := 9) hX 80 dL_node_9 (by decide) ?_
  refine r_icmp_eq (pc := 11) hX 27 dL_node_11 (by decide) (fun c => ?_) (fun c => absurd (by decide) c)
  refine r_iconst (pc := 27) hX (-1) dL_node_27 (by decide) ?_
  exact r_ireturn (pc := 28) hX dL_node_28 rfl rfl rfl rfl
set_option maxRecDepth 100000 in
set_option maxHeartbeats 1000000 in
theorem sp_L_node (hm : o_X11 S 2) (ho : o_X12 S a rn nn rs ns) (h80 : nn < 80) (hro : rowsOk S rn nn) (hc : canBeNode_ I 3 kd x y = true) (h3 : I 3 0 = Int32.ofNat nn) (hb : im_n S + 2 = b) :
    im_Runs l k 4 mL_node [.ref 2, .ref a, .int kd, .int x, .int y] (S, I) (some (.int (Int32.ofNat nn))) (nodeS_ S a rn nn b, rowI_ (addNode_ (forget_ I 2) 3 kd x y) b kd x y) := by
  have hrb : rn ≠ b := by
    obtain ⟨i, rfl, hi⟩ := im_k_lt (o_X12_a0 ho) (by omega)
    omega
  have hab : a ≠ b := by
    obtain ⟨i, rfl, hi⟩ := im_k_lt (o_X12_k ho) (by omega)
    omega
  have h0 : I 3 0 < 80 := by
    rw [h3, Int32.lt_iff_toInt_lt, ofNat_int (by omega), show (80 : Int32).toInt = 80 by decide]
    omega
  have hb2 : im_n (im_alS S b 20 3) + 2 = b + 1 := by show im_n S + 1 + 2 = b + 1; omega
  refine im_run (by decide +kernel) ⟨(show im_n S ≤ im_n S + 2 by omega), (show im_z S ≤ im_z S + 3 + (nn + 1) by omega)⟩ (Nat.le_of_ble_eq_true rfl) ?_
  intro X hl hX hxn hxz hxc hxs
  subst hl
  change im_E X k _ 0 [some (.ref 2), some (.ref a), some (.int kd), some (.int x), some (.int y), none] [] S I
  refine r_aload_n (pc := 0) hX dL_node_0 rfl ?_
  refine r_getr (pc := 1) hX dL_node_1 fl_L_9 rfl (o_X12_k ho) (o_X12_r0 ho) ?_
  refine r_alenR (pc := 4) hX _ dL_node_4 (o_X12_a0 ho) rfl ?_
  refine r_istore (pc := 5) (L' := [_, _, _, _, _, _]) hX dL_node_5 rfl rfl (Nat.le_of_ble_eq_true rfl) ?_
  refine r_iload (pc := 7) hX dL_node_7 rfl ?_
  refine r_bipush (pc := 9) hX 80 dL_node_9 (by decide) ?_
  refine r_icmp_eq (pc := 11) hX 27 dL_node_11 (by decide) (fun c => (by rw [h3.trans c] at h0; exact absurd h0 (by decide))) (fun c => ?_)
  refine r_aload_n (pc := 14) hX dL_node_14 rfl ?_
  refine r_iload_n (pc := 15) hX dL_node_15 rfl ?_
  refine r_iload_n (pc := 16) hX dL_node_16 rfl ?_
  refine r_iload (pc := 17) hX dL_node_17 rfl ?_
  refine r_callV (Z := mX11_node) (t := 11) (pc := 19) hX dL_node_19 ml_L_15 mX11_node_w ⟨by decide, rfl⟩ (o_X11_k hm) (sp_X11_node hm (by decide) hc h0) rfl rfl (Nat.le_of_ble_eq_true rfl) (by decide) rfl (Or.inl rfl) ?_
  refine r_iload (pc := 22) hX dL_node_22 rfl ?_
  refine r_icmp_eq (pc := 24) hX 29 dL_node_24 (by decide) (fun c2 => ?_) (fun c2 => absurd h3 c2)
  refine r_aload_n (pc := 29) hX dL_node_29 rfl ?_
  refine r_aload_n (pc := 30) hX dL_node_30 rfl ?_
  refine r_getr (pc := 31) hX dL_node_31 fl_L_9 rfl (o_X12_k ho) (o_X12_r0 ho) ?_
  refine r_iconst (pc := 34) hX 3 dL_node_34 (by decide) ?_
  refine r_newa2 (pc := 35) hX b 3 hb dL_node_35 (by decide) (by decide) (by decide) (by rw [hxn, hxz, hxc, hxs]; exact ⟨(show im_n S + 1 - im_n S ≤ (im_n S + 2) - im_n S by omega), (show im_z S + 3 - im_z S ≤ (im_z S + 3 + (nn + 1)) - im_z S by omega)⟩) ?_
  have hk := kk_new (t := 20) (n := 3) hb
  have ho2 := o_X12_al (t := 20) (n := 3) hb ho hab
  have hro2 := rowsOk_al (t := 20) (n := 3) hb hrb hro
  refine r_dup (pc := 37) hX dL_node_37 rfl ?_
  refine r_iconst (pc := 38) hX 0 dL_node_38 (by decide) ?_
  refine r_iload_n (pc := 39) hX dL_node_39 rfl ?_
  refine r_iast (pc := 40) hX dL_node_40 hk (vp_in3 _ _ (by decide)) ?_
  refine r_dup (pc := 41) hX dL_node_41 rfl ?_
  refine r_iconst (pc := 42) hX 1 dL_node_42 (by decide) ?_
  refine r_iload_n (pc := 43) hX dL_node_43 rfl ?_
  refine r_iast (pc := 44) hX dL_node_44 hk (vp_in3 _ _ (by decide)) ?_
  refine r_dup (pc := 45) hX dL_node_45 rfl ?_
  refine r_iconst (pc := 46) hX 2 dL_node_46 (by decide) ?_
  refine r_iload (pc := 47) hX dL_node_47 rfl ?_
  refine r_iast (pc := 49) hX dL_node_49 hk (vp_in3 _ _ (by decide)) ?_
  refine r_callS (Z := mX12_with) (pc := 50) hX dL_node_50 ml_L_21 mX12_with_w (sp_X12_with (o_X12_a0 ho2) hk hro2 hb2 (by omega)) rfl rfl (Nat.le_of_ble_eq_true rfl) (by decide) rfl (Or.inr (by rw [hxn, hxz, hxc, hxs]; exact ⟨(show im_n S + 2 - im_n S ≤ (im_n S + 2) - im_n S by omega), (show im_z S + 3 + (nn + 1) - im_z S ≤ (im_z S + 3 + (nn + 1)) - im_z S by omega)⟩)) ?_
  refine r_putr (pc := 53) hX dL_node_53 fl_L_9 (Or.inl rfl) rfl (show im_k (withS_ (im_alS S b 20 3) rn b nn (b + 1)) a = (12, im_N 12) from kk_al hb2 (o_X12_k ho2) (by decide)) ?_
  refine r_iload (pc := 56) hX dL_node_56 rfl ?_
  exact r_ireturn (pc := 58) hX dL_node_58 rfl rfl rfl rfl
end LNode
