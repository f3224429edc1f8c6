/-! the law's isMeant, by gen18.py -/
set_option maxRecDepth 100000 in
set_option maxHeartbeats 1000000 in
theorem sp_L_isMeant {l : Launch} {k : im_K} {S : im_S} {I : im_I} {a rn nn rs ns b : Nat} (hm : o_X11 (im_alS S b 20 8) 2) (ho : o_X12 S a rn nn rs ns) (hb : im_n S + 2 = b) (hb15 : 15 < b) (hab : a ≠ b) (ha3 : a + 3 ≠ b) (hrnb : rn ≠ b) (hrsb : rs ≠ b)
    (hqn0 : rowsOk S rn nn) (hqs0 : rowsOk S rs ns) (hno0 : nodesOk (rowAt S I rn) nn) (hst0 : stmtsOk (rowAt S I rs) ns nn) (hnn : nn < 2 ^ 31) (hns : ns < 2 ^ 31)
    (hrt : ∀ b j : Int32, rootOf_ I 3 b j < 2147483647) (h8 : ¬ (meantNow_ (ownAll_ (im_alS S b 20 8) a rn nn rs ns b (im_alI I b)) 2) 2 8 = 0) (hout : (meantNow_ (ownAll_ (im_alS S b 20 8) a rn nn rs ns b (im_alI I b)) 2) a 9 = (meantNow_ (ownAll_ (im_alS S b 20 8) a rn nn rs ns b (im_alI I b)) 2) 3 2)
    (hA : ∀ i : Int32, ¬ i < 0 → ¬ 8 ≤ i → at_ ((meantNow_ (ownAll_ (im_alS S b 20 8) a rn nn rs ns b (im_alI I b)) 2) 13) 8 i = (meantNow_ (ownAll_ (im_alS S b 20 8) a rn nn rs ns b (im_alI I b)) 2) b i.toNatClampNeg)
    (hB : ∀ i : Int32, ¬ i < 0 → ¬ 8 ≤ i → hasBit_ ((meantNow_ (ownAll_ (im_alS S b 20 8) a rn nn rs ns b (im_alI I b)) 2) 3 2) i = true → tellAnswer_ (meantNow_ (ownAll_ (im_alS S b 20 8) a rn nn rs ns b (im_alI I b)) 2) 91 19 i = (meantNow_ (ownAll_ (im_alS S b 20 8) a rn nn rs ns b (im_alI I b)) 2) b i.toNatClampNeg) :
    im_Runs l k (nn + 10) mL_isMeant [.ref 2, .ref a] (S, I) (some (.int 1)) (im_alS S b 20 8, (meantNow_ (ownAll_ (im_alS S b 20 8) a rn nn rs ns b (im_alI I b)) 2)) := by
  have hJ : ∀ x, x < 15 → (ownAll_ (im_alS S b 20 8) a rn nn rs ns b (im_alI I b)) x = I x := fun x hx => (ownAll_fr (by omega)).trans (funext fun _ => if_neg (by omega))
  refine im_run (by decide +kernel) ⟨(show im_n S ≤ im_n S + 1 by omega), (show im_z S ≤ im_z S + 8 by omega)⟩ (Nat.le_of_ble_eq_true rfl) ?_
  intro X hl hX hxn hxz hxc hxs
  subst hl
  change im_E X k _ 0 [some (.ref 2), some (.ref a), none, none] [] S I
  refine r_aload_n (pc := 0) hX dL_isMeant_0 rfl ?_
  refine r_callV (Z := mX12_meant) (t := 12) (pc := 1) hX dL_isMeant_1 ml_L_128 mX12_meant_w ⟨by decide, rfl⟩ (o_X12_k ho) (sp_X12_meant ho hb hab ha3 hrnb hrsb hqn0 hqs0 hno0 hst0 hnn hns) rfl rfl (Nat.le_of_ble_eq_true rfl) (by omega) rfl (Or.inr (by rw [hxn, hxz, hxc, hxs]; exact ⟨(show im_n S + 1 - im_n S ≤ (im_n S + 1) - im_n S by omega), (show im_z S + 8 - im_z S ≤ (im_z S + 8) - im_z S by omega)⟩)) ?_
  replace ho := o_X12_al (t := 20) (n := 8) hb ho hab
  have hxb : im_k (im_alS S b 20 8) b = (20, 8) := kk_new hb
  refine r_astore_n (pc := 4) hX (L' := [_, _, _, _]) dL_isMeant_4 rfl rfl (Nat.le_of_ble_eq_true rfl) ?_
  refine r_iconst (pc := 5) hX 0 dL_isMeant_5 (by decide) ?_
  refine r_istore_n (pc := 6) hX (L' := [_, _, _, _]) dL_isMeant_6 rfl rfl (Nat.le_of_ble_eq_true rfl) ?_
  have hL7 : ∀ (w1 : Nat) (i1 : Int32) (J1 : im_I), cnt i1 8 = w1 → ¬ i1 < 0 → (i1 = 0 → J1 = (ownAll_ (im_alS S b 20 8) a rn nn rs ns b (im_alI I b))) → (¬ i1 = 0 → J1 = (meantNow_ (ownAll_ (im_alS S b 20 8) a rn nn rs ns b (im_alI I b)) 2)) → im_E X k (im_Q X k (some (.int 1)) (im_alS S b 20 8, (meantNow_ (ownAll_ (im_alS S b 20 8) a rn nn rs ns b (im_alI I b)) 2))) 7 [some (.ref 2), some (.ref a), some (.ref b), some (.int i1)] [] (im_alS S b 20 8) J1 := by
    intro w1
    induction w1 with
    | zero =>
      intro i1 J1 hm1 hp1 hj0 hj1
      have hmn : meantNow_ J1 2 = (meantNow_ (ownAll_ (im_alS S b 20 8) a rn nn rs ns b (im_alI I b)) 2) := by
        by_cases e : i1 = 0
        · rw [hj0 e]
        · rw [hj1 e]; exact meantNow_2
      have hr1 : ∀ x, x < 12 → x ≠ 2 → J1 x = I x := fun x hx hx2 => by
        by_cases e : i1 = 0
        · rw [hj0 e]; exact hJ x (by omega)
        · rw [hj1 e]; exact (meantNow_fr (by omega) hx2).trans (hJ x (by omega))
      refine r_iload_n (pc := 7) hX dL_isMeant_7 rfl ?_
      refine r_bipush (pc := 8) hX 8 dL_isMeant_8 (by decide) ?_
      refine r_icmp_ge (pc := 10) hX 55 dL_isMeant_10 (by decide) (fun c10 => ?_) (fun c10 => ?_)
      · have c10d := Int32.not_lt.mpr c10
        have hne : ¬ i1 = 0 := fun e => by rw [e] at c10; exact absurd c10 (by decide)
        rw [hj1 hne]
        refine r_iconst (pc := 55) hX 1 dL_isMeant_55 (by decide) ?_
        exact r_ireturn (pc := 56) hX dL_isMeant_56 rfl rfl (by first | with_reducible rfl | (simp only [eq_true c10, eq_false c10d, ↓reduceIte, if_true, if_false, decide_true, decide_false, eq_self, b2i_t, b2i_f, Bool.false_eq_true, and_true, true_and, and_false, false_and, or_true, true_or, or_false, false_or, not_true_eq_false, not_false_eq_true] <;> rfl) | simp [eq_true c10, eq_false c10d]) rfl
      · have c10d := Int32.not_le.mp c10
        exact (cnt_ex hm1 c10).elim
    | succ w1 ih1 =>
      intro i1 J1 hm1 hp1 hj0 hj1
      have hmn : meantNow_ J1 2 = (meantNow_ (ownAll_ (im_alS S b 20 8) a rn nn rs ns b (im_alI I b)) 2) := by
        by_cases e : i1 = 0
        · rw [hj0 e]
        · rw [hj1 e]; exact meantNow_2
      have hr1 : ∀ x, x < 12 → x ≠ 2 → J1 x = I x := fun x hx hx2 => by
        by_cases e : i1 = 0
        · rw [hj0 e]; exact hJ x (by omega)
        · rw [hj1 e]; exact (meantNow_fr (by omega) hx2).trans (hJ x (by omega))
      refine r_iload_n (pc := 7) hX dL_isMeant_7 rfl ?_
      refine r_bipush (pc := 8) hX 8 dL_isMeant_8 (by decide) ?_
      refine r_icmp_ge (pc := 10) hX 55 dL_isMeant_10 (by decide) (fun c10 => ?_) (fun c10 => ?_)
      · have c10d := Int32.not_lt.mpr c10
        exact (cnt_go hm1 c10).elim
      · have c10d := Int32.not_le.mp c10
        refine r_aload_n (pc := 13) hX dL_isMeant_13 rfl ?_
        refine r_iload_n (pc := 14) hX dL_isMeant_14 rfl ?_
        refine r_callV (Z := mX11_meant) (t := 11) (pc := 15) hX dL_isMeant_15 ml_L_132 mX11_meant_w ⟨by decide, rfl⟩ (o_X11_k hm) (sp_X11_meant hm (fun b j => by rw [show rootOf_ J1 3 b j = rootOf_ I 3 b j from congrArg (fun r => at_ r 96 (placeOf_ b j)) (hr1 11 (by omega) (by omega))]; exact hrt b j) (below_ok hp1 c10)) rfl rfl (Nat.le_of_ble_eq_true rfl) (by omega) rfl (Or.inl rfl) ?_
        rw [hmn]
        refine r_aload_n (pc := 18) hX dL_isMeant_18 rfl ?_
        refine r_iload_n (pc := 19) hX dL_isMeant_19 rfl ?_
        refine r_iald (pc := 20) hX dL_isMeant_20 hxb (im_vp hp1 c10 (by decide)) ?_
        refine r_icmp_ne (pc := 21) hX 47 dL_isMeant_21 (by decide) (fun c21 => ?_) (fun c21 => ?_)
        · exact absurd (hA i1 hp1 c10) c21
        · refine r_aload_n (pc := 24) hX dL_isMeant_24 rfl ?_
          refine r_geti (pc := 25) hX dL_isMeant_25 fl_L_59 rfl (o_X12_k ho) ?_
          refine r_iload_n (pc := 28) hX dL_isMeant_28 rfl ?_
          refine r_ishr (pc := 29) hX dL_isMeant_29 ?_
          refine r_iconst (pc := 30) hX 1 dL_isMeant_30 (by decide) ?_
          refine r_iand (pc := 31) hX dL_isMeant_31 ?_
          refine r_iconst (pc := 32) hX 1 dL_isMeant_32 (by decide) ?_
          refine r_icmp_ne (pc := 33) hX 49 dL_isMeant_33 (by decide) (fun c33 => ?_) (fun c33 => ?_)
          · refine r_iinc (pc := 49) hX 1 (L' := [_, _, _, _]) dL_isMeant_49 rfl (by decide) rfl rfl ?_
            refine r_goto (pc := 52) hX (tgt := 7) dL_isMeant_52 (by decide) ?_
            exact ih1 _ _ (cnt_nx hm1) (nneg_step hp1 c10) (fun e => absurd e (nz_step hp1 c10)) (fun _ => rfl)
          · have hv1 : hasBit_ ((meantNow_ (ownAll_ (im_alS S b 20 8) a rn nn rs ns b (im_alI I b)) 2) 3 2) i1 = true := bit_has hp1 c10 hout c33
            refine r_aload_n (pc := 36) hX dL_isMeant_36 rfl ?_
            refine r_iload_n (pc := 37) hX dL_isMeant_37 rfl ?_
            refine r_callV (Z := mX11_answer) (t := 11) (pc := 38) hX dL_isMeant_38 ml_L_134 mX11_answer_w ⟨by decide, rfl⟩ (o_X11_k hm) (sp_X11_answer hm (below_ok hp1 c10) hv1) rfl rfl (Nat.le_of_ble_eq_true rfl) (by omega) rfl (Or.inl rfl) ?_
            rw [builtNow_id h8]
            refine r_aload_n (pc := 41) hX dL_isMeant_41 rfl ?_
            refine r_iload_n (pc := 42) hX dL_isMeant_42 rfl ?_
            refine r_iald (pc := 43) hX dL_isMeant_43 hxb (im_vp hp1 c10 (by decide)) ?_
            refine r_icmp_eq (pc := 44) hX 49 dL_isMeant_44 (by decide) (fun c44 => ?_) (fun c44 => ?_)
            · refine r_iinc (pc := 49) hX 1 (L' := [_, _, _, _]) dL_isMeant_49 rfl (by decide) rfl rfl ?_
              refine r_goto (pc := 52) hX (tgt := 7) dL_isMeant_52 (by decide) ?_
              exact ih1 _ _ (cnt_nx hm1) (nneg_step hp1 c10) (fun e => absurd e (nz_step hp1 c10)) (fun _ => rfl)
            · exact absurd (hB i1 hp1 c10 hv1) c44
  exact hL7 (cnt 0 8) 0 (ownAll_ (im_alS S b 20 8) a rn nn rs ns b (im_alI I b)) rfl (by decide) (fun _ => rfl) (fun e => absurd rfl e)
