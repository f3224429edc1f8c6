/-! Own.meant, by gen17.py -/
set_option maxRecDepth 100000 in
set_option maxHeartbeats 1000000 in
theorem sp_X12_meant {l : Launch} {k : im_K} {S : im_S} {I : im_I} {a rn nn rs ns b : Nat} (h : o_X12 S a rn nn rs ns) (hb : im_n S + 2 = b) (hab : a ≠ b) (ha3 : a + 3 ≠ b) (hrnb : rn ≠ b) (hrsb : rs ≠ b)
    (hqn0 : rowsOk S rn nn) (hqs0 : rowsOk S rs ns) (hno0 : nodesOk (rowAt S I rn) nn) (hst0 : stmtsOk (rowAt S I rs) ns nn) (hnn : nn < 2 ^ 31) (hns : ns < 2 ^ 31) :
    im_Runs l k (nn + 1) mX12_meant [.ref a] (S, I) (some (.ref b)) (im_alS S b 20 8, ownAll_ (im_alS S b 20 8) a rn nn rs ns b (im_alI I b)) := by
  have hqn := rowsOk_al (t := 20) (n := 8) hb hrnb hqn0
  have hqs := rowsOk_al (t := 20) (n := 8) hb hrsb hqs0
  have hno : nodesOk (rowAt (im_alS S b 20 8) I rn) nn := by rw [rowAt_al hrnb]; exact hno0
  have hst : stmtsOk (rowAt (im_alS S b 20 8) I rs) ns nn := by rw [rowAt_al hrsb]; exact hst0
  have hnb : ∀ j, j < nn → im_r (im_alS S b 20 8) rn j - 1 ≠ b := fun j hj e => by
    have h1 := (hqn j hj).2
    rw [e, kk_new hb] at h1
    cases h1
  have hsb : ∀ j, j < ns → im_r (im_alS S b 20 8) rs j - 1 ≠ b := fun j hj e => by
    have h1 := (hqs j hj).2
    rw [e, kk_new hb] at h1
    cases h1
  refine im_run (by decide +kernel) ⟨(show im_n S ≤ im_n S + 1 by omega), (show im_z S ≤ im_z S + 8 by omega)⟩ (Nat.le_of_ble_eq_true rfl) ?_
  intro X hl hX hxn hxz hxc hxs
  subst hl
  change im_E X k _ 0 [some (.ref a), none, none, none, none, none, none, none] [] S I
  refine r_bipush (pc := 0) hX 8 dX12_meant_0 (by decide) ?_
  refine r_newa2 (pc := 2) hX b 8 hb dX12_meant_2 (by decide) (by decide) (by decide) (by rw [hxn, hxz, hxc, hxs]; exact ⟨(show im_n S + 1 - im_n S ≤ (im_n S + 1) - im_n S by omega), (show im_z S + 8 - im_z S ≤ (im_z S + 8) - im_z S by omega)⟩) ?_
  replace h := o_X12_al (t := 20) (n := 8) hb h hab
  have hxb : im_k (im_alS S b 20 8) b = (20, 8) := kk_new hb
  refine r_astore_n (pc := 4) hX (L' := [_, _, _, _, _, _, _, _]) dX12_meant_4 rfl rfl (Nat.le_of_ble_eq_true rfl) ?_
  refine r_iconst (pc := 5) hX 0 dX12_meant_5 (by decide) ?_
  refine r_istore_n (pc := 6) hX (L' := [_, _, _, _, _, _, _, _]) dX12_meant_6 rfl rfl (Nat.le_of_ble_eq_true rfl) ?_
  have hL7 : ∀ (w1 : Nat) (i1 : Int32) (J1 : im_I), (∀ x, x ≠ b → J1 x = I x) → ¬ i1 < 0 → cnt i1 (4) = w1 → loopN w1 i1 (ownBlock_ (im_alS S b 20 8) a rn nn rs ns b) J1 = loopN (cnt (0) (4)) (0) (ownBlock_ (im_alS S b 20 8) a rn nn rs ns b) (im_alI I b) → im_E X k (im_Q X k (some (.ref b)) (im_alS S b 20 8, ownAll_ (im_alS S b 20 8) a rn nn rs ns b (im_alI I b))) 7 [some (.ref a), some (.ref b), some (.int i1), none, none, none, none, none] [] (im_alS S b 20 8) J1 := by
    intro w1
    induction w1 with
    | zero =>
      intro i1 J1 hf1 hp1 hm1 hR1
      refine r_iload_n (pc := 7) hX dX12_meant_7 rfl ?_
      refine r_iconst (pc := 8) hX 4 dX12_meant_8 (by decide) ?_
      refine r_icmp_ge (pc := 9) hX 93 dX12_meant_9 (by decide) (fun c9 => ?_) (fun c9 => ?_)
      · have c9d := Int32.not_lt.mpr c9
        rw [loopN_0] at hR1
        subst hR1
        refine r_aload_n (pc := 93) hX dX12_meant_93 rfl ?_
        exact r_areturn (pc := 94) hX dX12_meant_94 rfl (Or.inr ⟨_, rfl⟩) rfl (by simp only [ownAll_, loopC])
      · have c9d := Int32.not_le.mp c9
        exact (cnt_ex hm1  c9).elim
    | succ w1 ih1 =>
      intro i1 J1 hf1 hp1 hm1 hR1
      refine r_iload_n (pc := 7) hX dX12_meant_7 rfl ?_
      refine r_iconst (pc := 8) hX 4 dX12_meant_8 (by decide) ?_
      refine r_icmp_ge (pc := 9) hX 93 dX12_meant_9 (by decide) (fun c9 => ?_) (fun c9 => ?_)
      · have c9d := Int32.not_lt.mpr c9
        exact (cnt_go hm1  c9).elim
      · have c9d := Int32.not_le.mp c9
        refine r_iconst (pc := 12) hX 0 dX12_meant_12 (by decide) ?_
        refine r_istore_n (pc := 13) hX (L' := [_, _, _, _, _, _, _, _]) dX12_meant_13 rfl rfl (Nat.le_of_ble_eq_true rfl) ?_
        have hL14 : ∀ (w2 : Nat) (i2 : Int32) (J2 : im_I), (∀ x, x ≠ b → J2 x = I x) → cnt i2 (J1 (a + 3) i1.toNatClampNeg) = w2 → loopN w2 i2 (fun _ K => ownSts_ (im_alS S b 20 8) rn nn rs ns b i1 K) J2 = loopN (cnt (0) (J1 (a + 3) i1.toNatClampNeg)) (0) (fun _ K => ownSts_ (im_alS S b 20 8) rn nn rs ns b i1 K) (J1) → im_E X k (im_Q X k (some (.ref b)) (im_alS S b 20 8, ownAll_ (im_alS S b 20 8) a rn nn rs ns b (im_alI I b))) 14 [some (.ref a), some (.ref b), some (.int i1), some (.int i2), none, none, none, none] [] (im_alS S b 20 8) J2 := by
          intro w2
          induction w2 with
          | zero =>
            intro i2 J2 hf2 hm2 hR2
            refine r_iload_n (pc := 14) hX dX12_meant_14 rfl ?_
            refine r_aload_n (pc := 15) hX dX12_meant_15 rfl ?_
            refine r_getr (pc := 16) hX dX12_meant_16 fl_X12_18 rfl (o_X12_k h) (o_X12_r2 h) ?_
            refine r_iload_n (pc := 19) hX dX12_meant_19 rfl ?_
            refine r_iald (pc := 20) hX dX12_meant_20 (o_X12_a2 h) (im_vp hp1 c9 (by decide)) ?_
            refine r_icmp_ge (pc := 21) hX 87 dX12_meant_21 (by decide) (fun c21 => ?_) (fun c21 => ?_)
            · have c21d := Int32.not_lt.mpr c21
              rw [loopN_0] at hR2
              subst hR2
              refine r_iinc (pc := 87) hX 1 (L' := [_, _, _, _, _, _, _, _]) dX12_meant_87 rfl (by decide) rfl rfl ?_
              refine r_goto (pc := 90) hX (tgt := 7) dX12_meant_90 (by decide) ?_
              refine r_weak (L' := [some _, some _, some _, none, none, none, none, none]) (And.intro rfl (And.intro rfl (And.intro rfl trivial))) ?_
              refine r_mem (I' := (ownBlock_ (im_alS S b 20 8) a rn nn rs ns b) i1 J1) (by first | with_reducible rfl | (simp only [ownBlock_, loopC, eq_false c9, eq_true c9d, eq_true c21, eq_false c21d, ↓reduceIte, if_true, if_false, decide_true, decide_false, eq_self, b2i_t, b2i_f, Bool.false_eq_true, and_true, true_and, and_false, false_and, or_true, true_or, or_false, false_or, not_true_eq_false, not_false_eq_true] <;> rfl) | simp [ownBlock_, loopC, eq_false c9, eq_true c9d, eq_true c21, eq_false c21d]) ?_
              exact ih1 _ _ (fun x hx => (ownBlock_fr hx).trans (hf1 x hx)) (nneg_step hp1 c9) (cnt_nx hm1) (loopN_s.symm.trans hR1)
            · have c21d := Int32.not_le.mp c21
              rw [show J2 (a + 3) = J1 (a + 3) from (hf2 _ ha3).trans (hf1 _ ha3).symm] at c21; exact (cnt_ex hm2  c21).elim
          | succ w2 ih2 =>
            intro i2 J2 hf2 hm2 hR2
            refine r_iload_n (pc := 14) hX dX12_meant_14 rfl ?_
            refine r_aload_n (pc := 15) hX dX12_meant_15 rfl ?_
            refine r_getr (pc := 16) hX dX12_meant_16 fl_X12_18 rfl (o_X12_k h) (o_X12_r2 h) ?_
            refine r_iload_n (pc := 19) hX dX12_meant_19 rfl ?_
            refine r_iald (pc := 20) hX dX12_meant_20 (o_X12_a2 h) (im_vp hp1 c9 (by decide)) ?_
            refine r_icmp_ge (pc := 21) hX 87 dX12_meant_21 (by decide) (fun c21 => ?_) (fun c21 => ?_)
            · have c21d := Int32.not_lt.mpr c21
              rw [show J2 (a + 3) = J1 (a + 3) from (hf2 _ ha3).trans (hf1 _ ha3).symm] at c21; exact (cnt_go hm2  c21).elim
            · have c21d := Int32.not_le.mp c21
              refine r_aload_n (pc := 24) hX dX12_meant_24 rfl ?_
              refine r_getr (pc := 25) hX dX12_meant_25 fl_X12_15 rfl (o_X12_k h) (o_X12_r1 h) ?_
              refine r_astore (pc := 28) hX (L' := [_, _, _, _, _, _, _, _]) dX12_meant_28 rfl rfl (Nat.le_of_ble_eq_true rfl) ?_
              refine r_aload (pc := 30) hX dX12_meant_30 rfl ?_
              refine r_alenR (pc := 32) hX _ dX12_meant_32 (o_X12_a1 h) rfl ?_
              refine r_istore (pc := 33) hX (L' := [_, _, _, _, _, _, _, _]) dX12_meant_33 rfl rfl (Nat.le_of_ble_eq_true rfl) ?_
              refine r_iconst (pc := 35) hX 0 dX12_meant_35 (by decide) ?_
              refine r_istore (pc := 36) hX (L' := [_, _, _, _, _, _, _, _]) dX12_meant_36 rfl rfl (Nat.le_of_ble_eq_true rfl) ?_
              have hL38 : ∀ (w3 : Nat) (i3 : Int32) (J3 : im_I), (∀ x, x ≠ b → J3 x = I x) → ¬ i3 < 0 → cnt i3 (Int32.ofNat ns) = w3 → loopN w3 i3 (ownStep_ (im_alS S b 20 8) rn nn rs b i1) J3 = loopN (cnt (0) (Int32.ofNat ns)) (0) (ownStep_ (im_alS S b 20 8) rn nn rs b i1) (J2) → im_E X k (im_Q X k (some (.ref b)) (im_alS S b 20 8, ownAll_ (im_alS S b 20 8) a rn nn rs ns b (im_alI I b))) 38 [some (.ref a), some (.ref b), some (.int i1), some (.int i2), some (.ref rs), some (.int (Int32.ofNat ns)), some (.int i3), none] [] (im_alS S b 20 8) J3 := by
                intro w3
                induction w3 with
                | zero =>
                  intro i3 J3 hf3 hp3 hm3 hR3
                  refine r_iload (pc := 38) hX dX12_meant_38 rfl ?_
                  refine r_iload (pc := 40) hX dX12_meant_40 rfl ?_
                  refine r_icmp_ge (pc := 42) hX 81 dX12_meant_42 (by decide) (fun c42 => ?_) (fun c42 => ?_)
                  · have c42d := Int32.not_lt.mpr c42
                    rw [loopN_0] at hR3
                    subst hR3
                    refine r_iinc (pc := 81) hX 1 (L' := [_, _, _, _, _, _, _, _]) dX12_meant_81 rfl (by decide) rfl rfl ?_
                    refine r_goto (pc := 84) hX (tgt := 14) dX12_meant_84 (by decide) ?_
                    refine r_weak (L' := [some _, some _, some _, some _, none, none, none, none]) (And.intro rfl (And.intro rfl (And.intro rfl (And.intro rfl trivial)))) ?_
                    refine r_mem (I' := (fun _ K => ownSts_ (im_alS S b 20 8) rn nn rs ns b i1 K) i2 J2) (by first | with_reducible rfl | (simp only [ownSts_, loopC, eq_false c9, eq_true c9d, eq_false c21, eq_true c21d, eq_true c42, eq_false c42d, ↓reduceIte, if_true, if_false, decide_true, decide_false, eq_self, b2i_t, b2i_f, Bool.false_eq_true, and_true, true_and, and_false, false_and, or_true, true_or, or_false, false_or, not_true_eq_false, not_false_eq_true] <;> rfl) | simp [ownSts_, loopC, eq_false c9, eq_true c9d, eq_false c21, eq_true c21d, eq_true c42, eq_false c42d]) ?_
                    exact ih2 _ _ (fun x hx => (ownSts_fr hx).trans (hf2 x hx)) (cnt_nx hm2) (loopN_s.symm.trans hR2)
                  · have c42d := Int32.not_le.mp c42
                    exact (cnt_ex hm3  c42).elim
                | succ w3 ih3 =>
                  intro i3 J3 hf3 hp3 hm3 hR3
                  refine r_iload (pc := 38) hX dX12_meant_38 rfl ?_
                  refine r_iload (pc := 40) hX dX12_meant_40 rfl ?_
                  refine r_icmp_ge (pc := 42) hX 81 dX12_meant_42 (by decide) (fun c42 => ?_) (fun c42 => ?_)
                  · have c42d := Int32.not_lt.mpr c42
                    exact (cnt_go hm3  c42).elim
                  · have c42d := Int32.not_le.mp c42
                    have hi3n : i3.toNatClampNeg < ns := vp_nat (im_vp hp3 c42 hns)
                    have hno3 : nodesOk (rowAt (im_alS S b 20 8) J3 rn) nn := nodesOk_congr (fun j hj => by funext q; exact congrFun ((hf3 _ (hnb j hj)).symm) q) hno
                    have hst3 : stmtsOk (rowAt (im_alS S b 20 8) J3 rs) ns nn := stmtsOk_congr (fun j hj => by funext q; exact congrFun ((hf3 _ (hsb j hj)).symm) q) hst
                    refine r_aload (pc := 45) hX dX12_meant_45 rfl ?_
                    refine r_iload (pc := 47) hX dX12_meant_47 rfl ?_
                    refine r_aald (pc := 49) hX dX12_meant_49 (o_X12_a1 h) (im_vp hp3 c42 hns) (hqs _ hi3n).1 ?_
                    refine r_astore (pc := 50) hX (L' := [_, _, _, _, _, _, _, _]) dX12_meant_50 rfl rfl (Nat.le_of_ble_eq_true rfl) ?_
                    refine r_aload (pc := 52) hX dX12_meant_52 rfl ?_
                    refine r_iconst (pc := 54) hX 0 dX12_meant_54 (by decide) ?_
                    refine r_ialdc (pc := 55) hX 0 rfl dX12_meant_55 (hqs _ hi3n).2 (vp_in3 _ _ (by decide)) ?_
                    refine r_iload_n (pc := 56) hX dX12_meant_56 rfl ?_
                    refine r_icmp_ne (pc := 57) hX 75 dX12_meant_57 (by decide) (fun c57 => ?_) (fun c57 => ?_)
                    · refine r_iinc (pc := 75) hX 1 (L' := [_, _, _, _, _, _, _, _]) dX12_meant_75 rfl (by decide) rfl rfl ?_
                      refine r_goto (pc := 78) hX (tgt := 38) dX12_meant_78 (by decide) ?_
                      refine r_weak (L' := [some _, some _, some _, some _, some _, some _, some _, none]) (And.intro rfl (And.intro rfl (And.intro rfl (And.intro rfl (And.intro rfl (And.intro rfl (And.intro rfl trivial))))))) ?_
                      refine r_mem (I' := (ownStep_ (im_alS S b 20 8) rn nn rs b i1) i3 J3) (by first | with_reducible rfl | (simp only [ownStep_, rowAt, eq_false c9, eq_true c9d, eq_false c21, eq_true c21d, eq_false c42, eq_true c42d, eq_false c57, ↓reduceIte, if_true, if_false, decide_true, decide_false, eq_self, b2i_t, b2i_f, Bool.false_eq_true, and_true, true_and, and_false, false_and, or_true, true_or, or_false, false_or, not_true_eq_false, not_false_eq_true] <;> rfl) | simp [ownStep_, rowAt, eq_false c9, eq_true c9d, eq_false c21, eq_true c21d, eq_false c42, eq_true c42d, eq_false c57]) ?_
                      exact ih3 _ _ (fun x hx => (ownStep_fr hx).trans (hf3 x hx)) (nneg_step hp3 c42) (cnt_nx hm3) (loopN_s.symm.trans hR3)
                    · refine r_aload_n (pc := 60) hX dX12_meant_60 rfl ?_
                      refine r_aload (pc := 61) hX dX12_meant_61 rfl ?_
                      refine r_iconst (pc := 63) hX 1 dX12_meant_63 (by decide) ?_
                      refine r_ialdc (pc := 64) hX 1 rfl dX12_meant_64 (hqs _ hi3n).2 (vp_in3 _ _ (by decide)) ?_
                      refine r_aload_n (pc := 65) hX dX12_meant_65 rfl ?_
                      refine r_aload (pc := 66) hX dX12_meant_66 rfl ?_
                      refine r_iconst (pc := 68) hX 2 dX12_meant_68 (by decide) ?_
                      refine r_ialdc (pc := 69) hX 2 rfl dX12_meant_69 (hqs _ hi3n).2 (vp_in3 _ _ (by decide)) ?_
                      refine r_aload_n (pc := 70) hX dX12_meant_70 rfl ?_
                      refine r_callV (Z := mX12_value) (t := 12) (pc := 71) hX dX12_meant_71 ml_X12_47 mX12_value_w ⟨by decide, rfl⟩ (o_X12_k h) ((fun (_ : o_X12 (im_alS S b 20 8) a rn nn rs ns) (_ : im_k (im_alS S b 20 8) b = (20, 8)) => sp_X12_value h hxb hqn hno3 hnn nn _ (hst3 _ hi3n).2) h hxb) rfl rfl (Nat.le_of_ble_eq_true rfl) (Nat.lt_succ_self _) rfl (Or.inl rfl) ?_
                      refine r_iast (pc := 74) hX dX12_meant_74 hxb (hst3 _ hi3n).1 ?_
                      refine r_iinc (pc := 75) hX 1 (L' := [_, _, _, _, _, _, _, _]) dX12_meant_75 rfl (by decide) rfl rfl ?_
                      refine r_goto (pc := 78) hX (tgt := 38) dX12_meant_78 (by decide) ?_
                      refine r_weak (L' := [some _, some _, some _, some _, some _, some _, some _, none]) (And.intro rfl (And.intro rfl (And.intro rfl (And.intro rfl (And.intro rfl (And.intro rfl (And.intro rfl trivial))))))) ?_
                      refine r_mem (I' := (ownStep_ (im_alS S b 20 8) rn nn rs b i1) i3 J3) (by first | with_reducible rfl | (simp only [ownStep_, rowAt, eq_false c9, eq_true c9d, eq_false c21, eq_true c21d, eq_false c42, eq_true c42d, eq_true c57, ↓reduceIte, if_true, if_false, decide_true, decide_false, eq_self, b2i_t, b2i_f, Bool.false_eq_true, and_true, true_and, and_false, false_and, or_true, true_or, or_false, false_or, not_true_eq_false, not_false_eq_true] <;> rfl) | simp [ownStep_, rowAt, eq_false c9, eq_true c9d, eq_false c21, eq_true c21d, eq_false c42, eq_true c42d, eq_true c57]) ?_
                      exact ih3 _ _ (fun x hx => (ownStep_fr hx).trans (hf3 x hx)) (nneg_step hp3 c42) (cnt_nx hm3) (loopN_s.symm.trans hR3)
              exact hL38 (cnt (0) (Int32.ofNat ns)) (0) (J2) hf2 (by decide) rfl rfl
        exact hL14 (cnt (0) (J1 (a + 3) i1.toNatClampNeg)) (0) (J1) hf1 rfl rfl
  exact hL7 (cnt (0) (4)) (0) (im_alI I b) (fun x hx => funext fun _ => if_neg hx) (by decide) rfl rfl
