/-! the law's rounds: meant and whole -/
def BtOk (I : im_I) (tm : Nat → Nat) (R : Nat) : Prop := ∃ (N : Nat) (st : Nat → Nat), WkOk I 19 92 15 N R st ∧ (∀ v, v < 8 → hb (I 3 2) v = true → tellAnswer_ I 91 19 (nI v) = mnAll I tm 4 (fun _ => 0) v) ∧ (I 92 2 = 0 → countOf_ I 98 7 = 0 ∧ countOf_ I 98 8 = 0) ∧ (∃ n B, n ≤ 1008 ∧ TmI I 103 n B) ∧ ∃ L, L ≤ 528 ∧ I 98 0 = nI L
theorem tellAnswer_fr {I J : im_I} {v : Int32} (e : ∀ z, 36 ≤ z ∧ z ≤ 54 ∨ 91 ≤ z ∧ z ≤ 107 → J z = I z) : tellAnswer_ J 91 19 v = tellAnswer_ I 91 19 v := by
  have h37 := e 37 (by decide)
  have h95 := e 95 (by decide)
  have h96 := e 96 (by decide)
  have h94 := e 94 (by decide)
  have h93 := e 93 (by decide)
  have h106 := e 106 (by decide)
  have h105 := e 105 (by decide)
  unfold tellAnswer_ isLiving_ isRemade_ homeNumberOf_ isSpilled_ slotOf_ registerOf_
  simp only [Nat.reduceAdd, h37, h93, h94, h95, h96, h105, h106]
theorem BtOk_fr {I J : im_I} {tm : Nat → Nat} {R : Nat} (h : BtOk I tm R) (e : ∀ z, 3 ≤ z ∧ z ≤ 11 ∨ z = 15 ∨ 19 ≤ z ∧ z ≤ 54 ∨ 91 ≤ z ∧ z ≤ 107 → J z = I z) : BtOk J tm R := by
  obtain ⟨N, st, h1, h2, h3, ⟨n, B, hn, hT⟩, L, hL, h5⟩ := h
  have hP : PgE I J := fun z z1 z2 => e z (by omega)
  have ec : ∀ kd, countOf_ J 98 kd = countOf_ I 98 kd := fun kd => by
    unfold countOf_ codeKindOf_
    rw [e 98 (by decide), e (98 + 1) (by decide)]
  refine ⟨N, st, WkOk_fr h1 fun z hz => e z (by omega), fun v hv hq => ?_, fun h0 => ?_, ⟨n, B, hn, TmI_fr hT fun z z1 z2 => e z (by omega)⟩, L, hL, by rw [e 98 (by decide)]; exact h5⟩
  · rw [e 3 (by decide)] at hq
    rw [tellAnswer_fr fun z hz => e z (by omega), mnAll_E hP]
    exact h2 v hv hq
  · rw [e 92 (by decide)] at h0
    rw [ec, ec]
    exact h3 h0
section
variable {l : Launch} {k : im_K} {S : im_S} {I : im_I} {rn nn rs ns b R : Nat} {tm : Nat → Nat}
theorem Rd_built (h : Rd S I rn nn rs ns tm) (h8 : I 2 8 = 0) (hm : McOk I 15 R) : BtOk (builtNow_ I 2) tm R := by
  have hpg := Rd_pg h
  obtain ⟨N, st, -, hL, hV⟩ := build_LO (I := I) (a := 19) (m := 15) (o := 1) hpg (by decide) (by decide)
  have f : ∀ z, z < 19 → build_ I 19 15 1 z = I z := fun z hz => built_fr hz
  obtain ⟨-, p1, s1⟩ := PgOk_E (J := build_ I 19 15 1) hpg fun z z1 z2 => f z (by omega)
  obtain ⟨w1, w2, w3, w4, w5⟩ := built_all (tm := tm) hL hV p1 s1 (McOk_fr hm (f 15 (by decide))) (LatOk_f h.2.2.2.1.2.1 (f (15 + 1) (by decide))) (fun b hb => by rw [f 4 (by decide)]; exact ⟨(h.2.2.1 b hb).1, (h.2.2.1 b hb).2.2⟩)
  have e3 : worksBuild_ (build_ I 19 15 1) 91 15 19 3 = build_ I 19 15 1 3 := worksBuild_fr (by decide)
  have eM : mnAll (worksBuild_ (build_ I 19 15 1) 91 15 19) = mnAll (build_ I 19 15 1) := mnAll_E fun z z1 z2 => worksBuild_fr (by omega)
  have hW : BtOk (worksBuild_ (build_ I 19 15 1) 91 15 19) tm R := ⟨N, st, w1, fun v hv hq => by rw [eM]; rw [e3] at hq; exact w2 v hv hq, w3, w4, w5⟩
  refine BtOk_fr hW fun z hz => ?_
  unfold builtNow_
  rw [if_pos h8, up_fr (by omega)]
  rfl
theorem whole_run (h : Lw S I rn nn rs ns) (hB : BtOk I tm R) (h8 : ¬ I 2 8 = 0) : im_Runs l k 8 mL_isWhole [.ref 2, .ref 125, .int (nI R)] (S, I) (some (.int 1)) (S, I) := by
  obtain ⟨N, st, h1, h2, h3, ⟨n, B, hn, hT⟩, L, hL, h5⟩ := hB
  obtain ⟨a1, a2, a3, a4, a5, a6, a7⟩ := whole_hyps h1 h3 hn hT h5 hL
  exact sp_L_isWhole (old_o (Lw_old h)) (Lw_own h) h8 a1 a2 a3 a4 a5 a6 a7 (by rw [tm_2]; exact (Lw_c1 h).symm)
def meanF_ (S : im_S) (E : im_I) (rn nn rs ns b : Nat) : im_I := meantNow_ (ownAll_ (im_alS S b 20 8) 125 rn nn rs ns b (im_alI E b)) 2
theorem meanF_fr {z : Nat} (hz : z < b) (h2 : z ≠ 2) (h3 : z < 12 ∨ 14 < z) : meanF_ S I rn nn rs ns b z = I z :=
  (meantNow_f ⟨h2, h3⟩).trans ((ownAll_fr (by omega)).trans (funext fun _ => if_neg (by omega)))
theorem meanF_8 (hb : 2 < b) : meanF_ S I rn nn rs ns b 2 8 = I 2 8 := by
  unfold meanF_
  rw [meantNow_8, ownAll_fr (by omega)]
  exact if_neg (by omega)
theorem eight_nat {i : Int32} (h : ¬ i < 0) (c : ¬ 8 ≤ i) : ∃ j, j < 8 ∧ i = nI j := by
  obtain ⟨j, hj, rfl⟩ := nI_of h
  refine ⟨j, ?_, rfl⟩
  apply Nat.lt_of_not_le
  intro hle
  exact c (nI_le (a := 8) (b := j) hle hj)
set_option maxHeartbeats 1000000 in
theorem mean_run (h : Rd S I rn nn rs ns tm) (hB : BtOk I tm R) (h8 : ¬ I 2 8 = 0) (h9 : I 2 9 = 0) (hnb : im_n S + 2 = b) : im_Runs l k (nn + 10) mL_isMeant [.ref 2, .ref 125] (S, I) (some (.int 1)) (im_alS S b 20 8, meanF_ S I rn nn rs ns b) := by
  have hL := h.1
  obtain ⟨b1, b2, b3, b4, b5⟩ := Lw_ne hL hnb
  have n80 := Lw_n80 hL
  have s24 := Lw_s24 hL
  have ht : ∀ bl, bl < 4 → I (125 + 3) bl = nI (tm bl) ∧ tm bl ≤ 9 := fun bl hbl => ⟨(h.2.2.1 bl hbl).2.1, by have := (h.2.2.1 bl hbl).2.2.2; omega⟩
  have hO : ownAll_ (im_alS S b 20 8) 125 rn nn rs ns b (im_alI I b) b = mnAll I tm 4 (fun _ => 0) := ownAll_nat hL hnb ht b2
  have fO : ∀ z, z < b → ownAll_ (im_alS S b 20 8) 125 rn nn rs ns b (im_alI I b) z = I z := fun z hz => (ownAll_fr (by omega)).trans (funext fun _ => if_neg (by omega))
  have fF : ∀ z, z < b → z ≠ 2 → (z < 12 ∨ 14 < z) → meanF_ S I rn nn rs ns b z = I z := fun z h1 h2 h3 => meanF_fr h1 h2 h3
  have hFb : meanF_ S I rn nn rs ns b b = mnAll I tm 4 (fun _ => 0) := (meantNow_f (by omega)).trans hO
  have hF13 : ∀ y, y < 8 → meanF_ S I rn nn rs ns b 13 y = mnAll I tm 4 (fun _ => 0) y := by
    intro y hy
    unfold meanF_ meantNow_
    generalize ownAll_ (im_alS S b 20 8) 125 rn nn rs ns b (im_alI I b) = O at fO
    rw [if_pos (show O 2 9 = 0 by rw [fO 2 (by omega)]; exact h9), up_fr (by decide)]
    have hP : PgE I O := fun z z1 z2 => fO z (by omega)
    rw [work_nat (tm := tm) (PgOk_E (Rd_pg h) hP) (fun b hb => by rw [fO 4 (by omega)]; exact Rd_t9 h b hb) y hy, mnAll_E hP]
  refine sp_L_isMeant (old_o (oldS_al hnb (by omega) (Lw_old hL))) (Lw_own hL) hnb (by omega) (by omega) (by omega) (by omega) (by omega) (Lw_rowsN hL) (Lw_rowsS hL) (Lw_nodes hL) (Lw_stOk hL) (by omega) (by omega) (rt_1000 h.2.1) ?_ ?_ ?_ ?_
  · rw [show meantNow_ (ownAll_ (im_alS S b 20 8) 125 rn nn rs ns b (im_alI I b)) 2 2 8 = I 2 8 from meanF_8 (by omega)]
    exact h8
  · show meanF_ S I rn nn rs ns b 125 9 = meanF_ S I rn nn rs ns b 3 2
    rw [fF 125 (by omega) (by omega) (by omega), fF 3 (by omega) (by omega) (by omega)]
    exact h.2.2.2.2.1.1
  · intro i i0 i8
    obtain ⟨j, hj, rfl⟩ := eight_nat i0 i8
    show at_ (meanF_ S I rn nn rs ns b 13) 8 (nI j) = meanF_ S I rn nn rs ns b b (nI j).toNatClampNeg
    rw [at_nat hj (by decide), show (nI j).toNatClampNeg = j from ofNat_nat (by omega), hFb, hF13 j hj]
  · intro i i0 i8 hbit
    obtain ⟨j, hj, rfl⟩ := eight_nat i0 i8
    obtain ⟨N, st, -, q2, -⟩ := hB
    show tellAnswer_ (meanF_ S I rn nn rs ns b) 91 19 (nI j) = meanF_ S I rn nn rs ns b b (nI j).toNatClampNeg
    have hb2 : hb (I 3 2) j = true := by
      rw [← hasBit_nat (show j < 32 by omega)]
      rw [show meantNow_ (ownAll_ (im_alS S b 20 8) 125 rn nn rs ns b (im_alI I b)) 2 3 = I 3 from fF 3 (by omega) (by omega) (by omega)] at hbit
      exact hbit
    rw [tellAnswer_fr (I := I) (fun z hz => fF z (by omega) (by omega) (by omega)), show (nI j).toNatClampNeg = j from ofNat_nat (by omega), hFb]
    exact q2 j hj hb2
end
