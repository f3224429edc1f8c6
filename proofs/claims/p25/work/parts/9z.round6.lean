/-! a round of the law, whole -/
theorem rr_nat {k : im_K} {i : Int32} : ∃ R, rr_ k i = nI R ∧ 5 ≤ R ∧ R ≤ 11 := by
  obtain ⟨j, e, hj⟩ := below_nat (v := cell_ k (i + 2)) (n := 7) (m := 7) rfl (by decide) (by decide)
  refine ⟨5 + j, ?_, by omega, by omega⟩
  unfold rr_
  rw [e, show (5 : Int32) = nI 5 from rfl, nI_add]
theorem keeps_ok {v r : Int32} {R : Nat} (hr : r = nI R) (h5 : 5 ≤ R) (h11 : R ≤ 11) : mcV r (below_ v 256 &&& (1 <<< ((r - 3) &&& 31) - 4)) R ∧ isMachine_ r (below_ v 256 &&& (1 <<< ((r - 3) &&& 31) - 4)) = true := by
  obtain ⟨z, e, hz⟩ := below_nat (v := v) (n := 256) (m := 256) (by decide) (by decide) (by decide)
  subst hr
  rw [e]
  refine ⟨⟨rfl, h5, h11, fun g hg hq => ?_⟩, keeps_mach R (by omega) h5 z hz⟩
  rw [hb_and hg] at hq
  exact keeps_mask R (by omega) h5 g hg (by
    rw [Bool.and_eq_true] at hq
    exact hq.2)
theorem rt_01 {k : im_K} {i : Int32} : rt_ k i = 0 ∨ rt_ k i = 1 := by
  unfold rt_
  split
  · exact Or.inr rfl
  · exact Or.inl rfl
section
variable {k : im_K} {S : im_S} {I : im_I} {rn nn rs ns : Nat} {tm : Nat → Nat}
set_option maxHeartbeats 1000000 in
theorem law_round {i : Int32} (hkL : kL k < 2 ^ 31) (hi : ¬ i < 0) (hi3 : i < 2000000) (hi4 : ¬ 4 ≤ i) (h : Rd S I rn nn rs ns tm) :
    ∃ (S2 : im_S) (F : im_I), Rd S2 F rn nn rs ns tm ∧ im_n S2 = im_n S + 2 ∧ im_z S2 = im_z S + 24 ∧ ∀ (X : im_X) (Q : State → Prop), im_Ok X k mL_law 100 → (im_n S + 2 - xn X ≤ (xR X).cells ∧ im_z S + 24 - xz X ≤ (xR X).slots) →
      im_E X k Q 39 [some (.ref 0), some (.ref 2), some (.ref 125), some (.int (i + 1)), none, none, none, none, none, none, none] [] S2 F → im_E X k Q 39 [some (.ref 0), some (.ref 2), some (.ref 125), some (.int i), none, none, none, none, none, none, none] [] S I := by
  obtain ⟨b1, b2, b3, b4, b5⟩ := Lw_ne h.1 (b := im_n S + 2) rfl
  obtain ⟨R, hr, h5, h11⟩ := rr_nat (k := k) (i := i)
  obtain ⟨hv, hmk⟩ := keeps_ok (v := cell_ k (i + 5) >>> ((2 : Int32) &&& 31)) hr h5 h11
  have hS1 : Rd (im_alS S (im_n S + 2) 20 16) (im_alI I (im_n S + 2)) rn nn rs ns tm := Rd_al h rfl fun z hz => funext fun _ => if_neg (by omega)
  have hxb : im_k (im_alS S (im_n S + 2) 20 16) (im_n S + 2) = (20, 16) := kk_new rfl
  obtain ⟨hW1, -⟩ := wi_loop (t := rt_ k i) hS1 hxb (by omega) (by omega) hv
  have hM := Rd_lawM (t := rt_ k i) hW1.1 hv rt_01
  obtain ⟨hC, hC8, -, -⟩ := Rd_now hM
  have mid := fun (X : im_X) (Q : State → Prop) (hX : im_Ok X k mL_law 100) => law_mid (Q := Q) (t := rt_ k i) (i := i) hX hS1 hxb (by omega) (by omega) hv hmk rt_01
  generalize loopN (cnt (3) (16)) (3) (wiStep_ (rr_ k i) (below_ (cell_ k (i + 5) >>> ((2 : Int32) &&& 31)) 256 &&& (1 <<< ((rr_ k i - 3) &&& 31) - 4)) (rt_ k i) (im_n S + 2)) (im_alI I (im_n S + 2)) = W at hW1 hM hC hC8 mid
  have e15 := now_fr (I := lawM_ W (rr_ k i) (below_ (cell_ k (i + 5) >>> ((2 : Int32) &&& 31)) 256 &&& (1 <<< ((rr_ k i - 3) &&& 31) - 4)) (rt_ k i)) (z := 15) (by decide)
  have e0 : builtNow_ (lawM_ W (rr_ k i) (below_ (cell_ k (i + 5) >>> ((2 : Int32) &&& 31)) 256 &&& (1 <<< ((rr_ k i - 3) &&& 31) - 4)) (rt_ k i)) 2 15 0 = rr_ k i := by rw [e15]; exact lawM_m.1
  have e1 : builtNow_ (lawM_ W (rr_ k i) (below_ (cell_ k (i + 5) >>> ((2 : Int32) &&& 31)) 256 &&& (1 <<< ((rr_ k i - 3) &&& 31) - 4)) (rt_ k i)) 2 15 1 = (below_ (cell_ k (i + 5) >>> ((2 : Int32) &&& 31)) 256 &&& (1 <<< ((rr_ k i - 3) &&& 31) - 4)) := by rw [e15]; exact lawM_m.2.1
  generalize builtNow_ (lawM_ W (rr_ k i) (below_ (cell_ k (i + 5) >>> ((2 : Int32) &&& 31)) 256 &&& (1 <<< ((rr_ k i - 3) &&& 31) - 4)) (rt_ k i)) 2 = C at hC hC8 mid e0 e1
  have hD := (fun (j cn : Nat) (hj : j < 8) (ed : rd_ k i = nI j) (ec : rc_ k i = nI cn) (c1 : 1 ≤ cn) (c9 : cn ≤ 9) => Rd_lawD (d := rd_ k i) (c := rc_ k i) hC ed hj ec c1 c9)
  obtain ⟨dn, hd, ed⟩ := rd_nat (k := k) (i := i)
  obtain ⟨cn, hc1, hc9, ec⟩ := rc_nat (k := k) (i := i)
  obtain ⟨g, g8, -, -⟩ := Rd_now (hD dn cn hd ed ec hc1 hc9)
  obtain ⟨q, q8⟩ := Rd_mean g g8 (b := im_n S + 3) rfl
  refine ⟨_, _, q, rfl, rfl, fun X Q hX hroom h39 => ?_⟩
  refine law_a hX (old_o (Lw_old h.1)) (Lw_own h.1) hkL hi hi3 hi4 ?_
  refine r_istore (pc := 106) hX (L' := [_, _, _, _, _, _, _, _, _, _, _]) dL_law_106 rfl rfl (Nat.le_of_ble_eq_true rfl) ?_
  refine r_bipush (pc := 108) hX 16 dL_law_108 (by decide) ?_
  refine r_newa2 (pc := 110) hX (im_n S + 2) 16 rfl dL_law_110 (by decide) (by decide) (by decide) ⟨by omega, by omega⟩ ?_
  refine r_astore (pc := 112) hX (L' := [_, _, _, _, _, _, _, _, _, _, _]) dL_law_112 rfl rfl (Nat.le_of_ble_eq_true rfl) ?_
  refine r_iconst (pc := 114) hX 3 dL_law_114 (by decide) ?_
  refine r_istore (pc := 115) hX (L' := [_, _, _, _, _, _, _, _, _, _, _]) dL_law_115 rfl rfl (Nat.le_of_ble_eq_true rfl) ?_
  refine mid X Q hX fun z => ?_
  refine law_tail hX hkL hi hi3 hC hv e0 e1 hxb (b2 := im_n S + 3) rfl ⟨?_, ?_⟩ h39
  · show im_n S + 1 + 1 - xn X ≤ _
    omega
  · show im_z S + 16 + 8 - xz X ≤ _
    omega
/-- all four -/
theorem law_rounds (hkL : kL k < 2 ^ 31) (h : Rd S I rn nn rs ns tm) :
    ∃ (S2 : im_S) (F : im_I), Rd S2 F rn nn rs ns tm ∧ im_n S2 = im_n S + 8 ∧ im_z S2 = im_z S + 96 ∧ ∀ (X : im_X) (Q : State → Prop), im_Ok X k mL_law 100 → (im_n S + 8 - xn X ≤ (xR X).cells ∧ im_z S + 96 - xz X ≤ (xR X).slots) →
      im_E X k Q 296 [some (.ref 0), some (.ref 2), some (.ref 125), some (.int 4), none, none, none, none, none, none, none] [] S2 F → im_E X k Q 39 [some (.ref 0), some (.ref 2), some (.ref 125), some (.int 0), none, none, none, none, none, none, none] [] S I := by
  obtain ⟨S1, I1, h1, n1, z1, w1⟩ := law_round (i := 0) hkL (by decide) (by decide) (by decide) h
  obtain ⟨S2, I2, h2, n2, z2, w2⟩ := law_round (i := 1) hkL (by decide) (by decide) (by decide) h1
  obtain ⟨S3, I3, h3, n3, z3, w3⟩ := law_round (i := 2) hkL (by decide) (by decide) (by decide) h2
  obtain ⟨S4, I4, h4, n4, z4, w4⟩ := law_round (i := 3) hkL (by decide) (by decide) (by decide) h3
  refine ⟨S4, I4, h4, by omega, by omega, fun X Q hX hroom hE => ?_⟩
  refine w1 X Q hX ⟨by omega, by omega⟩ ?_
  refine w2 X Q hX ⟨by omega, by omega⟩ ?_
  refine w3 X Q hX ⟨by omega, by omega⟩ ?_
  refine w4 X Q hX ⟨by omega, by omega⟩ ?_
  refine r_iload_n (pc := 39) hX dL_law_39 rfl ?_
  refine r_iconst (pc := 40) hX 4 dL_law_40 (by decide) ?_
  refine r_icmp_ge (pc := 41) hX 296 dL_law_41 (by decide) (fun c41 => hE) (fun c41 => absurd (by decide) c41)
end
