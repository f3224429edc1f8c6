/-! the law's rounds: from 117 to 203 -/
theorem three_nat {w : Int32} (h : ¬ w < 3) (c : ¬ 16 ≤ w) : ∃ q, q < 13 ∧ w = nI (3 + q) := by
  obtain ⟨j, hj, rfl⟩ := nI_of (lt3_0 h)
  have h1 : 3 ≤ j := by
    apply Nat.le_of_not_lt
    intro hlt
    exact h (nI_lt (a := j) (b := 3) hlt (by decide))
  have h2 : j < 16 := by
    apply Nat.lt_of_not_le
    intro hle
    exact c (nI_le (a := 16) (b := j) hle hj)
  exact ⟨j - 3, by omega, by rw [show 3 + (j - 3) = j by omega]⟩
section
variable {k : im_K} {S : im_S} {I : im_I} {rn nn rs ns b R : Nat} {tm : Nat → Nat} {r kp t : Int32}
theorem WiP_T {W : im_I} (h : Rd S I rn nn rs ns tm) (hW : WiP S I rn nn rs ns tm b W) (hb2 : b ≠ 125 ∧ b ≠ 128) (hv : mcV r kp R) (x : Int32) : tellMany_ (builtNow_ (lawM_ W r kp t) 2) 91 19 x = tellMany_ (builtNow_ (lawM_ I r kp t) 2) 91 19 x := by
  obtain ⟨-, -, -, -, o1, o2⟩ := h.2.2.2.2.1
  have e125 := hW.2 125 (by omega)
  have a := with_T (M := lawM_ W r kp t) h (fun z z1 z2 => (lawM_fr (by omega)).trans (hW.2 z (by omega))) lawM_8 lawM_m.1 lawM_m.2.1 lawM_m.2.2.2.2 (by rw [lawM_m.2.2.1, e125, o1]) (by rw [lawM_m.2.2.2.1, e125, o2]) ((lawM_fr (by decide)).trans (hW.2 16 (by omega))) (mcV_ok hv lawM_m.1 lawM_m.2.1) x
  have c := with_T (M := lawM_ I r kp t) h (fun z z1 z2 => lawM_fr (by omega)) lawM_8 lawM_m.1 lawM_m.2.1 lawM_m.2.2.2.2 (by rw [lawM_m.2.2.1, o1]) (by rw [lawM_m.2.2.2.1, o2]) (lawM_fr (by decide)) (mcV_ok hv lawM_m.1 lawM_m.2.1) x
  exact a.symm.trans c
set_option maxHeartbeats 1000000 in
theorem law_mid {X : im_X} {Q : State → Prop} {i : Int32} (hX : im_Ok X k mL_law 100) (h : Rd S I rn nn rs ns tm) (hxb : im_k S b = (20, 16)) (hb : 124 < b) (hb2 : b ≠ 125 ∧ b ≠ 128) (hv : mcV r kp R) (hmk : isMachine_ r kp = true) (ht01 : t = 0 ∨ t = 1)
    (h203 : ∀ z : Int32, im_E X k Q 203 [some (.ref 0), some (.ref 2), some (.ref 125), some (.int i), some (.int r), some (.int kp), some (.int t), some (.ref b), some (.int z), none, none] [] S (builtNow_ (lawM_ (loopN (cnt (3) (16)) (3) (wiStep_ r kp t b) I) r kp t) 2)) :
    im_E X k Q 117 [some (.ref 0), some (.ref 2), some (.ref 125), some (.int i), some (.int r), some (.int kp), some (.int t), some (.ref b), some (.int 3), none, none] [] S I := by
  have hW := wi_loop (t := t) h hxb hb hb2 hv
  refine law_b (P := WiP S I rn nn rs ns tm b) hX (old_o (Lw_old h.1)) (Lw_own h.1) hxb hmk ht01 ⟨h, fun _ _ => rfl⟩ (fun J hJ => ⟨hJ.1.2.2.2.1.2.2.1, hJ.1.2.2.2.1.2.2.2⟩) (fun J hJ => (Rd_now hJ.1).2.2.2) (fun w J _ _ hJ => WiP_step hxb hb hb2 hJ) (fun z => ?_)
  generalize loopN (cnt (3) (16)) (3) (wiStep_ r kp t b) I = W at hW h203 ⊢
  obtain ⟨hW1, hW2⟩ := hW
  have hWR := hW1.1
  have hM := Rd_lawM (t := t) hWR hv ht01
  obtain ⟨-, -, -, hM4⟩ := Rd_now hM
  obtain ⟨o1, o2, o3, o4, -, -⟩ := hWR.2.2.2.2.1
  obtain ⟨R', hR', hR5, hR11, -⟩ := hWR.2.2.2.1.1
  have hJ : ∀ J, (J = lawM_ W r kp t ∨ J = builtNow_ (lawM_ W r kp t) 2) → builtNow_ J 2 = builtNow_ (lawM_ W r kp t) 2 := fun J hJ => by
    rcases hJ with rfl | rfl
    · rfl
    · exact now_2
  refine law_c (P := fun J => J = lawM_ W r kp t ∨ J = builtNow_ (lawM_ W r kp t) 2) hX (old_o (Lw_old hWR.1)) (Lw_own hWR.1) hxb hmk ht01 o2 o3 o4 ?_ (Or.inl rfl) (fun J hP => Or.inr (hJ J hP)) (fun J hP => ?_) (fun w J w3 w16 hP => ?_) now_loop h203
  · rw [hR']
    exact nI_le (a := 5) (b := R') hR5 (by omega)
  · rw [hJ J hP]
    exact hM4
  · rw [hJ J hP]
    obtain ⟨q, hq, rfl⟩ := three_nat w3 w16
    rw [show (nI (3 + q)).toNatClampNeg = 3 + q from ofNat_nat (by omega), now_fr (by omega), lawM_fr (by omega), hW2 q hq]
    exact WiP_T h hW1 hb2 hv _
end
