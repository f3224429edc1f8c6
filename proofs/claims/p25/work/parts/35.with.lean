/-! Own.with: one row more -/
def withS_ (S : im_S) (r x n b : Nat) : im_S := im_upr (im_cpr (im_alS S b 21 (n + 1)) r b 0 0 n) b n (x + 1)
theorem ofNat_nat {n : Nat} (h : n ≤ 1000) : (Int32.ofNat n).toNatClampNeg = n := Int32.toNatClampNeg_ofNat_of_lt (by omega)
theorem ofNat_int {n : Nat} (h : n ≤ 1000) : (Int32.ofNat n).toInt = n := Int32.toInt_ofNat_of_lt (by omega)
theorem ofNat_succ {n : Nat} (h : n ≤ 1000) : Int32.ofNat n + 1 = Int32.ofNat (n + 1) := by
  apply Int32.toInt_inj.mp
  rw [Int32.toInt_add, ofNat_int h, Int32.toInt_ofNat_of_lt (by omega), show (1 : Int32).toInt = 1 by decide, Int.bmod_eq_of_le (by omega) (by omega)]
  omega
theorem ofNat_nlt {n : Nat} (h : n ≤ 1000) : ¬ Int32.ofNat n < 0 := by
  rw [Int32.lt_iff_toInt_lt, ofNat_int h, show (0 : Int32).toInt = 0 by decide]
  omega
set_option maxRecDepth 100000 in
set_option maxHeartbeats 1000000 in
theorem sp_X12_with {l : Launch} {k : im_K} {S : im_S} {I : im_I} {r x n b : Nat} (hr : im_k S r = (21, n)) (hx : im_k S x = (20, 3)) (hro : rowsOk S r n) (hb : im_n S + 2 = b) (hn : n ≤ 900) :
    im_Runs l k 1 mX12_with [.ref r, .ref x] (S, I) (some (.ref b)) (withS_ S r x n b, im_alI I b) := by
  have hnt := ofNat_nat (n := n) (by omega)
  have hrb : r ≠ b := by
    obtain ⟨i, rfl, hi⟩ := im_k_lt hr (by omega)
    omega
  refine im_run (by decide +kernel) ⟨(show im_n S ≤ im_n S + 1 by omega), (show im_z S ≤ im_z S + (n + 1) by omega)⟩ (Nat.le_of_ble_eq_true rfl) ?_
  intro X hl hX hxn hxz hxc hxs
  subst hl
  change im_E X k _ 0 [some (.ref r), some (.ref x), none] [] S I
  refine r_aload_n (pc := 0) hX dX12_with_0 rfl ?_
  refine r_alenR (pc := 1) hX _ dX12_with_1 hr rfl ?_
  refine r_iconst (pc := 2) hX 1 dX12_with_2 (by decide) ?_
  refine r_iadd (pc := 3) hX dX12_with_3 ?_
  rw [ofNat_succ (by omega)]
  refine r_anew2 (pc := 4) hX b (n + 1) hb dX12_with_4 cl_X12_7 (ofNat_nlt (by omega)) (ofNat_nat (by omega)) (by omega) (by rw [hxn, hxz, hxc, hxs]; exact ⟨(show im_n S + 1 - im_n S ≤ (im_n S + 1) - im_n S by omega), (show im_z S + (n + 1) - im_z S ≤ (im_z S + (n + 1)) - im_z S by omega)⟩) ?_
  have hr2 := kk_al (t := 21) (n := n + 1) hb hr (show 21 < 99 by decide)
  have hx2 := kk_al (t := 21) (n := n + 1) hb hx (by decide)
  have hb2 := kk_new (t := 21) (n := n + 1) hb
  have hro2 := rowsOk_al (t := 21) (n := n + 1) hb hrb hro
  refine r_astore_n (pc := 7) (L' := [_, _, _]) hX dX12_with_7 rfl rfl (Nat.le_of_ble_eq_true rfl) ?_
  refine r_aload_n (pc := 8) hX dX12_with_8 rfl ?_
  refine r_iconst (pc := 9) hX 0 dX12_with_9 (by decide) ?_
  refine r_aload_n (pc := 10) hX dX12_with_10 rfl ?_
  refine r_iconst (pc := 11) hX 0 dX12_with_11 (by decide) ?_
  refine r_aload_n (pc := 12) hX dX12_with_12 rfl ?_
  refine r_alenR (pc := 13) hX _ dX12_with_13 hr2 rfl ?_
  refine r_copy (pc := 14) hX dX12_with_14 ml_X12_41 w_copy hr2 hb2 (by decide) (by decide) (ofNat_nlt (by omega)) (by rw [hnt, show (0 : Int32).toNatClampNeg = 0 from rfl]; omega) (by rw [hnt, show (0 : Int32).toNatClampNeg = 0 from rfl]; omega) (fun i hi => ?_) (by decide) (by decide) rfl ?_
  · rw [hnt] at hi
    rw [show (0 : Int32).toNatClampNeg + i = i from Nat.zero_add i]
    exact Or.inr ⟨_, _, (hro2 i hi).1, (hro2 i hi).2⟩
  rw [hnt, show (0 : Int32).toNatClampNeg = 0 from rfl]
  refine r_aload_n (pc := 17) hX dX12_with_17 rfl ?_
  refine r_aload_n (pc := 18) hX dX12_with_18 rfl ?_
  refine r_alenR (pc := 19) hX _ dX12_with_19 (show im_k (im_cpr (im_alS S b 21 (n + 1)) r b 0 0 n) r = (21, n) from hr2) rfl ?_
  refine r_aload_n (pc := 20) hX dX12_with_20 rfl ?_
  refine r_aast (pc := 21) hX dX12_with_21 (show im_k (im_cpr (im_alS S b 21 (n + 1)) r b 0 0 n) b = (21, n + 1) from hb2) (vp_in3 _ _ (by rw [ofNat_int (by omega)]; omega)) (show im_k (im_cpr (im_alS S b 21 (n + 1)) r b 0 0 n) x = (20, 3) from hx2) ?_
  rw [hnt]
  refine r_aload_n (pc := 22) hX dX12_with_22 rfl ?_
  exact r_areturn (pc := 23) hX dX12_with_23 rfl (Or.inr ⟨_, rfl⟩) rfl rfl
