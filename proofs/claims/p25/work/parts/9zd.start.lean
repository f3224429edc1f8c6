/-! the law's start: the object and Own made, the script written -/
def I00 : im_I := fun _ _ => 0
def IMb : im_I := X11_init_I (im_alI I00 2) 2
def SA : im_S := im_alS SM 125 12 10
def IA : im_I := im_alI IMb 125
def SB : im_S := X12_init_S SA 125
def IB : im_I := X12_init_I IA 125
theorem SM_z : im_z SM = 15826 := by decide +kernel
theorem SB_n : im_n SB = 128 := by decide +kernel
theorem SB_z : im_z SB = 15848 := by decide +kernel
theorem SB_o : o_X12 SB 125 126 0 127 0 := by
  refine ⟨?_, ?_, ?_, ?_, ?_, ?_, ?_, ?_, ?_⟩ <;> decide +kernel
theorem SM_old : oldS SM := fun _ _ => ⟨rfl, fun _ => rfl⟩
theorem SA_old : oldS SA := oldS_al (by decide +kernel) (by decide) SM_old
theorem SB_old : oldS SB := by
  unfold SB X12_init_S
  exact oldS_upr (by decide) (oldS_al (by decide +kernel) (by decide) (oldS_upr (by decide) (oldS_al (by decide +kernel) (by decide) (oldS_upr (by decide) (oldS_al (by decide +kernel) (by decide) (oldS_upr (by decide) (oldS_al (by decide +kernel) (by decide) SA_old)))))))
set_option maxRecDepth 100000 in
theorem IB_11 : ∀ j, IB 11 j = 0 := fun _ => rfl
theorem IB_4 : ∀ j, j < 4 → IB 4 j = 1 := by decide +kernel
theorem IB_9 : ∀ j, j < 4 → IB 9 j = 0 := by decide +kernel
theorem IB_3 : IB 3 0 = 0 ∧ IB 3 1 = 0 ∧ IB 3 2 = 1 ∧ IB 15 0 = IB 125 4 := by decide +kernel
theorem IB_16 : ∀ j, j < 8 → (IB 16 j = nI 1 ∨ IB 16 j = nI 3 ∨ IB 16 j = nI 2 ∨ IB 16 j = nI 5) ∧ IB 16 j = IB 129 j := by decide +kernel
theorem IB_lat : LatOk IB 15 := fun j hj => by
  show ∃ l, 1 ≤ l ∧ l ≤ 9 ∧ IB 16 j = nI l
  rcases (IB_16 j hj).1 with e | e | e | e
  · exact ⟨1, by decide, by decide, e⟩
  · exact ⟨3, by decide, by decide, e⟩
  · exact ⟨2, by decide, by decide, e⟩
  · exact ⟨5, by decide, by decide, e⟩
theorem IB_same : latSame 125 IB := fun i i0 i8 => by
  obtain ⟨j, hj, rfl⟩ := eight_nat i0 i8
  rw [at_nat hj (by decide), show (nI j).toNatClampNeg = j from ofNat_nat (by omega)]
  exact (IB_16 j hj).2
theorem SB_Lw : Lw SB IB 126 0 127 0 :=
  ⟨SB_old, SB_o, fun j hj => absurd hj (by omega), fun j hj => absurd hj (by omega), by decide, by decide, IB_3.1, IB_3.2.1, fun j hj => absurd hj (by omega), fun j hj => absurd hj (by omega), fun j hj => absurd hj (by omega), fun j hj => absurd hj (by omega), fun j hj => absurd hj (by omega), fun j hj => absurd hj (by omega), fun j hj => absurd hj (by omega), fun b hb => IB_9 b hb, rfl⟩
set_option maxRecDepth 100000 in
set_option maxHeartbeats 1000000 in
theorem law_walk {X : im_X} {k : im_K} {Q : State → Prop} (hX : im_Ok X k mL_law 100) (hkL : kL k < 2 ^ 31) (hn : xn X = 0) (hz : xz X = 0) (hc : 400 ≤ (xR X).cells) (hs : 30000 ≤ (xR X).slots)
    (h351 : ∀ (S : im_S) (L : List (Option Value)) (Z : im_I), L.length = 11 → im_E X k Q 351 L [.int 1] S Z) : im_E X k Q 0 [some (.ref 0), none, none, none, none, none, none, none, none, none, none] [] S00 I00 := by
  have n0 : im_n S00 = 0 := rfl
  have z0 : im_z S00 = 0 := rfl
  refine r_new2 (pc := 0) hX 2 10 rfl rfl dL_law_0 cl_L_16 (by rw [hn, hz, n0, z0]; exact ⟨by omega, by omega⟩) ?_
  refine r_dup (pc := 3) hX dL_law_3 rfl ?_
  refine r_callI (Z := mX11_init) (S' := SM) (I' := IMb) (pc := 4) hX dL_law_4 ml_L_95 mX11_init_w (sp_X11_init (kk_new rfl) rfl) rfl rfl (Nat.le_of_ble_eq_true rfl) (by decide) rfl (Or.inr (by rw [hn, hz, SM_n, SM_z]; exact ⟨by omega, by omega⟩)) ?_
  refine r_astore_n (pc := 7) hX (L' := [_, _, _, _, _, _, _, _, _, _, _]) dL_law_7 rfl rfl (Nat.le_of_ble_eq_true rfl) ?_
  refine r_new2 (pc := 8) hX 125 10 (by rw [SM_n]) rfl dL_law_8 cl_L_10 (by rw [hn, hz, SM_n, SM_z]; exact ⟨by omega, by omega⟩) ?_
  refine r_dup (pc := 11) hX dL_law_11 rfl ?_
  refine r_callIN (Z := mX12_init) (S' := SB) (I' := IB) (pc := 12) hX dL_law_12 mn_L_96 mX12_init_w (sp_X12_init (S := SA) (kk_new (by rw [SM_n])) (by decide +kernel)) rfl rfl (Nat.le_of_ble_eq_true rfl) (by decide) rfl (Or.inr (by rw [hn, hz, SB_n, SB_z]; exact ⟨by omega, by omega⟩)) ?_
  refine r_astore_n (pc := 15) hX (L' := [_, _, _, _, _, _, _, _, _, _, _]) dL_law_15 rfl rfl (Nat.le_of_ble_eq_true rfl) ?_
  refine r_aload_n (pc := 16) hX dL_law_16 rfl ?_
  refine r_aload_n (pc := 17) hX dL_law_17 rfl ?_
  refine r_aload_n (pc := 18) hX dL_law_18 rfl ?_
  refine r_aload_n (pc := 19) hX dL_law_19 rfl ?_
  refine r_bipush (pc := 20) hX 15 dL_law_20 (by decide) ?_
  refine r_callS (Z := mL_cell) (pc := 22) hX dL_law_22 ml_L_25 mL_cell_w (sp_L_cell (by decide) hkL) rfl rfl (Nat.le_of_ble_eq_true rfl) (by decide) rfl (Or.inl rfl) ?_
  refine r_iconst (pc := 25) hX 4 dL_law_25 (by decide) ?_
  refine r_callS (Z := mL_below) (pc := 26) hX dL_law_26 ml_L_31 mL_below_w (sp_L_below (by decide)) rfl rfl (Nat.le_of_ble_eq_true rfl) (by decide) rfl (Or.inl rfl) ?_
  obtain ⟨pn, ep, hpn⟩ := below_nat (v := cell_ k 15) (n := 4) (m := 4) rfl (by decide) (by decide)
  rw [ep]
  obtain ⟨S', F, rn', nn', rs', ns', tm, hR, ⟨g1, g2⟩, ⟨g3, g4⟩, hW⟩ := sp_L_write (l := xl X) (k := k) hkL hpn SB_Lw rfl (fun j => by rw [IB_11]; decide) IB_4 IB_3.2.2.1 IB_3.2.2.2 IB_same IB_lat
  rw [SB_n] at g1 g3
  rw [SB_z] at g2 g4
  refine r_callS (Z := mL_write) (pc := 29) hX dL_law_29 ml_L_97 mL_write_w hW rfl rfl (Nat.le_of_ble_eq_true rfl) (by decide) rfl (Or.inr (by rw [hn, hz]; exact ⟨by omega, by omega⟩)) ?_
  refine r_if_ne (pc := 32) hX 37 dL_law_32 (by decide) (fun c32 => ?_) (fun c32 => absurd c32 (by decide))
  refine r_iconst (pc := 37) hX 0 dL_law_37 (by decide) ?_
  refine r_istore_n (pc := 38) hX (L' := [_, _, _, _, _, _, _, _, _, _, _]) dL_law_38 rfl rfl (Nat.le_of_ble_eq_true rfl) ?_
  obtain ⟨S2, F2, hR2, n2, z2, go⟩ := law_rounds hkL hR
  refine go X Q hX (by rw [hn, hz]; exact ⟨by omega, by omega⟩) ?_
  exact law_last hX hR2 fun L Z hL => h351 S2 L Z hL
