/-! the constructors, by program out of gen15.py -/
def X5_init_S (S : im_S) (a : Nat) : im_S := (im_upr (im_alS S (a + 1) 20 8) a 5 ((a + 1) + 1))
def X5_init_I (I : im_I) (a : Nat) : im_I := (im_up (im_up (im_up (im_up (im_up (im_up (im_up (im_up (im_alI (im_up (im_up (im_up (im_up (im_up I a 0 8) a 1 28) a 2 15) a 3 1) a 4 0) (a + 1)) (a + 1) 0 1) (a + 1) 1 1) (a + 1) 2 1) (a + 1) 3 3) (a + 1) 4 3) (a + 1) 5 2) (a + 1) 6 1) (a + 1) 7 5)
set_option maxRecDepth 100000 in
set_option maxHeartbeats 1000000 in
theorem sp_X5_init {l : Launch} {k : im_K} {S : im_S} {I : im_I} {a : Nat} (hk : im_k S a = (5, im_N 5)) (hn : im_n S + 1 = a) : im_Runs l k 1 mX5_init [.ref a] (S, I) (none) (X5_init_S S a, X5_init_I I a) := by
  refine im_run (by decide +kernel) ⟨(show im_n S ≤ im_n S + 1 by omega), (show im_z S ≤ im_z S + 8 by omega)⟩ (Nat.le_of_ble_eq_true rfl) ?_
  intro X hl hX hxn hxz hxc hxs
  subst hl
  change im_E X k _ 0 [some (.ref a)] [] S I
  refine r_aload_n (pc := 0) hX dX5_init_0 rfl ?_
  refine r_objInit (pc := 1) hX dX5_init_1 ml_X5_3 w_objInit (Nat.le_of_ble_eq_true rfl) (by decide) rfl ?_
  refine r_aload_n (pc := 4) hX dX5_init_4 rfl ?_
  refine r_bipush (pc := 5) hX 8 dX5_init_5 (by decide) ?_
  refine r_putiF (pc := 7) hX dX5_init_7 fl_X5_9 (by first | exact Or.inl rfl | exact Or.inr ⟨rfl, rfl, rfl⟩) (by decide) hk ?_
  refine r_aload_n (pc := 10) hX dX5_init_10 rfl ?_
  refine r_bipush (pc := 11) hX 28 dX5_init_11 (by decide) ?_
  refine r_putiF (pc := 13) hX dX5_init_13 fl_X5_15 (by first | exact Or.inl rfl | exact Or.inr ⟨rfl, rfl, rfl⟩) (by decide) hk ?_
  refine r_aload_n (pc := 16) hX dX5_init_16 rfl ?_
  refine r_bipush (pc := 17) hX 15 dX5_init_17 (by decide) ?_
  refine r_putiF (pc := 19) hX dX5_init_19 fl_X5_18 (by first | exact Or.inl rfl | exact Or.inr ⟨rfl, rfl, rfl⟩) (by decide) hk ?_
  refine r_aload_n (pc := 22) hX dX5_init_22 rfl ?_
  refine r_iconst (pc := 23) hX 1 dX5_init_23 (by decide) ?_
  refine r_putiF (pc := 24) hX dX5_init_24 fl_X5_21 (by first | exact Or.inl rfl | exact Or.inr ⟨rfl, rfl, rfl⟩) (by decide) hk ?_
  refine r_aload_n (pc := 27) hX dX5_init_27 rfl ?_
  refine r_iconst (pc := 28) hX 0 dX5_init_28 (by decide) ?_
  refine r_putiF (pc := 29) hX dX5_init_29 fl_X5_25 (by first | exact Or.inl rfl | exact Or.inr ⟨rfl, rfl, rfl⟩) (by decide) hk ?_
  refine r_aload_n (pc := 32) hX dX5_init_32 rfl ?_
  refine r_bipush (pc := 33) hX 8 dX5_init_33 (by decide) ?_
  refine r_newa2 (pc := 35) hX (a + 1) 8 (show im_n S + 0 + 2 = a + 1 by omega) dX5_init_35 (by decide) (by decide) (by decide) (by rw [hxn, hxz, hxc, hxs]; exact ⟨(show im_n S + 0 + 1 - im_n S ≤ (im_n S + 1) - im_n S by omega), (show im_z S + 0 + 8 - im_z S ≤ (im_z S + 8) - im_z S by omega)⟩) ?_
  refine r_dup (pc := 37) hX dX5_init_37 rfl ?_
  refine r_iconst (pc := 38) hX 0 dX5_init_38 (by decide) ?_
  refine r_iconst (pc := 39) hX 1 dX5_init_39 (by decide) ?_
  refine r_iast (pc := 40) hX dX5_init_40 (kk_new (show im_n S + 0 + 2 = a + 1 by omega)) (by rw [vp_in_iff]; decide) ?_
  refine r_dup (pc := 41) hX dX5_init_41 rfl ?_
  refine r_iconst (pc := 42) hX 1 dX5_init_42 (by decide) ?_
  refine r_iconst (pc := 43) hX 1 dX5_init_43 (by decide) ?_
  refine r_iast (pc := 44) hX dX5_init_44 (kk_new (show im_n S + 0 + 2 = a + 1 by omega)) (by rw [vp_in_iff]; decide) ?_
  refine r_dup (pc := 45) hX dX5_init_45 rfl ?_
  refine r_iconst (pc := 46) hX 2 dX5_init_46 (by decide) ?_
  refine r_iconst (pc := 47) hX 1 dX5_init_47 (by decide) ?_
  refine r_iast (pc := 48) hX dX5_init_48 (kk_new (show im_n S + 0 + 2 = a + 1 by omega)) (by rw [vp_in_iff]; decide) ?_
  refine r_dup (pc := 49) hX dX5_init_49 rfl ?_
  refine r_iconst (pc := 50) hX 3 dX5_init_50 (by decide) ?_
  refine r_iconst (pc := 51) hX 3 dX5_init_51 (by decide) ?_
  refine r_iast (pc := 52) hX dX5_init_52 (kk_new (show im_n S + 0 + 2 = a + 1 by omega)) (by rw [vp_in_iff]; decide) ?_
  refine r_dup (pc := 53) hX dX5_init_53 rfl ?_
  refine r_iconst (pc := 54) hX 4 dX5_init_54 (by decide) ?_
  refine r_iconst (pc := 55) hX 3 dX5_init_55 (by decide) ?_
  refine r_iast (pc := 56) hX dX5_init_56 (kk_new (show im_n S + 0 + 2 = a + 1 by omega)) (by rw [vp_in_iff]; decide) ?_
  refine r_dup (pc := 57) hX dX5_init_57 rfl ?_
  refine r_iconst (pc := 58) hX 5 dX5_init_58 (by decide) ?_
  refine r_iconst (pc := 59) hX 2 dX5_init_59 (by decide) ?_
  refine r_iast (pc := 60) hX dX5_init_60 (kk_new (show im_n S + 0 + 2 = a + 1 by omega)) (by rw [vp_in_iff]; decide) ?_
  refine r_dup (pc := 61) hX dX5_init_61 rfl ?_
  refine r_bipush (pc := 62) hX 6 dX5_init_62 (by decide) ?_
  refine r_iconst (pc := 64) hX 1 dX5_init_64 (by decide) ?_
  refine r_iast (pc := 65) hX dX5_init_65 (kk_new (show im_n S + 0 + 2 = a + 1 by omega)) (by rw [vp_in_iff]; decide) ?_
  refine r_dup (pc := 66) hX dX5_init_66 rfl ?_
  refine r_bipush (pc := 67) hX 7 dX5_init_67 (by decide) ?_
  refine r_iconst (pc := 69) hX 5 dX5_init_69 (by decide) ?_
  refine r_iast (pc := 70) hX dX5_init_70 (kk_new (show im_n S + 0 + 2 = a + 1 by omega)) (by rw [vp_in_iff]; decide) ?_
  refine r_putr (pc := 71) hX dX5_init_71 fl_X5_28 (by first | exact Or.inl rfl | exact Or.inr ⟨rfl, rfl, rfl⟩) rfl (kk_al (show im_n S + 0 + 2 = a + 1 by omega) hk (by decide)) ?_
  exact r_return (pc := 74) hX dX5_init_74 rfl rfl rfl
theorem X5_init_k {S : im_S} {a x : Nat} {v : Nat × Nat} (hn : im_n S + 1 = a) (h : im_k S x = v) (hv : v.1 < 99) : im_k (X5_init_S S a) x = v := by
  unfold X5_init_S
  exact (kk_al (show im_n S + 0 + 2 = a + 1 by omega) h hv)
theorem X5_init_r {S : im_S} {a x j v : Nat} (hx : x < a) (h : im_r S x j = v) : im_r (X5_init_S S a) x j = v := by
  unfold X5_init_S
  exact (rr_upr (by omega) (rr_al (by omega) h))
def X8_init_S (S : im_S) (a : Nat) : im_S := (im_upr (im_alS (im_upr (im_alS (im_upr (im_alS (im_upr (im_alS (im_upr (im_alS (im_upr (im_alS (im_upr (im_alS (im_upr (im_alS S (a + 1) 20 4) a 3 ((a + 1) + 1)) (a + 2) 20 80) a 4 ((a + 2) + 1)) (a + 3) 20 80) a 5 ((a + 3) + 1)) (a + 4) 20 80) a 6 ((a + 4) + 1)) (a + 5) 20 80) a 7 ((a + 5) + 1)) (a + 6) 20 4) a 8 ((a + 6) + 1)) (a + 7) 20 96) a 9 ((a + 7) + 1)) (a + 8) 20 96) a 10 ((a + 8) + 1))
def X8_init_I (I : im_I) (a : Nat) : im_I := (im_alI (im_alI (im_alI (im_alI (im_alI (im_alI (im_alI (im_up (im_up (im_up (im_up (im_alI (im_up I a 2 1) (a + 1)) (a + 1) 0 1) (a + 1) 1 1) (a + 1) 2 1) (a + 1) 3 1) (a + 2)) (a + 3)) (a + 4)) (a + 5)) (a + 6)) (a + 7)) (a + 8))
set_option maxRecDepth 100000 in
set_option maxHeartbeats 1000000 in
theorem sp_X8_init {l : Launch} {k : im_K} {S : im_S} {I : im_I} {a : Nat} (hk : im_k S a = (8, im_N 8)) (hn : im_n S + 1 = a) : im_Runs l k 1 mX8_init [.ref a] (S, I) (none) (X8_init_S S a, X8_init_I I a) := by
  refine im_run (by decide +kernel) ⟨(show im_n S ≤ im_n S + 8 by omega), (show im_z S ≤ im_z S + 520 by omega)⟩ (Nat.le_of_ble_eq_true rfl) ?_
  intro X hl hX hxn hxz hxc hxs
  subst hl
  change im_E X k _ 0 [some (.ref a)] [] S I
  refine r_aload_n (pc := 0) hX dX8_init_0 rfl ?_
  refine r_objInit (pc := 1) hX dX8_init_1 ml_X8_3 w_objInit (Nat.le_of_ble_eq_true rfl) (by decide) rfl ?_
  refine r_aload_n (pc := 4) hX dX8_init_4 rfl ?_
  refine r_iconst (pc := 5) hX 1 dX8_init_5 (by decide) ?_
  refine r_putiF (pc := 6) hX dX8_init_6 fl_X8_9 (by first | exact Or.inl rfl | exact Or.inr ⟨rfl, rfl, rfl⟩) (by decide) hk ?_
  refine r_aload_n (pc := 9) hX dX8_init_9 rfl ?_
  refine r_iconst (pc := 10) hX 4 dX8_init_10 (by decide) ?_
  refine r_newa2 (pc := 11) hX (a + 1) 4 (show im_n S + 0 + 2 = a + 1 by omega) dX8_init_11 (by decide) (by decide) (by decide) (by rw [hxn, hxz, hxc, hxs]; exact ⟨(show im_n S + 0 + 1 - im_n S ≤ (im_n S + 8) - im_n S by omega), (show im_z S + 0 + 4 - im_z S ≤ (im_z S + 520) - im_z S by omega)⟩) ?_
  refine r_dup (pc := 13) hX dX8_init_13 rfl ?_
  refine r_iconst (pc := 14) hX 0 dX8_init_14 (by decide) ?_
  refine r_iconst (pc := 15) hX 1 dX8_init_15 (by decide) ?_
  refine r_iast (pc := 16) hX dX8_init_16 (kk_new (show im_n S + 0 + 2 = a + 1 by omega)) (by rw [vp_in_iff]; decide) ?_
  refine r_dup (pc := 17) hX dX8_init_17 rfl ?_
  refine r_iconst (pc := 18) hX 1 dX8_init_18 (by decide) ?_
  refine r_iconst (pc := 19) hX 1 dX8_init_19 (by decide) ?_
  refine r_iast (pc := 20) hX dX8_init_20 (kk_new (show im_n S + 0 + 2 = a + 1 by omega)) (by rw [vp_in_iff]; decide) ?_
  refine r_dup (pc := 21) hX dX8_init_21 rfl ?_
  refine r_iconst (pc := 22) hX 2 dX8_init_22 (by decide) ?_
  refine r_iconst (pc := 23) hX 1 dX8_init_23 (by decide) ?_
  refine r_iast (pc := 24) hX dX8_init_24 (kk_new (show im_n S + 0 + 2 = a + 1 by omega)) (by rw [vp_in_iff]; decide) ?_
  refine r_dup (pc := 25) hX dX8_init_25 rfl ?_
  refine r_iconst (pc := 26) hX 3 dX8_init_26 (by decide) ?_
  refine r_iconst (pc := 27) hX 1 dX8_init_27 (by decide) ?_
  refine r_iast (pc := 28) hX dX8_init_28 (kk_new (show im_n S + 0 + 2 = a + 1 by omega)) (by rw [vp_in_iff]; decide) ?_
  refine r_putr (pc := 29) hX dX8_init_29 fl_X8_15 (by first | exact Or.inl rfl | exact Or.inr ⟨rfl, rfl, rfl⟩) rfl (kk_al (show im_n S + 0 + 2 = a + 1 by omega) hk (by decide)) ?_
  refine r_aload_n (pc := 32) hX dX8_init_32 rfl ?_
  refine r_bipush (pc := 33) hX 80 dX8_init_33 (by decide) ?_
  refine r_newa2 (pc := 35) hX (a + 2) 80 (show im_n S + 1 + 2 = a + 2 by omega) dX8_init_35 (by decide) (by decide) (by decide) (by rw [hxn, hxz, hxc, hxs]; exact ⟨(show im_n S + 1 + 1 - im_n S ≤ (im_n S + 8) - im_n S by omega), (show im_z S + 4 + 80 - im_z S ≤ (im_z S + 520) - im_z S by omega)⟩) ?_
  refine r_putr (pc := 37) hX dX8_init_37 fl_X8_19 (by first | exact Or.inl rfl | exact Or.inr ⟨rfl, rfl, rfl⟩) rfl (kk_al (show im_n S + 1 + 2 = a + 2 by omega) (kk_al (show im_n S + 0 + 2 = a + 1 by omega) hk (by decide)) (by decide)) ?_
  refine r_aload_n (pc := 40) hX dX8_init_40 rfl ?_
  refine r_bipush (pc := 41) hX 80 dX8_init_41 (by decide) ?_
  refine r_newa2 (pc := 43) hX (a + 3) 80 (show im_n S + 2 + 2 = a + 3 by omega) dX8_init_43 (by decide) (by decide) (by decide) (by rw [hxn, hxz, hxc, hxs]; exact ⟨(show im_n S + 2 + 1 - im_n S ≤ (im_n S + 8) - im_n S by omega), (show im_z S + 84 + 80 - im_z S ≤ (im_z S + 520) - im_z S by omega)⟩) ?_
  refine r_putr (pc := 45) hX dX8_init_45 fl_X8_22 (by first | exact Or.inl rfl | exact Or.inr ⟨rfl, rfl, rfl⟩) rfl (kk_al (show im_n S + 2 + 2 = a + 3 by omega) (kk_al (show im_n S + 1 + 2 = a + 2 by omega) (kk_al (show im_n S + 0 + 2 = a + 1 by omega) hk (by decide)) (by decide)) (by decide)) ?_
  refine r_aload_n (pc := 48) hX dX8_init_48 rfl ?_
  refine r_bipush (pc := 49) hX 80 dX8_init_49 (by decide) ?_
  refine r_newa2 (pc := 51) hX (a + 4) 80 (show im_n S + 3 + 2 = a + 4 by omega) dX8_init_51 (by decide) (by decide) (by decide) (by rw [hxn, hxz, hxc, hxs]; exact ⟨(show im_n S + 3 + 1 - im_n S ≤ (im_n S + 8) - im_n S by omega), (show im_z S + 164 + 80 - im_z S ≤ (im_z S + 520) - im_z S by omega)⟩) ?_
  refine r_putr (pc := 53) hX dX8_init_53 fl_X8_25 (by first | exact Or.inl rfl | exact Or.inr ⟨rfl, rfl, rfl⟩) rfl (kk_al (show im_n S + 3 + 2 = a + 4 by omega) (kk_al (show im_n S + 2 + 2 = a + 3 by omega) (kk_al (show im_n S + 1 + 2 = a + 2 by omega) (kk_al (show im_n S + 0 + 2 = a + 1 by omega) hk (by decide)) (by decide)) (by decide)) (by decide)) ?_
  refine r_aload_n (pc := 56) hX dX8_init_56 rfl ?_
  refine r_bipush (pc := 57) hX 80 dX8_init_57 (by decide) ?_
  refine r_newa2 (pc := 59) hX (a + 5) 80 (show im_n S + 4 + 2 = a + 5 by omega) dX8_init_59 (by decide) (by decide) (by decide) (by rw [hxn, hxz, hxc, hxs]; exact ⟨(show im_n S + 4 + 1 - im_n S ≤ (im_n S + 8) - im_n S by omega), (show im_z S + 244 + 80 - im_z S ≤ (im_z S + 520) - im_z S by omega)⟩) ?_
  refine r_putr (pc := 61) hX dX8_init_61 fl_X8_28 (by first | exact Or.inl rfl | exact Or.inr ⟨rfl, rfl, rfl⟩) rfl (kk_al (show im_n S + 4 + 2 = a + 5 by omega) (kk_al (show im_n S + 3 + 2 = a + 4 by omega) (kk_al (show im_n S + 2 + 2 = a + 3 by omega) (kk_al (show im_n S + 1 + 2 = a + 2 by omega) (kk_al (show im_n S + 0 + 2 = a + 1 by omega) hk (by decide)) (by decide)) (by decide)) (by decide)) (by decide)) ?_
  refine r_aload_n (pc := 64) hX dX8_init_64 rfl ?_
  refine r_iconst (pc := 65) hX 4 dX8_init_65 (by decide) ?_
  refine r_newa2 (pc := 66) hX (a + 6) 4 (show im_n S + 5 + 2 = a + 6 by omega) dX8_init_66 (by decide) (by decide) (by decide) (by rw [hxn, hxz, hxc, hxs]; exact ⟨(show im_n S + 5 + 1 - im_n S ≤ (im_n S + 8) - im_n S by omega), (show im_z S + 324 + 4 - im_z S ≤ (im_z S + 520) - im_z S by omega)⟩) ?_
  refine r_putr (pc := 68) hX dX8_init_68 fl_X8_31 (by first | exact Or.inl rfl | exact Or.inr ⟨rfl, rfl, rfl⟩) rfl (kk_al (show im_n S + 5 + 2 = a + 6 by omega) (kk_al (show im_n S + 4 + 2 = a + 5 by omega) (kk_al (show im_n S + 3 + 2 = a + 4 by omega) (kk_al (show im_n S + 2 + 2 = a + 3 by omega) (kk_al (show im_n S + 1 + 2 = a + 2 by omega) (kk_al (show im_n S + 0 + 2 = a + 1 by omega) hk (by decide)) (by decide)) (by decide)) (by decide)) (by decide)) (by decide)) ?_
  refine r_aload_n (pc := 71) hX dX8_init_71 rfl ?_
  refine r_bipush (pc := 72) hX 96 dX8_init_72 (by decide) ?_
  refine r_newa2 (pc := 74) hX (a + 7) 96 (show im_n S + 6 + 2 = a + 7 by omega) dX8_init_74 (by decide) (by decide) (by decide) (by rw [hxn, hxz, hxc, hxs]; exact ⟨(show im_n S + 6 + 1 - im_n S ≤ (im_n S + 8) - im_n S by omega), (show im_z S + 328 + 96 - im_z S ≤ (im_z S + 520) - im_z S by omega)⟩) ?_
  refine r_putr (pc := 76) hX dX8_init_76 fl_X8_34 (by first | exact Or.inl rfl | exact Or.inr ⟨rfl, rfl, rfl⟩) rfl (kk_al (show im_n S + 6 + 2 = a + 7 by omega) (kk_al (show im_n S + 5 + 2 = a + 6 by omega) (kk_al (show im_n S + 4 + 2 = a + 5 by omega) (kk_al (show im_n S + 3 + 2 = a + 4 by omega) (kk_al (show im_n S + 2 + 2 = a + 3 by omega) (kk_al (show im_n S + 1 + 2 = a + 2 by omega) (kk_al (show im_n S + 0 + 2 = a + 1 by omega) hk (by decide)) (by decide)) (by decide)) (by decide)) (by decide)) (by decide)) (by decide)) ?_
  refine r_aload_n (pc := 79) hX dX8_init_79 rfl ?_
  refine r_bipush (pc := 80) hX 96 dX8_init_80 (by decide) ?_
  refine r_newa2 (pc := 82) hX (a + 8) 96 (show im_n S + 7 + 2 = a + 8 by omega) dX8_init_82 (by decide) (by decide) (by decide) (by rw [hxn, hxz, hxc, hxs]; exact ⟨(show im_n S + 7 + 1 - im_n S ≤ (im_n S + 8) - im_n S by omega), (show im_z S + 424 + 96 - im_z S ≤ (im_z S + 520) - im_z S by omega)⟩) ?_
  refine r_putr (pc := 84) hX dX8_init_84 fl_X8_37 (by first | exact Or.inl rfl | exact Or.inr ⟨rfl, rfl, rfl⟩) rfl (kk_al (show im_n S + 7 + 2 = a + 8 by omega) (kk_al (show im_n S + 6 + 2 = a + 7 by omega) (kk_al (show im_n S + 5 + 2 = a + 6 by omega) (kk_al (show im_n S + 4 + 2 = a + 5 by omega) (kk_al (show im_n S + 3 + 2 = a + 4 by omega) (kk_al (show im_n S + 2 + 2 = a + 3 by omega) (kk_al (show im_n S + 1 + 2 = a + 2 by omega) (kk_al (show im_n S + 0 + 2 = a + 1 by omega) hk (by decide)) (by decide)) (by decide)) (by decide)) (by decide)) (by decide)) (by decide)) (by decide)) ?_
  exact r_return (pc := 87) hX dX8_init_87 rfl rfl rfl
theorem X8_init_k {S : im_S} {a x : Nat} {v : Nat × Nat} (hn : im_n S + 1 = a) (h : im_k S x = v) (hv : v.1 < 99) : im_k (X8_init_S S a) x = v := by
  unfold X8_init_S
  exact (kk_al (show im_n S + 7 + 2 = a + 8 by omega) (kk_al (show im_n S + 6 + 2 = a + 7 by omega) (kk_al (show im_n S + 5 + 2 = a + 6 by omega) (kk_al (show im_n S + 4 + 2 = a + 5 by omega) (kk_al (show im_n S + 3 + 2 = a + 4 by omega) (kk_al (show im_n S + 2 + 2 = a + 3 by omega) (kk_al (show im_n S + 1 + 2 = a + 2 by omega) (kk_al (show im_n S + 0 + 2 = a + 1 by omega) h hv) hv) hv) hv) hv) hv) hv) hv)
theorem X8_init_r {S : im_S} {a x j v : Nat} (hx : x < a) (h : im_r S x j = v) : im_r (X8_init_S S a) x j = v := by
  unfold X8_init_S
  exact (rr_upr (by omega) (rr_al (by omega) (rr_upr (by omega) (rr_al (by omega) (rr_upr (by omega) (rr_al (by omega) (rr_upr (by omega) (rr_al (by omega) (rr_upr (by omega) (rr_al (by omega) (rr_upr (by omega) (rr_al (by omega) (rr_upr (by omega) (rr_al (by omega) (rr_upr (by omega) (rr_al (by omega) h))))))))))))))))
def X6_init_S (S : im_S) (a : Nat) (p : Nat) : im_S := (im_upr (im_alS (im_upr (im_alS (im_upr S a 2 (p + 1)) (a + 1) 20 8) a 0 ((a + 1) + 1)) (a + 2) 20 80) a 1 ((a + 2) + 1))
def X6_init_I (I : im_I) (a : Nat) : im_I := (im_alI (im_alI I (a + 1)) (a + 2))
set_option maxRecDepth 100000 in
set_option maxHeartbeats 1000000 in
theorem sp_X6_init {l : Launch} {k : im_K} {S : im_S} {I : im_I} {a : Nat} {p : Nat} (hk : im_k S a = (6, im_N 6)) (hn : im_n S + 1 = a) : im_Runs l k 1 mX6_init [.ref a, .ref p] (S, I) (none) (X6_init_S S a p, X6_init_I I a) := by
  refine im_run (by decide +kernel) ⟨(show im_n S ≤ im_n S + 2 by omega), (show im_z S ≤ im_z S + 88 by omega)⟩ (Nat.le_of_ble_eq_true rfl) ?_
  intro X hl hX hxn hxz hxc hxs
  subst hl
  change im_E X k _ 0 [some (.ref a), some (.ref p)] [] S I
  refine r_aload_n (pc := 0) hX dX6_init_0 rfl ?_
  refine r_objInit (pc := 1) hX dX6_init_1 ml_X6_3 w_objInit (Nat.le_of_ble_eq_true rfl) (by decide) rfl ?_
  refine r_aload_n (pc := 4) hX dX6_init_4 rfl ?_
  refine r_aload_n (pc := 5) hX dX6_init_5 rfl ?_
  refine r_putr (pc := 6) hX dX6_init_6 fl_X6_9 (by first | exact Or.inl rfl | exact Or.inr ⟨rfl, rfl, rfl⟩) rfl hk ?_
  refine r_aload_n (pc := 9) hX dX6_init_9 rfl ?_
  refine r_bipush (pc := 10) hX 8 dX6_init_10 (by decide) ?_
  refine r_newa2 (pc := 12) hX (a + 1) 8 (show im_n S + 0 + 2 = a + 1 by omega) dX6_init_12 (by decide) (by decide) (by decide) (by rw [hxn, hxz, hxc, hxs]; exact ⟨(show im_n S + 0 + 1 - im_n S ≤ (im_n S + 2) - im_n S by omega), (show im_z S + 0 + 8 - im_z S ≤ (im_z S + 88) - im_z S by omega)⟩) ?_
  refine r_putr (pc := 14) hX dX6_init_14 fl_X6_15 (by first | exact Or.inl rfl | exact Or.inr ⟨rfl, rfl, rfl⟩) rfl (kk_al (show im_n S + 0 + 2 = a + 1 by omega) hk (by decide)) ?_
  refine r_aload_n (pc := 17) hX dX6_init_17 rfl ?_
  refine r_bipush (pc := 18) hX 80 dX6_init_18 (by decide) ?_
  refine r_newa2 (pc := 20) hX (a + 2) 80 (show im_n S + 1 + 2 = a + 2 by omega) dX6_init_20 (by decide) (by decide) (by decide) (by rw [hxn, hxz, hxc, hxs]; exact ⟨(show im_n S + 1 + 1 - im_n S ≤ (im_n S + 2) - im_n S by omega), (show im_z S + 8 + 80 - im_z S ≤ (im_z S + 88) - im_z S by omega)⟩) ?_
  refine r_putr (pc := 22) hX dX6_init_22 fl_X6_19 (by first | exact Or.inl rfl | exact Or.inr ⟨rfl, rfl, rfl⟩) rfl (kk_al (show im_n S + 1 + 2 = a + 2 by omega) (kk_al (show im_n S + 0 + 2 = a + 1 by omega) hk (by decide)) (by decide)) ?_
  exact r_return (pc := 25) hX dX6_init_25 rfl rfl rfl
theorem X6_init_k {S : im_S} {a x : Nat} {p : Nat} {v : Nat × Nat} (hn : im_n S + 1 = a) (h : im_k S x = v) (hv : v.1 < 99) : im_k (X6_init_S S a p) x = v := by
  unfold X6_init_S
  exact (kk_al (show im_n S + 1 + 2 = a + 2 by omega) (kk_al (show im_n S + 0 + 2 = a + 1 by omega) h hv) hv)
theorem X6_init_r {S : im_S} {a x j v : Nat} {p : Nat} (hx : x < a) (h : im_r S x j = v) : im_r (X6_init_S S a p) x j = v := by
  unfold X6_init_S
  exact (rr_upr (by omega) (rr_al (by omega) (rr_upr (by omega) (rr_al (by omega) (rr_upr (by omega) h)))))
def X3_init_S (S : im_S) (a : Nat) : im_S := (im_upr (im_alS (im_upr (im_alS (im_upr (im_alS (im_upr (im_alS (im_upr (im_alS (im_upr (im_alS S (a + 1) 20 88) a 1 ((a + 1) + 1)) (a + 2) 20 88) a 2 ((a + 2) + 1)) (a + 3) 20 264) a 3 ((a + 3) + 1)) (a + 4) 20 88) a 4 ((a + 4) + 1)) (a + 5) 20 88) a 5 ((a + 5) + 1)) (a + 6) 20 88) a 6 ((a + 6) + 1))
def X3_init_I (I : im_I) (a : Nat) : im_I := (im_alI (im_alI (im_alI (im_alI (im_alI (im_alI I (a + 1)) (a + 2)) (a + 3)) (a + 4)) (a + 5)) (a + 6))
set_option maxRecDepth 100000 in
set_option maxHeartbeats 1000000 in
theorem sp_X3_init {l : Launch} {k : im_K} {S : im_S} {I : im_I} {a : Nat} (hk : im_k S a = (3, im_N 3)) (hn : im_n S + 1 = a) : im_Runs l k 1 mX3_init [.ref a] (S, I) (none) (X3_init_S S a, X3_init_I I a) := by
  refine im_run (by decide +kernel) ⟨(show im_n S ≤ im_n S + 6 by omega), (show im_z S ≤ im_z S + 704 by omega)⟩ (Nat.le_of_ble_eq_true rfl) ?_
  intro X hl hX hxn hxz hxc hxs
  subst hl
  change im_E X k _ 0 [some (.ref a)] [] S I
  refine r_aload_n (pc := 0) hX dX3_init_0 rfl ?_
  refine r_objInit (pc := 1) hX dX3_init_1 ml_X3_3 w_objInit (Nat.le_of_ble_eq_true rfl) (by decide) rfl ?_
  refine r_aload_n (pc := 4) hX dX3_init_4 rfl ?_
  refine r_bipush (pc := 5) hX 88 dX3_init_5 (by decide) ?_
  refine r_newa2 (pc := 7) hX (a + 1) 88 (show im_n S + 0 + 2 = a + 1 by omega) dX3_init_7 (by decide) (by decide) (by decide) (by rw [hxn, hxz, hxc, hxs]; exact ⟨(show im_n S + 0 + 1 - im_n S ≤ (im_n S + 6) - im_n S by omega), (show im_z S + 0 + 88 - im_z S ≤ (im_z S + 704) - im_z S by omega)⟩) ?_
  refine r_putr (pc := 9) hX dX3_init_9 fl_X3_9 (by first | exact Or.inl rfl | exact Or.inr ⟨rfl, rfl, rfl⟩) rfl (kk_al (show im_n S + 0 + 2 = a + 1 by omega) hk (by decide)) ?_
  refine r_aload_n (pc := 12) hX dX3_init_12 rfl ?_
  refine r_bipush (pc := 13) hX 88 dX3_init_13 (by decide) ?_
  refine r_newa2 (pc := 15) hX (a + 2) 88 (show im_n S + 1 + 2 = a + 2 by omega) dX3_init_15 (by decide) (by decide) (by decide) (by rw [hxn, hxz, hxc, hxs]; exact ⟨(show im_n S + 1 + 1 - im_n S ≤ (im_n S + 6) - im_n S by omega), (show im_z S + 88 + 88 - im_z S ≤ (im_z S + 704) - im_z S by omega)⟩) ?_
  refine r_putr (pc := 17) hX dX3_init_17 fl_X3_15 (by first | exact Or.inl rfl | exact Or.inr ⟨rfl, rfl, rfl⟩) rfl (kk_al (show im_n S + 1 + 2 = a + 2 by omega) (kk_al (show im_n S + 0 + 2 = a + 1 by omega) hk (by decide)) (by decide)) ?_
  refine r_aload_n (pc := 20) hX dX3_init_20 rfl ?_
  refine r_sipush (pc := 21) hX 264 dX3_init_21 (by decide) ?_
  refine r_newa2 (pc := 24) hX (a + 3) 264 (show im_n S + 2 + 2 = a + 3 by omega) dX3_init_24 (by decide) (by decide) (by decide) (by rw [hxn, hxz, hxc, hxs]; exact ⟨(show im_n S + 2 + 1 - im_n S ≤ (im_n S + 6) - im_n S by omega), (show im_z S + 176 + 264 - im_z S ≤ (im_z S + 704) - im_z S by omega)⟩) ?_
  refine r_putr (pc := 26) hX dX3_init_26 fl_X3_18 (by first | exact Or.inl rfl | exact Or.inr ⟨rfl, rfl, rfl⟩) rfl (kk_al (show im_n S + 2 + 2 = a + 3 by omega) (kk_al (show im_n S + 1 + 2 = a + 2 by omega) (kk_al (show im_n S + 0 + 2 = a + 1 by omega) hk (by decide)) (by decide)) (by decide)) ?_
  refine r_aload_n (pc := 29) hX dX3_init_29 rfl ?_
  refine r_bipush (pc := 30) hX 88 dX3_init_30 (by decide) ?_
  refine r_newa2 (pc := 32) hX (a + 4) 88 (show im_n S + 3 + 2 = a + 4 by omega) dX3_init_32 (by decide) (by decide) (by decide) (by rw [hxn, hxz, hxc, hxs]; exact ⟨(show im_n S + 3 + 1 - im_n S ≤ (im_n S + 6) - im_n S by omega), (show im_z S + 440 + 88 - im_z S ≤ (im_z S + 704) - im_z S by omega)⟩) ?_
  refine r_putr (pc := 34) hX dX3_init_34 fl_X3_21 (by first | exact Or.inl rfl | exact Or.inr ⟨rfl, rfl, rfl⟩) rfl (kk_al (show im_n S + 3 + 2 = a + 4 by omega) (kk_al (show im_n S + 2 + 2 = a + 3 by omega) (kk_al (show im_n S + 1 + 2 = a + 2 by omega) (kk_al (show im_n S + 0 + 2 = a + 1 by omega) hk (by decide)) (by decide)) (by decide)) (by decide)) ?_
  refine r_aload_n (pc := 37) hX dX3_init_37 rfl ?_
  refine r_bipush (pc := 38) hX 88 dX3_init_38 (by decide) ?_
  refine r_newa2 (pc := 40) hX (a + 5) 88 (show im_n S + 4 + 2 = a + 5 by omega) dX3_init_40 (by decide) (by decide) (by decide) (by rw [hxn, hxz, hxc, hxs]; exact ⟨(show im_n S + 4 + 1 - im_n S ≤ (im_n S + 6) - im_n S by omega), (show im_z S + 528 + 88 - im_z S ≤ (im_z S + 704) - im_z S by omega)⟩) ?_
  refine r_putr (pc := 42) hX dX3_init_42 fl_X3_24 (by first | exact Or.inl rfl | exact Or.inr ⟨rfl, rfl, rfl⟩) rfl (kk_al (show im_n S + 4 + 2 = a + 5 by omega) (kk_al (show im_n S + 3 + 2 = a + 4 by omega) (kk_al (show im_n S + 2 + 2 = a + 3 by omega) (kk_al (show im_n S + 1 + 2 = a + 2 by omega) (kk_al (show im_n S + 0 + 2 = a + 1 by omega) hk (by decide)) (by decide)) (by decide)) (by decide)) (by decide)) ?_
  refine r_aload_n (pc := 45) hX dX3_init_45 rfl ?_
  refine r_bipush (pc := 46) hX 88 dX3_init_46 (by decide) ?_
  refine r_newa2 (pc := 48) hX (a + 6) 88 (show im_n S + 5 + 2 = a + 6 by omega) dX3_init_48 (by decide) (by decide) (by decide) (by rw [hxn, hxz, hxc, hxs]; exact ⟨(show im_n S + 5 + 1 - im_n S ≤ (im_n S + 6) - im_n S by omega), (show im_z S + 616 + 88 - im_z S ≤ (im_z S + 704) - im_z S by omega)⟩) ?_
  refine r_putr (pc := 50) hX dX3_init_50 fl_X3_27 (by first | exact Or.inl rfl | exact Or.inr ⟨rfl, rfl, rfl⟩) rfl (kk_al (show im_n S + 5 + 2 = a + 6 by omega) (kk_al (show im_n S + 4 + 2 = a + 5 by omega) (kk_al (show im_n S + 3 + 2 = a + 4 by omega) (kk_al (show im_n S + 2 + 2 = a + 3 by omega) (kk_al (show im_n S + 1 + 2 = a + 2 by omega) (kk_al (show im_n S + 0 + 2 = a + 1 by omega) hk (by decide)) (by decide)) (by decide)) (by decide)) (by decide)) (by decide)) ?_
  exact r_return (pc := 53) hX dX3_init_53 rfl rfl rfl
theorem X3_init_k {S : im_S} {a x : Nat} {v : Nat × Nat} (hn : im_n S + 1 = a) (h : im_k S x = v) (hv : v.1 < 99) : im_k (X3_init_S S a) x = v := by
  unfold X3_init_S
  exact (kk_al (show im_n S + 5 + 2 = a + 6 by omega) (kk_al (show im_n S + 4 + 2 = a + 5 by omega) (kk_al (show im_n S + 3 + 2 = a + 4 by omega) (kk_al (show im_n S + 2 + 2 = a + 3 by omega) (kk_al (show im_n S + 1 + 2 = a + 2 by omega) (kk_al (show im_n S + 0 + 2 = a + 1 by omega) h hv) hv) hv) hv) hv) hv)
theorem X3_init_r {S : im_S} {a x j v : Nat} (hx : x < a) (h : im_r S x j = v) : im_r (X3_init_S S a) x j = v := by
  unfold X3_init_S
  exact (rr_upr (by omega) (rr_al (by omega) (rr_upr (by omega) (rr_al (by omega) (rr_upr (by omega) (rr_al (by omega) (rr_upr (by omega) (rr_al (by omega) (rr_upr (by omega) (rr_al (by omega) (rr_upr (by omega) (rr_al (by omega) h))))))))))))
def X4_init_S (S : im_S) (a : Nat) (p : Nat) : im_S := (im_upr (im_alS (im_upr (im_alS (im_upr (im_alS (im_upr (im_alS (im_upr (im_alS (im_upr (im_alS (im_upr (im_alS (im_upr (im_alS (im_upr S a 3 (p + 1)) (a + 1) 20 88) a 4 ((a + 1) + 1)) (a + 2) 20 88) a 5 ((a + 2) + 1)) (a + 3) 20 88) a 6 ((a + 3) + 1)) (a + 4) 20 88) a 7 ((a + 4) + 1)) (a + 5) 20 88) a 8 ((a + 5) + 1)) (a + 6) 20 88) a 9 ((a + 6) + 1)) (a + 7) 20 88) a 10 ((a + 7) + 1)) (a + 8) 20 88) a 11 ((a + 8) + 1))
def X4_init_I (I : im_I) (a : Nat) : im_I := (im_alI (im_alI (im_alI (im_alI (im_alI (im_alI (im_alI (im_alI I (a + 1)) (a + 2)) (a + 3)) (a + 4)) (a + 5)) (a + 6)) (a + 7)) (a + 8))
set_option maxRecDepth 100000 in
set_option maxHeartbeats 1000000 in
theorem sp_X4_init {l : Launch} {k : im_K} {S : im_S} {I : im_I} {a : Nat} {p : Nat} (hk : im_k S a = (4, im_N 4)) (hn : im_n S + 1 = a) : im_Runs l k 1 mX4_init [.ref a, .ref p] (S, I) (none) (X4_init_S S a p, X4_init_I I a) := by
  refine im_run (by decide +kernel) ⟨(show im_n S ≤ im_n S + 8 by omega), (show im_z S ≤ im_z S + 704 by omega)⟩ (Nat.le_of_ble_eq_true rfl) ?_
  intro X hl hX hxn hxz hxc hxs
  subst hl
  change im_E X k _ 0 [some (.ref a), some (.ref p)] [] S I
  refine r_aload_n (pc := 0) hX dX4_init_0 rfl ?_
  refine r_objInit (pc := 1) hX dX4_init_1 ml_X4_3 w_objInit (Nat.le_of_ble_eq_true rfl) (by decide) rfl ?_
  refine r_aload_n (pc := 4) hX dX4_init_4 rfl ?_
  refine r_aload_n (pc := 5) hX dX4_init_5 rfl ?_
  refine r_putr (pc := 6) hX dX4_init_6 fl_X4_9 (by first | exact Or.inl rfl | exact Or.inr ⟨rfl, rfl, rfl⟩) rfl hk ?_
  refine r_aload_n (pc := 9) hX dX4_init_9 rfl ?_
  refine r_bipush (pc := 10) hX 88 dX4_init_10 (by decide) ?_
  refine r_newa2 (pc := 12) hX (a + 1) 88 (show im_n S + 0 + 2 = a + 1 by omega) dX4_init_12 (by decide) (by decide) (by decide) (by rw [hxn, hxz, hxc, hxs]; exact ⟨(show im_n S + 0 + 1 - im_n S ≤ (im_n S + 8) - im_n S by omega), (show im_z S + 0 + 88 - im_z S ≤ (im_z S + 704) - im_z S by omega)⟩) ?_
  refine r_putr (pc := 14) hX dX4_init_14 fl_X4_15 (by first | exact Or.inl rfl | exact Or.inr ⟨rfl, rfl, rfl⟩) rfl (kk_al (show im_n S + 0 + 2 = a + 1 by omega) hk (by decide)) ?_
  refine r_aload_n (pc := 17) hX dX4_init_17 rfl ?_
  refine r_bipush (pc := 18) hX 88 dX4_init_18 (by decide) ?_
  refine r_newa2 (pc := 20) hX (a + 2) 88 (show im_n S + 1 + 2 = a + 2 by omega) dX4_init_20 (by decide) (by decide) (by decide) (by rw [hxn, hxz, hxc, hxs]; exact ⟨(show im_n S + 1 + 1 - im_n S ≤ (im_n S + 8) - im_n S by omega), (show im_z S + 88 + 88 - im_z S ≤ (im_z S + 704) - im_z S by omega)⟩) ?_
  refine r_putr (pc := 22) hX dX4_init_22 fl_X4_19 (by first | exact Or.inl rfl | exact Or.inr ⟨rfl, rfl, rfl⟩) rfl (kk_al (show im_n S + 1 + 2 = a + 2 by omega) (kk_al (show im_n S + 0 + 2 = a + 1 by omega) hk (by decide)) (by decide)) ?_
  refine r_aload_n (pc := 25) hX dX4_init_25 rfl ?_
  refine r_bipush (pc := 26) hX 88 dX4_init_26 (by decide) ?_
  refine r_newa2 (pc := 28) hX (a + 3) 88 (show im_n S + 2 + 2 = a + 3 by omega) dX4_init_28 (by decide) (by decide) (by decide) (by rw [hxn, hxz, hxc, hxs]; exact ⟨(show im_n S + 2 + 1 - im_n S ≤ (im_n S + 8) - im_n S by omega), (show im_z S + 176 + 88 - im_z S ≤ (im_z S + 704) - im_z S by omega)⟩) ?_
  refine r_putr (pc := 30) hX dX4_init_30 fl_X4_22 (by first | exact Or.inl rfl | exact Or.inr ⟨rfl, rfl, rfl⟩) rfl (kk_al (show im_n S + 2 + 2 = a + 3 by omega) (kk_al (show im_n S + 1 + 2 = a + 2 by omega) (kk_al (show im_n S + 0 + 2 = a + 1 by omega) hk (by decide)) (by decide)) (by decide)) ?_
  refine r_aload_n (pc := 33) hX dX4_init_33 rfl ?_
  refine r_bipush (pc := 34) hX 88 dX4_init_34 (by decide) ?_
  refine r_newa2 (pc := 36) hX (a + 4) 88 (show im_n S + 3 + 2 = a + 4 by omega) dX4_init_36 (by decide) (by decide) (by decide) (by rw [hxn, hxz, hxc, hxs]; exact ⟨(show im_n S + 3 + 1 - im_n S ≤ (im_n S + 8) - im_n S by omega), (show im_z S + 264 + 88 - im_z S ≤ (im_z S + 704) - im_z S by omega)⟩) ?_
  refine r_putr (pc := 38) hX dX4_init_38 fl_X4_25 (by first | exact Or.inl rfl | exact Or.inr ⟨rfl, rfl, rfl⟩) rfl (kk_al (show im_n S + 3 + 2 = a + 4 by omega) (kk_al (show im_n S + 2 + 2 = a + 3 by omega) (kk_al (show im_n S + 1 + 2 = a + 2 by omega) (kk_al (show im_n S + 0 + 2 = a + 1 by omega) hk (by decide)) (by decide)) (by decide)) (by decide)) ?_
  refine r_aload_n (pc := 41) hX dX4_init_41 rfl ?_
  refine r_bipush (pc := 42) hX 88 dX4_init_42 (by decide) ?_
  refine r_newa2 (pc := 44) hX (a + 5) 88 (show im_n S + 4 + 2 = a + 5 by omega) dX4_init_44 (by decide) (by decide) (by decide) (by rw [hxn, hxz, hxc, hxs]; exact ⟨(show im_n S + 4 + 1 - im_n S ≤ (im_n S + 8) - im_n S by omega), (show im_z S + 352 + 88 - im_z S ≤ (im_z S + 704) - im_z S by omega)⟩) ?_
  refine r_putr (pc := 46) hX dX4_init_46 fl_X4_28 (by first | exact Or.inl rfl | exact Or.inr ⟨rfl, rfl, rfl⟩) rfl (kk_al (show im_n S + 4 + 2 = a + 5 by omega) (kk_al (show im_n S + 3 + 2 = a + 4 by omega) (kk_al (show im_n S + 2 + 2 = a + 3 by omega) (kk_al (show im_n S + 1 + 2 = a + 2 by omega) (kk_al (show im_n S + 0 + 2 = a + 1 by omega) hk (by decide)) (by decide)) (by decide)) (by decide)) (by decide)) ?_
  refine r_aload_n (pc := 49) hX dX4_init_49 rfl ?_
  refine r_bipush (pc := 50) hX 88 dX4_init_50 (by decide) ?_
  refine r_newa2 (pc := 52) hX (a + 6) 88 (show im_n S + 5 + 2 = a + 6 by omega) dX4_init_52 (by decide) (by decide) (by decide) (by rw [hxn, hxz, hxc, hxs]; exact ⟨(show im_n S + 5 + 1 - im_n S ≤ (im_n S + 8) - im_n S by omega), (show im_z S + 440 + 88 - im_z S ≤ (im_z S + 704) - im_z S by omega)⟩) ?_
  refine r_putr (pc := 54) hX dX4_init_54 fl_X4_31 (by first | exact Or.inl rfl | exact Or.inr ⟨rfl, rfl, rfl⟩) rfl (kk_al (show im_n S + 5 + 2 = a + 6 by omega) (kk_al (show im_n S + 4 + 2 = a + 5 by omega) (kk_al (show im_n S + 3 + 2 = a + 4 by omega) (kk_al (show im_n S + 2 + 2 = a + 3 by omega) (kk_al (show im_n S + 1 + 2 = a + 2 by omega) (kk_al (show im_n S + 0 + 2 = a + 1 by omega) hk (by decide)) (by decide)) (by decide)) (by decide)) (by decide)) (by decide)) ?_
  refine r_aload_n (pc := 57) hX dX4_init_57 rfl ?_
  refine r_bipush (pc := 58) hX 88 dX4_init_58 (by decide) ?_
  refine r_newa2 (pc := 60) hX (a + 7) 88 (show im_n S + 6 + 2 = a + 7 by omega) dX4_init_60 (by decide) (by decide) (by decide) (by rw [hxn, hxz, hxc, hxs]; exact ⟨(show im_n S + 6 + 1 - im_n S ≤ (im_n S + 8) - im_n S by omega), (show im_z S + 528 + 88 - im_z S ≤ (im_z S + 704) - im_z S by omega)⟩) ?_
  refine r_putr (pc := 62) hX dX4_init_62 fl_X4_34 (by first | exact Or.inl rfl | exact Or.inr ⟨rfl, rfl, rfl⟩) rfl (kk_al (show im_n S + 6 + 2 = a + 7 by omega) (kk_al (show im_n S + 5 + 2 = a + 6 by omega) (kk_al (show im_n S + 4 + 2 = a + 5 by omega) (kk_al (show im_n S + 3 + 2 = a + 4 by omega) (kk_al (show im_n S + 2 + 2 = a + 3 by omega) (kk_al (show im_n S + 1 + 2 = a + 2 by omega) (kk_al (show im_n S + 0 + 2 = a + 1 by omega) hk (by decide)) (by decide)) (by decide)) (by decide)) (by decide)) (by decide)) (by decide)) ?_
  refine r_aload_n (pc := 65) hX dX4_init_65 rfl ?_
  refine r_bipush (pc := 66) hX 88 dX4_init_66 (by decide) ?_
  refine r_newa2 (pc := 68) hX (a + 8) 88 (show im_n S + 7 + 2 = a + 8 by omega) dX4_init_68 (by decide) (by decide) (by decide) (by rw [hxn, hxz, hxc, hxs]; exact ⟨(show im_n S + 7 + 1 - im_n S ≤ (im_n S + 8) - im_n S by omega), (show im_z S + 616 + 88 - im_z S ≤ (im_z S + 704) - im_z S by omega)⟩) ?_
  refine r_putr (pc := 70) hX dX4_init_70 fl_X4_37 (by first | exact Or.inl rfl | exact Or.inr ⟨rfl, rfl, rfl⟩) rfl (kk_al (show im_n S + 7 + 2 = a + 8 by omega) (kk_al (show im_n S + 6 + 2 = a + 7 by omega) (kk_al (show im_n S + 5 + 2 = a + 6 by omega) (kk_al (show im_n S + 4 + 2 = a + 5 by omega) (kk_al (show im_n S + 3 + 2 = a + 4 by omega) (kk_al (show im_n S + 2 + 2 = a + 3 by omega) (kk_al (show im_n S + 1 + 2 = a + 2 by omega) (kk_al (show im_n S + 0 + 2 = a + 1 by omega) hk (by decide)) (by decide)) (by decide)) (by decide)) (by decide)) (by decide)) (by decide)) (by decide)) ?_
  exact r_return (pc := 73) hX dX4_init_73 rfl rfl rfl
theorem X4_init_k {S : im_S} {a x : Nat} {p : Nat} {v : Nat × Nat} (hn : im_n S + 1 = a) (h : im_k S x = v) (hv : v.1 < 99) : im_k (X4_init_S S a p) x = v := by
  unfold X4_init_S
  exact (kk_al (show im_n S + 7 + 2 = a + 8 by omega) (kk_al (show im_n S + 6 + 2 = a + 7 by omega) (kk_al (show im_n S + 5 + 2 = a + 6 by omega) (kk_al (show im_n S + 4 + 2 = a + 5 by omega) (kk_al (show im_n S + 3 + 2 = a + 4 by omega) (kk_al (show im_n S + 2 + 2 = a + 3 by omega) (kk_al (show im_n S + 1 + 2 = a + 2 by omega) (kk_al (show im_n S + 0 + 2 = a + 1 by omega) h hv) hv) hv) hv) hv) hv) hv) hv)
theorem X4_init_r {S : im_S} {a x j v : Nat} {p : Nat} (hx : x < a) (h : im_r S x j = v) : im_r (X4_init_S S a p) x j = v := by
  unfold X4_init_S
  exact (rr_upr (by omega) (rr_al (by omega) (rr_upr (by omega) (rr_al (by omega) (rr_upr (by omega) (rr_al (by omega) (rr_upr (by omega) (rr_al (by omega) (rr_upr (by omega) (rr_al (by omega) (rr_upr (by omega) (rr_al (by omega) (rr_upr (by omega) (rr_al (by omega) (rr_upr (by omega) (rr_al (by omega) (rr_upr (by omega) h)))))))))))))))))
def X0_init_S (S : im_S) (a : Nat) (p m : Nat) : im_S := (im_upr (im_alS (im_upr (im_alS (im_upr (im_alS (im_upr (im_alS (im_upr (im_alS (im_upr (im_alS (im_upr (im_alS (im_upr (im_alS (im_upr (im_upr S a 1 (p + 1)) a 2 (m + 1)) (a + 1) 20 80) a 0 ((a + 1) + 1)) (a + 2) 20 80) a 3 ((a + 2) + 1)) (a + 3) 20 80) a 4 ((a + 3) + 1)) (a + 4) 20 240) a 5 ((a + 4) + 1)) (a + 5) 20 240) a 6 ((a + 5) + 1)) (a + 6) 20 80) a 7 ((a + 6) + 1)) (a + 7) 20 80) a 8 ((a + 7) + 1)) (a + 8) 20 80) a 9 ((a + 8) + 1))
def X0_init_I (I : im_I) (a : Nat) : im_I := (im_alI (im_alI (im_alI (im_alI (im_alI (im_alI (im_alI (im_alI I (a + 1)) (a + 2)) (a + 3)) (a + 4)) (a + 5)) (a + 6)) (a + 7)) (a + 8))
set_option maxRecDepth 100000 in
set_option maxHeartbeats 1000000 in
theorem sp_X0_init {l : Launch} {k : im_K} {S : im_S} {I : im_I} {a : Nat} {p m : Nat} (hk : im_k S a = (0, im_N 0)) (hn : im_n S + 1 = a) : im_Runs l k 1 mX0_init [.ref a, .ref p, .ref m] (S, I) (none) (X0_init_S S a p m, X0_init_I I a) := by
  refine im_run (by decide +kernel) ⟨(show im_n S ≤ im_n S + 8 by omega), (show im_z S ≤ im_z S + 960 by omega)⟩ (Nat.le_of_ble_eq_true rfl) ?_
  intro X hl hX hxn hxz hxc hxs
  subst hl
  change im_E X k _ 0 [some (.ref a), some (.ref p), some (.ref m)] [] S I
  refine r_aload_n (pc := 0) hX dX0_init_0 rfl ?_
  refine r_objInit (pc := 1) hX dX0_init_1 ml_X0_3 w_objInit (Nat.le_of_ble_eq_true rfl) (by decide) rfl ?_
  refine r_aload_n (pc := 4) hX dX0_init_4 rfl ?_
  refine r_aload_n (pc := 5) hX dX0_init_5 rfl ?_
  refine r_putr (pc := 6) hX dX0_init_6 fl_X0_9 (by first | exact Or.inl rfl | exact Or.inr ⟨rfl, rfl, rfl⟩) rfl hk ?_
  refine r_aload_n (pc := 9) hX dX0_init_9 rfl ?_
  refine r_aload_n (pc := 10) hX dX0_init_10 rfl ?_
  refine r_putr (pc := 11) hX dX0_init_11 fl_X0_15 (by first | exact Or.inl rfl | exact Or.inr ⟨rfl, rfl, rfl⟩) rfl hk ?_
  refine r_aload_n (pc := 14) hX dX0_init_14 rfl ?_
  refine r_bipush (pc := 15) hX 80 dX0_init_15 (by decide) ?_
  refine r_newa2 (pc := 17) hX (a + 1) 80 (show im_n S + 0 + 2 = a + 1 by omega) dX0_init_17 (by decide) (by decide) (by decide) (by rw [hxn, hxz, hxc, hxs]; exact ⟨(show im_n S + 0 + 1 - im_n S ≤ (im_n S + 8) - im_n S by omega), (show im_z S + 0 + 80 - im_z S ≤ (im_z S + 960) - im_z S by omega)⟩) ?_
  refine r_putr (pc := 19) hX dX0_init_19 fl_X0_19 (by first | exact Or.inl rfl | exact Or.inr ⟨rfl, rfl, rfl⟩) rfl (kk_al (show im_n S + 0 + 2 = a + 1 by omega) hk (by decide)) ?_
  refine r_aload_n (pc := 22) hX dX0_init_22 rfl ?_
  refine r_bipush (pc := 23) hX 80 dX0_init_23 (by decide) ?_
  refine r_newa2 (pc := 25) hX (a + 2) 80 (show im_n S + 1 + 2 = a + 2 by omega) dX0_init_25 (by decide) (by decide) (by decide) (by rw [hxn, hxz, hxc, hxs]; exact ⟨(show im_n S + 1 + 1 - im_n S ≤ (im_n S + 8) - im_n S by omega), (show im_z S + 80 + 80 - im_z S ≤ (im_z S + 960) - im_z S by omega)⟩) ?_
  refine r_putr (pc := 27) hX dX0_init_27 fl_X0_23 (by first | exact Or.inl rfl | exact Or.inr ⟨rfl, rfl, rfl⟩) rfl (kk_al (show im_n S + 1 + 2 = a + 2 by omega) (kk_al (show im_n S + 0 + 2 = a + 1 by omega) hk (by decide)) (by decide)) ?_
  refine r_aload_n (pc := 30) hX dX0_init_30 rfl ?_
  refine r_bipush (pc := 31) hX 80 dX0_init_31 (by decide) ?_
  refine r_newa2 (pc := 33) hX (a + 3) 80 (show im_n S + 2 + 2 = a + 3 by omega) dX0_init_33 (by decide) (by decide) (by decide) (by rw [hxn, hxz, hxc, hxs]; exact ⟨(show im_n S + 2 + 1 - im_n S ≤ (im_n S + 8) - im_n S by omega), (show im_z S + 160 + 80 - im_z S ≤ (im_z S + 960) - im_z S by omega)⟩) ?_
  refine r_putr (pc := 35) hX dX0_init_35 fl_X0_26 (by first | exact Or.inl rfl | exact Or.inr ⟨rfl, rfl, rfl⟩) rfl (kk_al (show im_n S + 2 + 2 = a + 3 by omega) (kk_al (show im_n S + 1 + 2 = a + 2 by omega) (kk_al (show im_n S + 0 + 2 = a + 1 by omega) hk (by decide)) (by decide)) (by decide)) ?_
  refine r_aload_n (pc := 38) hX dX0_init_38 rfl ?_
  refine r_sipush (pc := 39) hX 240 dX0_init_39 (by decide) ?_
  refine r_newa2 (pc := 42) hX (a + 4) 240 (show im_n S + 3 + 2 = a + 4 by omega) dX0_init_42 (by decide) (by decide) (by decide) (by rw [hxn, hxz, hxc, hxs]; exact ⟨(show im_n S + 3 + 1 - im_n S ≤ (im_n S + 8) - im_n S by omega), (show im_z S + 240 + 240 - im_z S ≤ (im_z S + 960) - im_z S by omega)⟩) ?_
  refine r_putr (pc := 44) hX dX0_init_44 fl_X0_29 (by first | exact Or.inl rfl | exact Or.inr ⟨rfl, rfl, rfl⟩) rfl (kk_al (show im_n S + 3 + 2 = a + 4 by omega) (kk_al (show im_n S + 2 + 2 = a + 3 by omega) (kk_al (show im_n S + 1 + 2 = a + 2 by omega) (kk_al (show im_n S + 0 + 2 = a + 1 by omega) hk (by decide)) (by decide)) (by decide)) (by decide)) ?_
  refine r_aload_n (pc := 47) hX dX0_init_47 rfl ?_
  refine r_sipush (pc := 48) hX 240 dX0_init_48 (by decide) ?_
  refine r_newa2 (pc := 51) hX (a + 5) 240 (show im_n S + 4 + 2 = a + 5 by omega) dX0_init_51 (by decide) (by decide) (by decide) (by rw [hxn, hxz, hxc, hxs]; exact ⟨(show im_n S + 4 + 1 - im_n S ≤ (im_n S + 8) - im_n S by omega), (show im_z S + 480 + 240 - im_z S ≤ (im_z S + 960) - im_z S by omega)⟩) ?_
  refine r_putr (pc := 53) hX dX0_init_53 fl_X0_32 (by first | exact Or.inl rfl | exact Or.inr ⟨rfl, rfl, rfl⟩) rfl (kk_al (show im_n S + 4 + 2 = a + 5 by omega) (kk_al (show im_n S + 3 + 2 = a + 4 by omega) (kk_al (show im_n S + 2 + 2 = a + 3 by omega) (kk_al (show im_n S + 1 + 2 = a + 2 by omega) (kk_al (show im_n S + 0 + 2 = a + 1 by omega) hk (by decide)) (by decide)) (by decide)) (by decide)) (by decide)) ?_
  refine r_aload_n (pc := 56) hX dX0_init_56 rfl ?_
  refine r_bipush (pc := 57) hX 80 dX0_init_57 (by decide) ?_
  refine r_newa2 (pc := 59) hX (a + 6) 80 (show im_n S + 5 + 2 = a + 6 by omega) dX0_init_59 (by decide) (by decide) (by decide) (by rw [hxn, hxz, hxc, hxs]; exact ⟨(show im_n S + 5 + 1 - im_n S ≤ (im_n S + 8) - im_n S by omega), (show im_z S + 720 + 80 - im_z S ≤ (im_z S + 960) - im_z S by omega)⟩) ?_
  refine r_putr (pc := 61) hX dX0_init_61 fl_X0_35 (by first | exact Or.inl rfl | exact Or.inr ⟨rfl, rfl, rfl⟩) rfl (kk_al (show im_n S + 5 + 2 = a + 6 by omega) (kk_al (show im_n S + 4 + 2 = a + 5 by omega) (kk_al (show im_n S + 3 + 2 = a + 4 by omega) (kk_al (show im_n S + 2 + 2 = a + 3 by omega) (kk_al (show im_n S + 1 + 2 = a + 2 by omega) (kk_al (show im_n S + 0 + 2 = a + 1 by omega) hk (by decide)) (by decide)) (by decide)) (by decide)) (by decide)) (by decide)) ?_
  refine r_aload_n (pc := 64) hX dX0_init_64 rfl ?_
  refine r_bipush (pc := 65) hX 80 dX0_init_65 (by decide) ?_
  refine r_newa2 (pc := 67) hX (a + 7) 80 (show im_n S + 6 + 2 = a + 7 by omega) dX0_init_67 (by decide) (by decide) (by decide) (by rw [hxn, hxz, hxc, hxs]; exact ⟨(show im_n S + 6 + 1 - im_n S ≤ (im_n S + 8) - im_n S by omega), (show im_z S + 800 + 80 - im_z S ≤ (im_z S + 960) - im_z S by omega)⟩) ?_
  refine r_putr (pc := 69) hX dX0_init_69 fl_X0_38 (by first | exact Or.inl rfl | exact Or.inr ⟨rfl, rfl, rfl⟩) rfl (kk_al (show im_n S + 6 + 2 = a + 7 by omega) (kk_al (show im_n S + 5 + 2 = a + 6 by omega) (kk_al (show im_n S + 4 + 2 = a + 5 by omega) (kk_al (show im_n S + 3 + 2 = a + 4 by omega) (kk_al (show im_n S + 2 + 2 = a + 3 by omega) (kk_al (show im_n S + 1 + 2 = a + 2 by omega) (kk_al (show im_n S + 0 + 2 = a + 1 by omega) hk (by decide)) (by decide)) (by decide)) (by decide)) (by decide)) (by decide)) (by decide)) ?_
  refine r_aload_n (pc := 72) hX dX0_init_72 rfl ?_
  refine r_bipush (pc := 73) hX 80 dX0_init_73 (by decide) ?_
  refine r_newa2 (pc := 75) hX (a + 8) 80 (show im_n S + 7 + 2 = a + 8 by omega) dX0_init_75 (by decide) (by decide) (by decide) (by rw [hxn, hxz, hxc, hxs]; exact ⟨(show im_n S + 7 + 1 - im_n S ≤ (im_n S + 8) - im_n S by omega), (show im_z S + 880 + 80 - im_z S ≤ (im_z S + 960) - im_z S by omega)⟩) ?_
  refine r_putr (pc := 77) hX dX0_init_77 fl_X0_41 (by first | exact Or.inl rfl | exact Or.inr ⟨rfl, rfl, rfl⟩) rfl (kk_al (show im_n S + 7 + 2 = a + 8 by omega) (kk_al (show im_n S + 6 + 2 = a + 7 by omega) (kk_al (show im_n S + 5 + 2 = a + 6 by omega) (kk_al (show im_n S + 4 + 2 = a + 5 by omega) (kk_al (show im_n S + 3 + 2 = a + 4 by omega) (kk_al (show im_n S + 2 + 2 = a + 3 by omega) (kk_al (show im_n S + 1 + 2 = a + 2 by omega) (kk_al (show im_n S + 0 + 2 = a + 1 by omega) hk (by decide)) (by decide)) (by decide)) (by decide)) (by decide)) (by decide)) (by decide)) (by decide)) ?_
  exact r_return (pc := 80) hX dX0_init_80 rfl rfl rfl
theorem X0_init_k {S : im_S} {a x : Nat} {p m : Nat} {v : Nat × Nat} (hn : im_n S + 1 = a) (h : im_k S x = v) (hv : v.1 < 99) : im_k (X0_init_S S a p m) x = v := by
  unfold X0_init_S
  exact (kk_al (show im_n S + 7 + 2 = a + 8 by omega) (kk_al (show im_n S + 6 + 2 = a + 7 by omega) (kk_al (show im_n S + 5 + 2 = a + 6 by omega) (kk_al (show im_n S + 4 + 2 = a + 5 by omega) (kk_al (show im_n S + 3 + 2 = a + 4 by omega) (kk_al (show im_n S + 2 + 2 = a + 3 by omega) (kk_al (show im_n S + 1 + 2 = a + 2 by omega) (kk_al (show im_n S + 0 + 2 = a + 1 by omega) h hv) hv) hv) hv) hv) hv) hv) hv)
theorem X0_init_r {S : im_S} {a x j v : Nat} {p m : Nat} (hx : x < a) (h : im_r S x j = v) : im_r (X0_init_S S a p m) x j = v := by
  unfold X0_init_S
  exact (rr_upr (by omega) (rr_al (by omega) (rr_upr (by omega) (rr_al (by omega) (rr_upr (by omega) (rr_al (by omega) (rr_upr (by omega) (rr_al (by omega) (rr_upr (by omega) (rr_al (by omega) (rr_upr (by omega) (rr_al (by omega) (rr_upr (by omega) (rr_al (by omega) (rr_upr (by omega) (rr_al (by omega) (rr_upr (by omega) (rr_upr (by omega) h))))))))))))))))))
def X2_init_S (S : im_S) (a : Nat) (m : Nat) : im_S := (im_upr (im_alS (im_upr (im_alS (im_upr (im_alS (im_upr (im_alS (im_upr (im_alS (im_upr S a 4 (m + 1)) (a + 1) 20 88) a 5 ((a + 1) + 1)) (a + 2) 20 88) a 6 ((a + 2) + 1)) (a + 3) 20 88) a 7 ((a + 3) + 1)) (a + 4) 20 88) a 8 ((a + 4) + 1)) (a + 5) 20 88) a 9 ((a + 5) + 1))
def X2_init_I (I : im_I) (a : Nat) : im_I := (im_alI (im_alI (im_alI (im_alI (im_alI I (a + 1)) (a + 2)) (a + 3)) (a + 4)) (a + 5))
set_option maxRecDepth 100000 in
set_option maxHeartbeats 1000000 in
theorem sp_X2_init {l : Launch} {k : im_K} {S : im_S} {I : im_I} {a : Nat} {m : Nat} (hk : im_k S a = (2, im_N 2)) (hn : im_n S + 1 = a) : im_Runs l k 1 mX2_init [.ref a, .ref m] (S, I) (none) (X2_init_S S a m, X2_init_I I a) := by
  refine im_run (by decide +kernel) ⟨(show im_n S ≤ im_n S + 5 by omega), (show im_z S ≤ im_z S + 440 by omega)⟩ (Nat.le_of_ble_eq_true rfl) ?_
  intro X hl hX hxn hxz hxc hxs
  subst hl
  change im_E X k _ 0 [some (.ref a), some (.ref m)] [] S I
  refine r_aload_n (pc := 0) hX dX2_init_0 rfl ?_
  refine r_objInit (pc := 1) hX dX2_init_1 ml_X2_3 w_objInit (Nat.le_of_ble_eq_true rfl) (by decide) rfl ?_
  refine r_aload_n (pc := 4) hX dX2_init_4 rfl ?_
  refine r_aload_n (pc := 5) hX dX2_init_5 rfl ?_
  refine r_putr (pc := 6) hX dX2_init_6 fl_X2_9 (by first | exact Or.inl rfl | exact Or.inr ⟨rfl, rfl, rfl⟩) rfl hk ?_
  refine r_aload_n (pc := 9) hX dX2_init_9 rfl ?_
  refine r_bipush (pc := 10) hX 88 dX2_init_10 (by decide) ?_
  refine r_newa2 (pc := 12) hX (a + 1) 88 (show im_n S + 0 + 2 = a + 1 by omega) dX2_init_12 (by decide) (by decide) (by decide) (by rw [hxn, hxz, hxc, hxs]; exact ⟨(show im_n S + 0 + 1 - im_n S ≤ (im_n S + 5) - im_n S by omega), (show im_z S + 0 + 88 - im_z S ≤ (im_z S + 440) - im_z S by omega)⟩) ?_
  refine r_putr (pc := 14) hX dX2_init_14 fl_X2_15 (by first | exact Or.inl rfl | exact Or.inr ⟨rfl, rfl, rfl⟩) rfl (kk_al (show im_n S + 0 + 2 = a + 1 by omega) hk (by decide)) ?_
  refine r_aload_n (pc := 17) hX dX2_init_17 rfl ?_
  refine r_bipush (pc := 18) hX 88 dX2_init_18 (by decide) ?_
  refine r_newa2 (pc := 20) hX (a + 2) 88 (show im_n S + 1 + 2 = a + 2 by omega) dX2_init_20 (by decide) (by decide) (by decide) (by rw [hxn, hxz, hxc, hxs]; exact ⟨(show im_n S + 1 + 1 - im_n S ≤ (im_n S + 5) - im_n S by omega), (show im_z S + 88 + 88 - im_z S ≤ (im_z S + 440) - im_z S by omega)⟩) ?_
  refine r_putr (pc := 22) hX dX2_init_22 fl_X2_19 (by first | exact Or.inl rfl | exact Or.inr ⟨rfl, rfl, rfl⟩) rfl (kk_al (show im_n S + 1 + 2 = a + 2 by omega) (kk_al (show im_n S + 0 + 2 = a + 1 by omega) hk (by decide)) (by decide)) ?_
  refine r_aload_n (pc := 25) hX dX2_init_25 rfl ?_
  refine r_bipush (pc := 26) hX 88 dX2_init_26 (by decide) ?_
  refine r_newa2 (pc := 28) hX (a + 3) 88 (show im_n S + 2 + 2 = a + 3 by omega) dX2_init_28 (by decide) (by decide) (by decide) (by rw [hxn, hxz, hxc, hxs]; exact ⟨(show im_n S + 2 + 1 - im_n S ≤ (im_n S + 5) - im_n S by omega), (show im_z S + 176 + 88 - im_z S ≤ (im_z S + 440) - im_z S by omega)⟩) ?_
  refine r_putr (pc := 30) hX dX2_init_30 fl_X2_22 (by first | exact Or.inl rfl | exact Or.inr ⟨rfl, rfl, rfl⟩) rfl (kk_al (show im_n S + 2 + 2 = a + 3 by omega) (kk_al (show im_n S + 1 + 2 = a + 2 by omega) (kk_al (show im_n S + 0 + 2 = a + 1 by omega) hk (by decide)) (by decide)) (by decide)) ?_
  refine r_aload_n (pc := 33) hX dX2_init_33 rfl ?_
  refine r_bipush (pc := 34) hX 88 dX2_init_34 (by decide) ?_
  refine r_newa2 (pc := 36) hX (a + 4) 88 (show im_n S + 3 + 2 = a + 4 by omega) dX2_init_36 (by decide) (by decide) (by decide) (by rw [hxn, hxz, hxc, hxs]; exact ⟨(show im_n S + 3 + 1 - im_n S ≤ (im_n S + 5) - im_n S by omega), (show im_z S + 264 + 88 - im_z S ≤ (im_z S + 440) - im_z S by omega)⟩) ?_
  refine r_putr (pc := 38) hX dX2_init_38 fl_X2_25 (by first | exact Or.inl rfl | exact Or.inr ⟨rfl, rfl, rfl⟩) rfl (kk_al (show im_n S + 3 + 2 = a + 4 by omega) (kk_al (show im_n S + 2 + 2 = a + 3 by omega) (kk_al (show im_n S + 1 + 2 = a + 2 by omega) (kk_al (show im_n S + 0 + 2 = a + 1 by omega) hk (by decide)) (by decide)) (by decide)) (by decide)) ?_
  refine r_aload_n (pc := 41) hX dX2_init_41 rfl ?_
  refine r_bipush (pc := 42) hX 88 dX2_init_42 (by decide) ?_
  refine r_newa2 (pc := 44) hX (a + 5) 88 (show im_n S + 4 + 2 = a + 5 by omega) dX2_init_44 (by decide) (by decide) (by decide) (by rw [hxn, hxz, hxc, hxs]; exact ⟨(show im_n S + 4 + 1 - im_n S ≤ (im_n S + 5) - im_n S by omega), (show im_z S + 352 + 88 - im_z S ≤ (im_z S + 440) - im_z S by omega)⟩) ?_
  refine r_putr (pc := 46) hX dX2_init_46 fl_X2_28 (by first | exact Or.inl rfl | exact Or.inr ⟨rfl, rfl, rfl⟩) rfl (kk_al (show im_n S + 4 + 2 = a + 5 by omega) (kk_al (show im_n S + 3 + 2 = a + 4 by omega) (kk_al (show im_n S + 2 + 2 = a + 3 by omega) (kk_al (show im_n S + 1 + 2 = a + 2 by omega) (kk_al (show im_n S + 0 + 2 = a + 1 by omega) hk (by decide)) (by decide)) (by decide)) (by decide)) (by decide)) ?_
  exact r_return (pc := 49) hX dX2_init_49 rfl rfl rfl
theorem X2_init_k {S : im_S} {a x : Nat} {m : Nat} {v : Nat × Nat} (hn : im_n S + 1 = a) (h : im_k S x = v) (hv : v.1 < 99) : im_k (X2_init_S S a m) x = v := by
  unfold X2_init_S
  exact (kk_al (show im_n S + 4 + 2 = a + 5 by omega) (kk_al (show im_n S + 3 + 2 = a + 4 by omega) (kk_al (show im_n S + 2 + 2 = a + 3 by omega) (kk_al (show im_n S + 1 + 2 = a + 2 by omega) (kk_al (show im_n S + 0 + 2 = a + 1 by omega) h hv) hv) hv) hv) hv)
theorem X2_init_r {S : im_S} {a x j v : Nat} {m : Nat} (hx : x < a) (h : im_r S x j = v) : im_r (X2_init_S S a m) x j = v := by
  unfold X2_init_S
  exact (rr_upr (by omega) (rr_al (by omega) (rr_upr (by omega) (rr_al (by omega) (rr_upr (by omega) (rr_al (by omega) (rr_upr (by omega) (rr_al (by omega) (rr_upr (by omega) (rr_al (by omega) (rr_upr (by omega) h)))))))))))
def X1_init_S (S : im_S) (a : Nat) (m : Nat) : im_S := (im_upr (im_alS (im_upr (im_alS (im_upr (im_alS (im_upr (im_alS (im_upr S a 1 (m + 1)) (a + 1) 20 528) a 2 ((a + 1) + 1)) (a + 2) 20 2112) a 3 ((a + 2) + 1)) (a + 3) 20 528) a 4 ((a + 3) + 1)) (a + 4) 20 89) a 5 ((a + 4) + 1))
def X1_init_I (I : im_I) (a : Nat) : im_I := (im_alI (im_alI (im_alI (im_alI I (a + 1)) (a + 2)) (a + 3)) (a + 4))
set_option maxRecDepth 100000 in
set_option maxHeartbeats 1000000 in
theorem sp_X1_init {l : Launch} {k : im_K} {S : im_S} {I : im_I} {a : Nat} {m : Nat} (hk : im_k S a = (1, im_N 1)) (hn : im_n S + 1 = a) : im_Runs l k 1 mX1_init [.ref a, .ref m] (S, I) (none) (X1_init_S S a m, X1_init_I I a) := by
  refine im_run (by decide +kernel) ⟨(show im_n S ≤ im_n S + 4 by omega), (show im_z S ≤ im_z S + 3257 by omega)⟩ (Nat.le_of_ble_eq_true rfl) ?_
  intro X hl hX hxn hxz hxc hxs
  subst hl
  change im_E X k _ 0 [some (.ref a), some (.ref m)] [] S I
  refine r_aload_n (pc := 0) hX dX1_init_0 rfl ?_
  refine r_objInit (pc := 1) hX dX1_init_1 ml_X1_3 w_objInit (Nat.le_of_ble_eq_true rfl) (by decide) rfl ?_
  refine r_aload_n (pc := 4) hX dX1_init_4 rfl ?_
  refine r_aload_n (pc := 5) hX dX1_init_5 rfl ?_
  refine r_putr (pc := 6) hX dX1_init_6 fl_X1_9 (by first | exact Or.inl rfl | exact Or.inr ⟨rfl, rfl, rfl⟩) rfl hk ?_
  refine r_aload_n (pc := 9) hX dX1_init_9 rfl ?_
  refine r_sipush (pc := 10) hX 528 dX1_init_10 (by decide) ?_
  refine r_newa2 (pc := 13) hX (a + 1) 528 (show im_n S + 0 + 2 = a + 1 by omega) dX1_init_13 (by decide) (by decide) (by decide) (by rw [hxn, hxz, hxc, hxs]; exact ⟨(show im_n S + 0 + 1 - im_n S ≤ (im_n S + 4) - im_n S by omega), (show im_z S + 0 + 528 - im_z S ≤ (im_z S + 3257) - im_z S by omega)⟩) ?_
  refine r_putr (pc := 15) hX dX1_init_15 fl_X1_15 (by first | exact Or.inl rfl | exact Or.inr ⟨rfl, rfl, rfl⟩) rfl (kk_al (show im_n S + 0 + 2 = a + 1 by omega) hk (by decide)) ?_
  refine r_aload_n (pc := 18) hX dX1_init_18 rfl ?_
  refine r_sipush (pc := 19) hX 2112 dX1_init_19 (by decide) ?_
  refine r_newa2 (pc := 22) hX (a + 2) 2112 (show im_n S + 1 + 2 = a + 2 by omega) dX1_init_22 (by decide) (by decide) (by decide) (by rw [hxn, hxz, hxc, hxs]; exact ⟨(show im_n S + 1 + 1 - im_n S ≤ (im_n S + 4) - im_n S by omega), (show im_z S + 528 + 2112 - im_z S ≤ (im_z S + 3257) - im_z S by omega)⟩) ?_
  refine r_putr (pc := 24) hX dX1_init_24 fl_X1_19 (by first | exact Or.inl rfl | exact Or.inr ⟨rfl, rfl, rfl⟩) rfl (kk_al (show im_n S + 1 + 2 = a + 2 by omega) (kk_al (show im_n S + 0 + 2 = a + 1 by omega) hk (by decide)) (by decide)) ?_
  refine r_aload_n (pc := 27) hX dX1_init_27 rfl ?_
  refine r_sipush (pc := 28) hX 528 dX1_init_28 (by decide) ?_
  refine r_newa2 (pc := 31) hX (a + 3) 528 (show im_n S + 2 + 2 = a + 3 by omega) dX1_init_31 (by decide) (by decide) (by decide) (by rw [hxn, hxz, hxc, hxs]; exact ⟨(show im_n S + 2 + 1 - im_n S ≤ (im_n S + 4) - im_n S by omega), (show im_z S + 2640 + 528 - im_z S ≤ (im_z S + 3257) - im_z S by omega)⟩) ?_
  refine r_putr (pc := 33) hX dX1_init_33 fl_X1_22 (by first | exact Or.inl rfl | exact Or.inr ⟨rfl, rfl, rfl⟩) rfl (kk_al (show im_n S + 2 + 2 = a + 3 by omega) (kk_al (show im_n S + 1 + 2 = a + 2 by omega) (kk_al (show im_n S + 0 + 2 = a + 1 by omega) hk (by decide)) (by decide)) (by decide)) ?_
  refine r_aload_n (pc := 36) hX dX1_init_36 rfl ?_
  refine r_bipush (pc := 37) hX 89 dX1_init_37 (by decide) ?_
  refine r_newa2 (pc := 39) hX (a + 4) 89 (show im_n S + 3 + 2 = a + 4 by omega) dX1_init_39 (by decide) (by decide) (by decide) (by rw [hxn, hxz, hxc, hxs]; exact ⟨(show im_n S + 3 + 1 - im_n S ≤ (im_n S + 4) - im_n S by omega), (show im_z S + 3168 + 89 - im_z S ≤ (im_z S + 3257) - im_z S by omega)⟩) ?_
  refine r_putr (pc := 41) hX dX1_init_41 fl_X1_25 (by first | exact Or.inl rfl | exact Or.inr ⟨rfl, rfl, rfl⟩) rfl (kk_al (show im_n S + 3 + 2 = a + 4 by omega) (kk_al (show im_n S + 2 + 2 = a + 3 by omega) (kk_al (show im_n S + 1 + 2 = a + 2 by omega) (kk_al (show im_n S + 0 + 2 = a + 1 by omega) hk (by decide)) (by decide)) (by decide)) (by decide)) ?_
  exact r_return (pc := 44) hX dX1_init_44 rfl rfl rfl
theorem X1_init_k {S : im_S} {a x : Nat} {m : Nat} {v : Nat × Nat} (hn : im_n S + 1 = a) (h : im_k S x = v) (hv : v.1 < 99) : im_k (X1_init_S S a m) x = v := by
  unfold X1_init_S
  exact (kk_al (show im_n S + 3 + 2 = a + 4 by omega) (kk_al (show im_n S + 2 + 2 = a + 3 by omega) (kk_al (show im_n S + 1 + 2 = a + 2 by omega) (kk_al (show im_n S + 0 + 2 = a + 1 by omega) h hv) hv) hv) hv)
theorem X1_init_r {S : im_S} {a x j v : Nat} {m : Nat} (hx : x < a) (h : im_r S x j = v) : im_r (X1_init_S S a m) x j = v := by
  unfold X1_init_S
  exact (rr_upr (by omega) (rr_al (by omega) (rr_upr (by omega) (rr_al (by omega) (rr_upr (by omega) (rr_al (by omega) (rr_upr (by omega) (rr_al (by omega) (rr_upr (by omega) h)))))))))
def X9_init_S (S : im_S) (a : Nat) (p m : Nat) : im_S := (im_upr (im_alS (im_upr (im_alS (im_upr (im_alS (im_upr (im_alS (im_upr (im_upr S a 6 (p + 1)) a 7 (m + 1)) (a + 1) 20 528) a 3 ((a + 1) + 1)) (a + 2) 20 11) a 4 ((a + 2) + 1)) (a + 3) 20 88) a 5 ((a + 3) + 1)) (a + 4) 20 11) a 8 ((a + 4) + 1))
def X9_init_I (I : im_I) (a : Nat) : im_I := (im_alI (im_alI (im_alI (im_alI I (a + 1)) (a + 2)) (a + 3)) (a + 4))
set_option maxRecDepth 100000 in
set_option maxHeartbeats 1000000 in
theorem sp_X9_init {l : Launch} {k : im_K} {S : im_S} {I : im_I} {a : Nat} {p m : Nat} (hk : im_k S a = (9, im_N 9)) (hn : im_n S + 1 = a) : im_Runs l k 1 mX9_init [.ref a, .ref p, .ref m] (S, I) (none) (X9_init_S S a p m, X9_init_I I a) := by
  refine im_run (by decide +kernel) ⟨(show im_n S ≤ im_n S + 4 by omega), (show im_z S ≤ im_z S + 638 by omega)⟩ (Nat.le_of_ble_eq_true rfl) ?_
  intro X hl hX hxn hxz hxc hxs
  subst hl
  change im_E X k _ 0 [some (.ref a), some (.ref p), some (.ref m)] [] S I
  refine r_aload_n (pc := 0) hX dX9_init_0 rfl ?_
  refine r_objInit (pc := 1) hX dX9_init_1 ml_X9_3 w_objInit (Nat.le_of_ble_eq_true rfl) (by decide) rfl ?_
  refine r_aload_n (pc := 4) hX dX9_init_4 rfl ?_
  refine r_aload_n (pc := 5) hX dX9_init_5 rfl ?_
  refine r_putr (pc := 6) hX dX9_init_6 fl_X9_9 (by first | exact Or.inl rfl | exact Or.inr ⟨rfl, rfl, rfl⟩) rfl hk ?_
  refine r_aload_n (pc := 9) hX dX9_init_9 rfl ?_
  refine r_aload_n (pc := 10) hX dX9_init_10 rfl ?_
  refine r_putr (pc := 11) hX dX9_init_11 fl_X9_15 (by first | exact Or.inl rfl | exact Or.inr ⟨rfl, rfl, rfl⟩) rfl hk ?_
  refine r_aload_n (pc := 14) hX dX9_init_14 rfl ?_
  refine r_sipush (pc := 15) hX 528 dX9_init_15 (by decide) ?_
  refine r_newa2 (pc := 18) hX (a + 1) 528 (show im_n S + 0 + 2 = a + 1 by omega) dX9_init_18 (by decide) (by decide) (by decide) (by rw [hxn, hxz, hxc, hxs]; exact ⟨(show im_n S + 0 + 1 - im_n S ≤ (im_n S + 4) - im_n S by omega), (show im_z S + 0 + 528 - im_z S ≤ (im_z S + 638) - im_z S by omega)⟩) ?_
  refine r_putr (pc := 20) hX dX9_init_20 fl_X9_19 (by first | exact Or.inl rfl | exact Or.inr ⟨rfl, rfl, rfl⟩) rfl (kk_al (show im_n S + 0 + 2 = a + 1 by omega) hk (by decide)) ?_
  refine r_aload_n (pc := 23) hX dX9_init_23 rfl ?_
  refine r_bipush (pc := 24) hX 11 dX9_init_24 (by decide) ?_
  refine r_newa2 (pc := 26) hX (a + 2) 11 (show im_n S + 1 + 2 = a + 2 by omega) dX9_init_26 (by decide) (by decide) (by decide) (by rw [hxn, hxz, hxc, hxs]; exact ⟨(show im_n S + 1 + 1 - im_n S ≤ (im_n S + 4) - im_n S by omega), (show im_z S + 528 + 11 - im_z S ≤ (im_z S + 638) - im_z S by omega)⟩) ?_
  refine r_putr (pc := 28) hX dX9_init_28 fl_X9_23 (by first | exact Or.inl rfl | exact Or.inr ⟨rfl, rfl, rfl⟩) rfl (kk_al (show im_n S + 1 + 2 = a + 2 by omega) (kk_al (show im_n S + 0 + 2 = a + 1 by omega) hk (by decide)) (by decide)) ?_
  refine r_aload_n (pc := 31) hX dX9_init_31 rfl ?_
  refine r_bipush (pc := 32) hX 88 dX9_init_32 (by decide) ?_
  refine r_newa2 (pc := 34) hX (a + 3) 88 (show im_n S + 2 + 2 = a + 3 by omega) dX9_init_34 (by decide) (by decide) (by decide) (by rw [hxn, hxz, hxc, hxs]; exact ⟨(show im_n S + 2 + 1 - im_n S ≤ (im_n S + 4) - im_n S by omega), (show im_z S + 539 + 88 - im_z S ≤ (im_z S + 638) - im_z S by omega)⟩) ?_
  refine r_putr (pc := 36) hX dX9_init_36 fl_X9_26 (by first | exact Or.inl rfl | exact Or.inr ⟨rfl, rfl, rfl⟩) rfl (kk_al (show im_n S + 2 + 2 = a + 3 by omega) (kk_al (show im_n S + 1 + 2 = a + 2 by omega) (kk_al (show im_n S + 0 + 2 = a + 1 by omega) hk (by decide)) (by decide)) (by decide)) ?_
  refine r_aload_n (pc := 39) hX dX9_init_39 rfl ?_
  refine r_bipush (pc := 40) hX 11 dX9_init_40 (by decide) ?_
  refine r_newa2 (pc := 42) hX (a + 4) 11 (show im_n S + 3 + 2 = a + 4 by omega) dX9_init_42 (by decide) (by decide) (by decide) (by rw [hxn, hxz, hxc, hxs]; exact ⟨(show im_n S + 3 + 1 - im_n S ≤ (im_n S + 4) - im_n S by omega), (show im_z S + 627 + 11 - im_z S ≤ (im_z S + 638) - im_z S by omega)⟩) ?_
  refine r_putr (pc := 44) hX dX9_init_44 fl_X9_29 (by first | exact Or.inl rfl | exact Or.inr ⟨rfl, rfl, rfl⟩) rfl (kk_al (show im_n S + 3 + 2 = a + 4 by omega) (kk_al (show im_n S + 2 + 2 = a + 3 by omega) (kk_al (show im_n S + 1 + 2 = a + 2 by omega) (kk_al (show im_n S + 0 + 2 = a + 1 by omega) hk (by decide)) (by decide)) (by decide)) (by decide)) ?_
  exact r_return (pc := 47) hX dX9_init_47 rfl rfl rfl
theorem X9_init_k {S : im_S} {a x : Nat} {p m : Nat} {v : Nat × Nat} (hn : im_n S + 1 = a) (h : im_k S x = v) (hv : v.1 < 99) : im_k (X9_init_S S a p m) x = v := by
  unfold X9_init_S
  exact (kk_al (show im_n S + 3 + 2 = a + 4 by omega) (kk_al (show im_n S + 2 + 2 = a + 3 by omega) (kk_al (show im_n S + 1 + 2 = a + 2 by omega) (kk_al (show im_n S + 0 + 2 = a + 1 by omega) h hv) hv) hv) hv)
theorem X9_init_r {S : im_S} {a x j v : Nat} {p m : Nat} (hx : x < a) (h : im_r S x j = v) : im_r (X9_init_S S a p m) x j = v := by
  unfold X9_init_S
  exact (rr_upr (by omega) (rr_al (by omega) (rr_upr (by omega) (rr_al (by omega) (rr_upr (by omega) (rr_al (by omega) (rr_upr (by omega) (rr_al (by omega) (rr_upr (by omega) (rr_upr (by omega) h))))))))))
def X10_init_S (S : im_S) (a : Nat) (p m : Nat) : im_S := (im_upr (X9_init_S (im_alS (im_upr (X1_init_S (im_alS (im_upr (X2_init_S (im_alS (im_upr S a 3 (p + 1)) (a + 1) 2 10) (a + 1) m) a 0 ((a + 1) + 1)) (a + 7) 1 7) (a + 7) m) a 1 ((a + 7) + 1)) (a + 12) 9 10) (a + 12) p m) a 2 ((a + 12) + 1))
def X10_init_I (I : im_I) (a : Nat) : im_I := (X9_init_I (im_alI (X1_init_I (im_alI (X2_init_I (im_alI I (a + 1)) (a + 1)) (a + 7)) (a + 7)) (a + 12)) (a + 12))
set_option maxRecDepth 100000 in
set_option maxHeartbeats 1000000 in
theorem sp_X10_init {l : Launch} {k : im_K} {S : im_S} {I : im_I} {a : Nat} {p m : Nat} (hk : im_k S a = (10, im_N 10)) (hn : im_n S + 1 = a) : im_Runs l k 2 mX10_init [.ref a, .ref p, .ref m] (S, I) (none) (X10_init_S S a p m, X10_init_I I a) := by
  refine im_run (by decide +kernel) ⟨(show im_n S ≤ im_n S + 16 by omega), (show im_z S ≤ im_z S + 4362 by omega)⟩ (Nat.le_of_ble_eq_true rfl) ?_
  intro X hl hX hxn hxz hxc hxs
  subst hl
  change im_E X k _ 0 [some (.ref a), some (.ref p), some (.ref m)] [] S I
  refine r_aload_n (pc := 0) hX dX10_init_0 rfl ?_
  refine r_objInit (pc := 1) hX dX10_init_1 ml_X10_3 w_objInit (Nat.le_of_ble_eq_true rfl) (by decide) rfl ?_
  refine r_aload_n (pc := 4) hX dX10_init_4 rfl ?_
  refine r_aload_n (pc := 5) hX dX10_init_5 rfl ?_
  refine r_putr (pc := 6) hX dX10_init_6 fl_X10_9 (by first | exact Or.inl rfl | exact Or.inr ⟨rfl, rfl, rfl⟩) rfl hk ?_
  refine r_aload_n (pc := 9) hX dX10_init_9 rfl ?_
  refine r_new2 (pc := 10) hX (a + 1) 10 (show im_n S + 0 + 2 = a + 1 by omega) rfl dX10_init_10 cl_X10_15 (by rw [hxn, hxz, hxc, hxs]; exact ⟨(show im_n S + 0 + 1 - im_n S ≤ (im_n S + 16) - im_n S by omega), (show im_z S + 0 + 10 - im_z S ≤ (im_z S + 4362) - im_z S by omega)⟩) ?_
  refine r_dup (pc := 13) hX dX10_init_13 rfl ?_
  refine r_aload_n (pc := 14) hX dX10_init_14 rfl ?_
  refine r_callI (Z := mX2_init) (pc := 15) hX dX10_init_15 ml_X10_17 mX2_init_w (sp_X2_init (kk_new (show im_n S + 0 + 2 = a + 1 by omega)) (show im_n S + 1 + 1 = (a + 1) by omega)) rfl rfl (Nat.le_of_ble_eq_true rfl) (by decide) rfl (Or.inr (by rw [hxn, hxz, hxc, hxs]; exact ⟨(show im_n S + 6 - im_n S ≤ (im_n S + 16) - im_n S by omega), (show im_z S + 450 - im_z S ≤ (im_z S + 4362) - im_z S by omega)⟩)) ?_
  refine r_putr (pc := 18) hX dX10_init_18 fl_X10_20 (by first | exact Or.inl rfl | exact Or.inr ⟨rfl, rfl, rfl⟩) rfl (X2_init_k (show im_n S + 1 + 1 = (a + 1) by omega) (kk_al (show im_n S + 0 + 2 = a + 1 by omega) hk (by decide)) (by decide)) ?_
  refine r_aload_n (pc := 21) hX dX10_init_21 rfl ?_
  refine r_new2 (pc := 22) hX (a + 7) 7 (show im_n S + 6 + 2 = a + 7 by omega) rfl dX10_init_22 cl_X10_24 (by rw [hxn, hxz, hxc, hxs]; exact ⟨(show im_n S + 6 + 1 - im_n S ≤ (im_n S + 16) - im_n S by omega), (show im_z S + 450 + 7 - im_z S ≤ (im_z S + 4362) - im_z S by omega)⟩) ?_
  refine r_dup (pc := 25) hX dX10_init_25 rfl ?_
  refine r_aload_n (pc := 26) hX dX10_init_26 rfl ?_
  refine r_callI (Z := mX1_init) (pc := 27) hX dX10_init_27 ml_X10_26 mX1_init_w (sp_X1_init (kk_new (show im_n S + 6 + 2 = a + 7 by omega)) (show im_n S + 7 + 1 = (a + 7) by omega)) rfl rfl (Nat.le_of_ble_eq_true rfl) (by decide) rfl (Or.inr (by rw [hxn, hxz, hxc, hxs]; exact ⟨(show im_n S + 11 - im_n S ≤ (im_n S + 16) - im_n S by omega), (show im_z S + 3714 - im_z S ≤ (im_z S + 4362) - im_z S by omega)⟩)) ?_
  refine r_putr (pc := 30) hX dX10_init_30 fl_X10_27 (by first | exact Or.inl rfl | exact Or.inr ⟨rfl, rfl, rfl⟩) rfl (X1_init_k (show im_n S + 7 + 1 = (a + 7) by omega) (kk_al (show im_n S + 6 + 2 = a + 7 by omega) (X2_init_k (show im_n S + 1 + 1 = (a + 1) by omega) (kk_al (show im_n S + 0 + 2 = a + 1 by omega) hk (by decide)) (by decide)) (by decide)) (by decide)) ?_
  refine r_aload_n (pc := 33) hX dX10_init_33 rfl ?_
  refine r_new2 (pc := 34) hX (a + 12) 10 (show im_n S + 11 + 2 = a + 12 by omega) rfl dX10_init_34 cl_X10_31 (by rw [hxn, hxz, hxc, hxs]; exact ⟨(show im_n S + 11 + 1 - im_n S ≤ (im_n S + 16) - im_n S by omega), (show im_z S + 3714 + 10 - im_z S ≤ (im_z S + 4362) - im_z S by omega)⟩) ?_
  refine r_dup (pc := 37) hX dX10_init_37 rfl ?_
  refine r_aload_n (pc := 38) hX dX10_init_38 rfl ?_
  refine r_aload_n (pc := 39) hX dX10_init_39 rfl ?_
  refine r_callI (Z := mX9_init) (pc := 40) hX dX10_init_40 ml_X10_33 mX9_init_w (sp_X9_init (kk_new (show im_n S + 11 + 2 = a + 12 by omega)) (show im_n S + 12 + 1 = (a + 12) by omega)) rfl rfl (Nat.le_of_ble_eq_true rfl) (by decide) rfl (Or.inr (by rw [hxn, hxz, hxc, hxs]; exact ⟨(show im_n S + 16 - im_n S ≤ (im_n S + 16) - im_n S by omega), (show im_z S + 4362 - im_z S ≤ (im_z S + 4362) - im_z S by omega)⟩)) ?_
  refine r_putr (pc := 43) hX dX10_init_43 fl_X10_36 (by first | exact Or.inl rfl | exact Or.inr ⟨rfl, rfl, rfl⟩) rfl (X9_init_k (show im_n S + 12 + 1 = (a + 12) by omega) (kk_al (show im_n S + 11 + 2 = a + 12 by omega) (X1_init_k (show im_n S + 7 + 1 = (a + 7) by omega) (kk_al (show im_n S + 6 + 2 = a + 7 by omega) (X2_init_k (show im_n S + 1 + 1 = (a + 1) by omega) (kk_al (show im_n S + 0 + 2 = a + 1 by omega) hk (by decide)) (by decide)) (by decide)) (by decide)) (by decide)) (by decide)) ?_
  exact r_return (pc := 46) hX dX10_init_46 rfl rfl rfl
theorem X10_init_k {S : im_S} {a x : Nat} {p m : Nat} {v : Nat × Nat} (hn : im_n S + 1 = a) (h : im_k S x = v) (hv : v.1 < 99) : im_k (X10_init_S S a p m) x = v := by
  unfold X10_init_S
  exact (X9_init_k (show im_n S + 12 + 1 = (a + 12) by omega) (kk_al (show im_n S + 11 + 2 = a + 12 by omega) (X1_init_k (show im_n S + 7 + 1 = (a + 7) by omega) (kk_al (show im_n S + 6 + 2 = a + 7 by omega) (X2_init_k (show im_n S + 1 + 1 = (a + 1) by omega) (kk_al (show im_n S + 0 + 2 = a + 1 by omega) h hv) hv) hv) hv) hv) hv)
theorem X10_init_r {S : im_S} {a x j v : Nat} {p m : Nat} (hx : x < a) (h : im_r S x j = v) : im_r (X10_init_S S a p m) x j = v := by
  unfold X10_init_S
  exact (rr_upr (by omega) (X9_init_r (by omega) (rr_al (by omega) (rr_upr (by omega) (X1_init_r (by omega) (rr_al (by omega) (rr_upr (by omega) (X2_init_r (by omega) (rr_al (by omega) (rr_upr (by omega) h))))))))))
def X7_init_S (S : im_S) (a : Nat) (p m : Nat) : im_S := (im_upr (im_alS (im_upr (im_alS (im_upr (X3_init_S (im_alS (im_upr (im_alS (im_upr (X4_init_S (im_alS (im_upr (X3_init_S (im_alS (im_upr (X0_init_S (im_alS (im_upr (im_upr S a 4 (p + 1)) a 5 (m + 1)) (a + 1) 0 12) (a + 1) p m) a 0 ((a + 1) + 1)) (a + 10) 3 7) (a + 10)) a 1 ((a + 10) + 1)) (a + 17) 4 12) (a + 17) p) a 2 ((a + 17) + 1)) (a + 26) 20 5) a 3 ((a + 26) + 1)) (a + 27) 3 7) (a + 27)) a 6 ((a + 27) + 1)) (a + 34) 20 5) a 7 ((a + 34) + 1)) (a + 35) 20 88) a 8 ((a + 35) + 1))
def X7_init_I (I : im_I) (a : Nat) : im_I := (im_alI (im_alI (X3_init_I (im_alI (im_alI (X4_init_I (im_alI (X3_init_I (im_alI (X0_init_I (im_alI I (a + 1)) (a + 1)) (a + 10)) (a + 10)) (a + 17)) (a + 17)) (a + 26)) (a + 27)) (a + 27)) (a + 34)) (a + 35))
set_option maxRecDepth 100000 in
set_option maxHeartbeats 1000000 in
theorem sp_X7_init {l : Launch} {k : im_K} {S : im_S} {I : im_I} {a : Nat} {p m : Nat} (hk : im_k S a = (7, im_N 7)) (hn : im_n S + 1 = a) : im_Runs l k 2 mX7_init [.ref a, .ref p, .ref m] (S, I) (none) (X7_init_S S a p m, X7_init_I I a) := by
  refine im_run (by decide +kernel) ⟨(show im_n S ≤ im_n S + 35 by omega), (show im_z S ≤ im_z S + 3208 by omega)⟩ (Nat.le_of_ble_eq_true rfl) ?_
  intro X hl hX hxn hxz hxc hxs
  subst hl
  change im_E X k _ 0 [some (.ref a), some (.ref p), some (.ref m)] [] S I
  refine r_aload_n (pc := 0) hX dX7_init_0 rfl ?_
  refine r_objInit (pc := 1) hX dX7_init_1 ml_X7_3 w_objInit (Nat.le_of_ble_eq_true rfl) (by decide) rfl ?_
  refine r_aload_n (pc := 4) hX dX7_init_4 rfl ?_
  refine r_aload_n (pc := 5) hX dX7_init_5 rfl ?_
  refine r_putr (pc := 6) hX dX7_init_6 fl_X7_9 (by first | exact Or.inl rfl | exact Or.inr ⟨rfl, rfl, rfl⟩) rfl hk ?_
  refine r_aload_n (pc := 9) hX dX7_init_9 rfl ?_
  refine r_aload_n (pc := 10) hX dX7_init_10 rfl ?_
  refine r_putr (pc := 11) hX dX7_init_11 fl_X7_15 (by first | exact Or.inl rfl | exact Or.inr ⟨rfl, rfl, rfl⟩) rfl hk ?_
  refine r_aload_n (pc := 14) hX dX7_init_14 rfl ?_
  refine r_new2 (pc := 15) hX (a + 1) 12 (show im_n S + 0 + 2 = a + 1 by omega) rfl dX7_init_15 cl_X7_19 (by rw [hxn, hxz, hxc, hxs]; exact ⟨(show im_n S + 0 + 1 - im_n S ≤ (im_n S + 35) - im_n S by omega), (show im_z S + 0 + 12 - im_z S ≤ (im_z S + 3208) - im_z S by omega)⟩) ?_
  refine r_dup (pc := 18) hX dX7_init_18 rfl ?_
  refine r_aload_n (pc := 19) hX dX7_init_19 rfl ?_
  refine r_aload_n (pc := 20) hX dX7_init_20 rfl ?_
  refine r_callI (Z := mX0_init) (pc := 21) hX dX7_init_21 ml_X7_21 mX0_init_w (sp_X0_init (kk_new (show im_n S + 0 + 2 = a + 1 by omega)) (show im_n S + 1 + 1 = (a + 1) by omega)) rfl rfl (Nat.le_of_ble_eq_true rfl) (by decide) rfl (Or.inr (by rw [hxn, hxz, hxc, hxs]; exact ⟨(show im_n S + 9 - im_n S ≤ (im_n S + 35) - im_n S by omega), (show im_z S + 972 - im_z S ≤ (im_z S + 3208) - im_z S by omega)⟩)) ?_
  refine r_putr (pc := 24) hX dX7_init_24 fl_X7_24 (by first | exact Or.inl rfl | exact Or.inr ⟨rfl, rfl, rfl⟩) rfl (X0_init_k (show im_n S + 1 + 1 = (a + 1) by omega) (kk_al (show im_n S + 0 + 2 = a + 1 by omega) hk (by decide)) (by decide)) ?_
  refine r_aload_n (pc := 27) hX dX7_init_27 rfl ?_
  refine r_new2 (pc := 28) hX (a + 10) 7 (show im_n S + 9 + 2 = a + 10 by omega) rfl dX7_init_28 cl_X7_28 (by rw [hxn, hxz, hxc, hxs]; exact ⟨(show im_n S + 9 + 1 - im_n S ≤ (im_n S + 35) - im_n S by omega), (show im_z S + 972 + 7 - im_z S ≤ (im_z S + 3208) - im_z S by omega)⟩) ?_
  refine r_dup (pc := 31) hX dX7_init_31 rfl ?_
  refine r_callI (Z := mX3_init) (pc := 32) hX dX7_init_32 ml_X7_30 mX3_init_w (sp_X3_init (kk_new (show im_n S + 9 + 2 = a + 10 by omega)) (show im_n S + 10 + 1 = (a + 10) by omega)) rfl rfl (Nat.le_of_ble_eq_true rfl) (by decide) rfl (Or.inr (by rw [hxn, hxz, hxc, hxs]; exact ⟨(show im_n S + 16 - im_n S ≤ (im_n S + 35) - im_n S by omega), (show im_z S + 1683 - im_z S ≤ (im_z S + 3208) - im_z S by omega)⟩)) ?_
  refine r_putr (pc := 35) hX dX7_init_35 fl_X7_31 (by first | exact Or.inl rfl | exact Or.inr ⟨rfl, rfl, rfl⟩) rfl (X3_init_k (show im_n S + 10 + 1 = (a + 10) by omega) (kk_al (show im_n S + 9 + 2 = a + 10 by omega) (X0_init_k (show im_n S + 1 + 1 = (a + 1) by omega) (kk_al (show im_n S + 0 + 2 = a + 1 by omega) hk (by decide)) (by decide)) (by decide)) (by decide)) ?_
  refine r_aload_n (pc := 38) hX dX7_init_38 rfl ?_
  refine r_new2 (pc := 39) hX (a + 17) 12 (show im_n S + 16 + 2 = a + 17 by omega) rfl dX7_init_39 cl_X7_35 (by rw [hxn, hxz, hxc, hxs]; exact ⟨(show im_n S + 16 + 1 - im_n S ≤ (im_n S + 35) - im_n S by omega), (show im_z S + 1683 + 12 - im_z S ≤ (im_z S + 3208) - im_z S by omega)⟩) ?_
  refine r_dup (pc := 42) hX dX7_init_42 rfl ?_
  refine r_aload_n (pc := 43) hX dX7_init_43 rfl ?_
  refine r_callI (Z := mX4_init) (pc := 44) hX dX7_init_44 ml_X7_37 mX4_init_w (sp_X4_init (kk_new (show im_n S + 16 + 2 = a + 17 by omega)) (show im_n S + 17 + 1 = (a + 17) by omega)) rfl rfl (Nat.le_of_ble_eq_true rfl) (by decide) rfl (Or.inr (by rw [hxn, hxz, hxc, hxs]; exact ⟨(show im_n S + 25 - im_n S ≤ (im_n S + 35) - im_n S by omega), (show im_z S + 2399 - im_z S ≤ (im_z S + 3208) - im_z S by omega)⟩)) ?_
  refine r_putr (pc := 47) hX dX7_init_47 fl_X7_40 (by first | exact Or.inl rfl | exact Or.inr ⟨rfl, rfl, rfl⟩) rfl (X4_init_k (show im_n S + 17 + 1 = (a + 17) by omega) (kk_al (show im_n S + 16 + 2 = a + 17 by omega) (X3_init_k (show im_n S + 10 + 1 = (a + 10) by omega) (kk_al (show im_n S + 9 + 2 = a + 10 by omega) (X0_init_k (show im_n S + 1 + 1 = (a + 1) by omega) (kk_al (show im_n S + 0 + 2 = a + 1 by omega) hk (by decide)) (by decide)) (by decide)) (by decide)) (by decide)) (by decide)) ?_
  refine r_aload_n (pc := 50) hX dX7_init_50 rfl ?_
  refine r_iconst (pc := 51) hX 5 dX7_init_51 (by decide) ?_
  refine r_newa2 (pc := 52) hX (a + 26) 5 (show im_n S + 25 + 2 = a + 26 by omega) dX7_init_52 (by decide) (by decide) (by decide) (by rw [hxn, hxz, hxc, hxs]; exact ⟨(show im_n S + 25 + 1 - im_n S ≤ (im_n S + 35) - im_n S by omega), (show im_z S + 2399 + 5 - im_z S ≤ (im_z S + 3208) - im_z S by omega)⟩) ?_
  refine r_putr (pc := 54) hX dX7_init_54 fl_X7_44 (by first | exact Or.inl rfl | exact Or.inr ⟨rfl, rfl, rfl⟩) rfl (kk_al (show im_n S + 25 + 2 = a + 26 by omega) (X4_init_k (show im_n S + 17 + 1 = (a + 17) by omega) (kk_al (show im_n S + 16 + 2 = a + 17 by omega) (X3_init_k (show im_n S + 10 + 1 = (a + 10) by omega) (kk_al (show im_n S + 9 + 2 = a + 10 by omega) (X0_init_k (show im_n S + 1 + 1 = (a + 1) by omega) (kk_al (show im_n S + 0 + 2 = a + 1 by omega) hk (by decide)) (by decide)) (by decide)) (by decide)) (by decide)) (by decide)) (by decide)) ?_
  refine r_aload_n (pc := 57) hX dX7_init_57 rfl ?_
  refine r_new2 (pc := 58) hX (a + 27) 7 (show im_n S + 26 + 2 = a + 27 by omega) rfl dX7_init_58 cl_X7_28 (by rw [hxn, hxz, hxc, hxs]; exact ⟨(show im_n S + 26 + 1 - im_n S ≤ (im_n S + 35) - im_n S by omega), (show im_z S + 2404 + 7 - im_z S ≤ (im_z S + 3208) - im_z S by omega)⟩) ?_
  refine r_dup (pc := 61) hX dX7_init_61 rfl ?_
  refine r_callI (Z := mX3_init) (pc := 62) hX dX7_init_62 ml_X7_30 mX3_init_w (sp_X3_init (kk_new (show im_n S + 26 + 2 = a + 27 by omega)) (show im_n S + 27 + 1 = (a + 27) by omega)) rfl rfl (Nat.le_of_ble_eq_true rfl) (by decide) rfl (Or.inr (by rw [hxn, hxz, hxc, hxs]; exact ⟨(show im_n S + 33 - im_n S ≤ (im_n S + 35) - im_n S by omega), (show im_z S + 3115 - im_z S ≤ (im_z S + 3208) - im_z S by omega)⟩)) ?_
  refine r_putr (pc := 65) hX dX7_init_65 fl_X7_48 (by first | exact Or.inl rfl | exact Or.inr ⟨rfl, rfl, rfl⟩) rfl (X3_init_k (show im_n S + 27 + 1 = (a + 27) by omega) (kk_al (show im_n S + 26 + 2 = a + 27 by omega) (kk_al (show im_n S + 25 + 2 = a + 26 by omega) (X4_init_k (show im_n S + 17 + 1 = (a + 17) by omega) (kk_al (show im_n S + 16 + 2 = a + 17 by omega) (X3_init_k (show im_n S + 10 + 1 = (a + 10) by omega) (kk_al (show im_n S + 9 + 2 = a + 10 by omega) (X0_init_k (show im_n S + 1 + 1 = (a + 1) by omega) (kk_al (show im_n S + 0 + 2 = a + 1 by omega) hk (by decide)) (by decide)) (by decide)) (by decide)) (by decide)) (by decide)) (by decide)) (by decide)) (by decide)) ?_
  refine r_aload_n (pc := 68) hX dX7_init_68 rfl ?_
  refine r_iconst (pc := 69) hX 5 dX7_init_69 (by decide) ?_
  refine r_newa2 (pc := 70) hX (a + 34) 5 (show im_n S + 33 + 2 = a + 34 by omega) dX7_init_70 (by decide) (by decide) (by decide) (by rw [hxn, hxz, hxc, hxs]; exact ⟨(show im_n S + 33 + 1 - im_n S ≤ (im_n S + 35) - im_n S by omega), (show im_z S + 3115 + 5 - im_z S ≤ (im_z S + 3208) - im_z S by omega)⟩) ?_
  refine r_putr (pc := 72) hX dX7_init_72 fl_X7_51 (by first | exact Or.inl rfl | exact Or.inr ⟨rfl, rfl, rfl⟩) rfl (kk_al (show im_n S + 33 + 2 = a + 34 by omega) (X3_init_k (show im_n S + 27 + 1 = (a + 27) by omega) (kk_al (show im_n S + 26 + 2 = a + 27 by omega) (kk_al (show im_n S + 25 + 2 = a + 26 by omega) (X4_init_k (show im_n S + 17 + 1 = (a + 17) by omega) (kk_al (show im_n S + 16 + 2 = a + 17 by omega) (X3_init_k (show im_n S + 10 + 1 = (a + 10) by omega) (kk_al (show im_n S + 9 + 2 = a + 10 by omega) (X0_init_k (show im_n S + 1 + 1 = (a + 1) by omega) (kk_al (show im_n S + 0 + 2 = a + 1 by omega) hk (by decide)) (by decide)) (by decide)) (by decide)) (by decide)) (by decide)) (by decide)) (by decide)) (by decide)) (by decide)) ?_
  refine r_aload_n (pc := 75) hX dX7_init_75 rfl ?_
  refine r_bipush (pc := 76) hX 88 dX7_init_76 (by decide) ?_
  refine r_newa2 (pc := 78) hX (a + 35) 88 (show im_n S + 34 + 2 = a + 35 by omega) dX7_init_78 (by decide) (by decide) (by decide) (by rw [hxn, hxz, hxc, hxs]; exact ⟨(show im_n S + 34 + 1 - im_n S ≤ (im_n S + 35) - im_n S by omega), (show im_z S + 3120 + 88 - im_z S ≤ (im_z S + 3208) - im_z S by omega)⟩) ?_
  refine r_putr (pc := 80) hX dX7_init_80 fl_X7_54 (by first | exact Or.inl rfl | exact Or.inr ⟨rfl, rfl, rfl⟩) rfl (kk_al (show im_n S + 34 + 2 = a + 35 by omega) (kk_al (show im_n S + 33 + 2 = a + 34 by omega) (X3_init_k (show im_n S + 27 + 1 = (a + 27) by omega) (kk_al (show im_n S + 26 + 2 = a + 27 by omega) (kk_al (show im_n S + 25 + 2 = a + 26 by omega) (X4_init_k (show im_n S + 17 + 1 = (a + 17) by omega) (kk_al (show im_n S + 16 + 2 = a + 17 by omega) (X3_init_k (show im_n S + 10 + 1 = (a + 10) by omega) (kk_al (show im_n S + 9 + 2 = a + 10 by omega) (X0_init_k (show im_n S + 1 + 1 = (a + 1) by omega) (kk_al (show im_n S + 0 + 2 = a + 1 by omega) hk (by decide)) (by decide)) (by decide)) (by decide)) (by decide)) (by decide)) (by decide)) (by decide)) (by decide)) (by decide)) (by decide)) ?_
  exact r_return (pc := 83) hX dX7_init_83 rfl rfl rfl
theorem X7_init_k {S : im_S} {a x : Nat} {p m : Nat} {v : Nat × Nat} (hn : im_n S + 1 = a) (h : im_k S x = v) (hv : v.1 < 99) : im_k (X7_init_S S a p m) x = v := by
  unfold X7_init_S
  exact (kk_al (show im_n S + 34 + 2 = a + 35 by omega) (kk_al (show im_n S + 33 + 2 = a + 34 by omega) (X3_init_k (show im_n S + 27 + 1 = (a + 27) by omega) (kk_al (show im_n S + 26 + 2 = a + 27 by omega) (kk_al (show im_n S + 25 + 2 = a + 26 by omega) (X4_init_k (show im_n S + 17 + 1 = (a + 17) by omega) (kk_al (show im_n S + 16 + 2 = a + 17 by omega) (X3_init_k (show im_n S + 10 + 1 = (a + 10) by omega) (kk_al (show im_n S + 9 + 2 = a + 10 by omega) (X0_init_k (show im_n S + 1 + 1 = (a + 1) by omega) (kk_al (show im_n S + 0 + 2 = a + 1 by omega) h hv) hv) hv) hv) hv) hv) hv) hv) hv) hv) hv)
theorem X7_init_r {S : im_S} {a x j v : Nat} {p m : Nat} (hx : x < a) (h : im_r S x j = v) : im_r (X7_init_S S a p m) x j = v := by
  unfold X7_init_S
  exact (rr_upr (by omega) (rr_al (by omega) (rr_upr (by omega) (rr_al (by omega) (rr_upr (by omega) (X3_init_r (by omega) (rr_al (by omega) (rr_upr (by omega) (rr_al (by omega) (rr_upr (by omega) (X4_init_r (by omega) (rr_al (by omega) (rr_upr (by omega) (X3_init_r (by omega) (rr_al (by omega) (rr_upr (by omega) (X0_init_r (by omega) (rr_al (by omega) (rr_upr (by omega) (rr_upr (by omega) h))))))))))))))))))))
def X11_init_S (S : im_S) (a : Nat) : im_S := (im_upr (X10_init_S (im_alS (im_upr (X10_init_S (im_alS (im_upr (X7_init_S (im_alS (im_upr (X7_init_S (im_alS (im_upr (X5_init_S (im_alS (im_upr (X5_init_S (im_alS (im_upr (X6_init_S (im_alS (im_upr (X8_init_S (im_alS S (a + 1) 8 11) (a + 1)) a 0 ((a + 1) + 1)) (a + 10) 6 3) (a + 10) (a + 1)) a 1 ((a + 10) + 1)) (a + 13) 5 6) (a + 13)) a 2 ((a + 13) + 1)) (a + 15) 5 6) (a + 15)) a 3 ((a + 15) + 1)) (a + 17) 7 9) (a + 17) (a + 1) (a + 13)) a 4 ((a + 17) + 1)) (a + 53) 7 9) (a + 53) (a + 1) (a + 15)) a 5 ((a + 53) + 1)) (a + 89) 10 4) (a + 89) (a + 1) (a + 13)) a 6 ((a + 89) + 1)) (a + 106) 10 4) (a + 106) (a + 1) (a + 15)) a 7 ((a + 106) + 1))
def X11_init_I (I : im_I) (a : Nat) : im_I := (X10_init_I (im_alI (X10_init_I (im_alI (X7_init_I (im_alI (X7_init_I (im_alI (X5_init_I (im_alI (X5_init_I (im_alI (X6_init_I (im_alI (X8_init_I (im_alI I (a + 1)) (a + 1)) (a + 10)) (a + 10)) (a + 13)) (a + 13)) (a + 15)) (a + 15)) (a + 17)) (a + 17)) (a + 53)) (a + 53)) (a + 89)) (a + 89)) (a + 106)) (a + 106))
set_option maxRecDepth 100000 in
set_option maxHeartbeats 1000000 in
theorem sp_X11_init {l : Launch} {k : im_K} {S : im_S} {I : im_I} {a : Nat} (hk : im_k S a = (11, im_N 11)) (hn : im_n S + 1 = a) : im_Runs l k 3 mX11_init [.ref a] (S, I) (none) (X11_init_S S a, X11_init_I I a) := by
  refine im_run (by decide +kernel) ⟨(show im_n S ≤ im_n S + 122 by omega), (show im_z S ≤ im_z S + 15816 by omega)⟩ (Nat.le_of_ble_eq_true rfl) ?_
  intro X hl hX hxn hxz hxc hxs
  subst hl
  change im_E X k _ 0 [some (.ref a)] [] S I
  refine r_aload_n (pc := 0) hX dX11_init_0 rfl ?_
  refine r_objInit (pc := 1) hX dX11_init_1 ml_X11_3 w_objInit (Nat.le_of_ble_eq_true rfl) (by decide) rfl ?_
  refine r_aload_n (pc := 4) hX dX11_init_4 rfl ?_
  refine r_new2 (pc := 5) hX (a + 1) 11 (show im_n S + 0 + 2 = a + 1 by omega) rfl dX11_init_5 cl_X11_9 (by rw [hxn, hxz, hxc, hxs]; exact ⟨(show im_n S + 0 + 1 - im_n S ≤ (im_n S + 122) - im_n S by omega), (show im_z S + 0 + 11 - im_z S ≤ (im_z S + 15816) - im_z S by omega)⟩) ?_
  refine r_dup (pc := 8) hX dX11_init_8 rfl ?_
  refine r_callI (Z := mX8_init) (pc := 9) hX dX11_init_9 ml_X11_11 mX8_init_w (sp_X8_init (kk_new (show im_n S + 0 + 2 = a + 1 by omega)) (show im_n S + 1 + 1 = (a + 1) by omega)) rfl rfl (Nat.le_of_ble_eq_true rfl) (by decide) rfl (Or.inr (by rw [hxn, hxz, hxc, hxs]; exact ⟨(show im_n S + 9 - im_n S ≤ (im_n S + 122) - im_n S by omega), (show im_z S + 531 - im_z S ≤ (im_z S + 15816) - im_z S by omega)⟩)) ?_
  refine r_putr (pc := 12) hX dX11_init_12 fl_X11_12 (by first | exact Or.inl rfl | exact Or.inr ⟨rfl, rfl, rfl⟩) rfl (X8_init_k (show im_n S + 1 + 1 = (a + 1) by omega) (kk_al (show im_n S + 0 + 2 = a + 1 by omega) hk (by decide)) (by decide)) ?_
  refine r_aload_n (pc := 15) hX dX11_init_15 rfl ?_
  refine r_new2 (pc := 16) hX (a + 10) 3 (show im_n S + 9 + 2 = a + 10 by omega) rfl dX11_init_16 cl_X11_16 (by rw [hxn, hxz, hxc, hxs]; exact ⟨(show im_n S + 9 + 1 - im_n S ≤ (im_n S + 122) - im_n S by omega), (show im_z S + 531 + 3 - im_z S ≤ (im_z S + 15816) - im_z S by omega)⟩) ?_
  refine r_dup (pc := 19) hX dX11_init_19 rfl ?_
  refine r_aload_n (pc := 20) hX dX11_init_20 rfl ?_
  refine r_getr (pc := 21) hX dX11_init_21 fl_X11_12 rfl (kk_al (show im_n S + 9 + 2 = a + 10 by omega) (X8_init_k (show im_n S + 1 + 1 = (a + 1) by omega) (kk_al (show im_n S + 0 + 2 = a + 1 by omega) hk (by decide)) (by decide)) (by decide)) (rr_al (by omega) rr_new) ?_
  refine r_callI (Z := mX6_init) (pc := 24) hX dX11_init_24 ml_X11_18 mX6_init_w (sp_X6_init (kk_new (show im_n S + 9 + 2 = a + 10 by omega)) (show im_n S + 10 + 1 = (a + 10) by omega)) rfl rfl (Nat.le_of_ble_eq_true rfl) (by decide) rfl (Or.inr (by rw [hxn, hxz, hxc, hxs]; exact ⟨(show im_n S + 12 - im_n S ≤ (im_n S + 122) - im_n S by omega), (show im_z S + 622 - im_z S ≤ (im_z S + 15816) - im_z S by omega)⟩)) ?_
  refine r_putr (pc := 27) hX dX11_init_27 fl_X11_21 (by first | exact Or.inl rfl | exact Or.inr ⟨rfl, rfl, rfl⟩) rfl (X6_init_k (show im_n S + 10 + 1 = (a + 10) by omega) (kk_al (show im_n S + 9 + 2 = a + 10 by omega) (X8_init_k (show im_n S + 1 + 1 = (a + 1) by omega) (kk_al (show im_n S + 0 + 2 = a + 1 by omega) hk (by decide)) (by decide)) (by decide)) (by decide)) ?_
  refine r_aload_n (pc := 30) hX dX11_init_30 rfl ?_
  refine r_new2 (pc := 31) hX (a + 13) 6 (show im_n S + 12 + 2 = a + 13 by omega) rfl dX11_init_31 cl_X11_25 (by rw [hxn, hxz, hxc, hxs]; exact ⟨(show im_n S + 12 + 1 - im_n S ≤ (im_n S + 122) - im_n S by omega), (show im_z S + 622 + 6 - im_z S ≤ (im_z S + 15816) - im_z S by omega)⟩) ?_
  refine r_dup (pc := 34) hX dX11_init_34 rfl ?_
  refine r_callI (Z := mX5_init) (pc := 35) hX dX11_init_35 ml_X11_27 mX5_init_w (sp_X5_init (kk_new (show im_n S + 12 + 2 = a + 13 by omega)) (show im_n S + 13 + 1 = (a + 13) by omega)) rfl rfl (Nat.le_of_ble_eq_true rfl) (by decide) rfl (Or.inr (by rw [hxn, hxz, hxc, hxs]; exact ⟨(show im_n S + 14 - im_n S ≤ (im_n S + 122) - im_n S by omega), (show im_z S + 636 - im_z S ≤ (im_z S + 15816) - im_z S by omega)⟩)) ?_
  refine r_putr (pc := 38) hX dX11_init_38 fl_X11_28 (by first | exact Or.inl rfl | exact Or.inr ⟨rfl, rfl, rfl⟩) rfl (X5_init_k (show im_n S + 13 + 1 = (a + 13) by omega) (kk_al (show im_n S + 12 + 2 = a + 13 by omega) (X6_init_k (show im_n S + 10 + 1 = (a + 10) by omega) (kk_al (show im_n S + 9 + 2 = a + 10 by omega) (X8_init_k (show im_n S + 1 + 1 = (a + 1) by omega) (kk_al (show im_n S + 0 + 2 = a + 1 by omega) hk (by decide)) (by decide)) (by decide)) (by decide)) (by decide)) (by decide)) ?_
  refine r_aload_n (pc := 41) hX dX11_init_41 rfl ?_
  refine r_new2 (pc := 42) hX (a + 15) 6 (show im_n S + 14 + 2 = a + 15 by omega) rfl dX11_init_42 cl_X11_25 (by rw [hxn, hxz, hxc, hxs]; exact ⟨(show im_n S + 14 + 1 - im_n S ≤ (im_n S + 122) - im_n S by omega), (show im_z S + 636 + 6 - im_z S ≤ (im_z S + 15816) - im_z S by omega)⟩) ?_
  refine r_dup (pc := 45) hX dX11_init_45 rfl ?_
  refine r_callI (Z := mX5_init) (pc := 46) hX dX11_init_46 ml_X11_27 mX5_init_w (sp_X5_init (kk_new (show im_n S + 14 + 2 = a + 15 by omega)) (show im_n S + 15 + 1 = (a + 15) by omega)) rfl rfl (Nat.le_of_ble_eq_true rfl) (by decide) rfl (Or.inr (by rw [hxn, hxz, hxc, hxs]; exact ⟨(show im_n S + 16 - im_n S ≤ (im_n S + 122) - im_n S by omega), (show im_z S + 650 - im_z S ≤ (im_z S + 15816) - im_z S by omega)⟩)) ?_
  refine r_putr (pc := 49) hX dX11_init_49 fl_X11_32 (by first | exact Or.inl rfl | exact Or.inr ⟨rfl, rfl, rfl⟩) rfl (X5_init_k (show im_n S + 15 + 1 = (a + 15) by omega) (kk_al (show im_n S + 14 + 2 = a + 15 by omega) (X5_init_k (show im_n S + 13 + 1 = (a + 13) by omega) (kk_al (show im_n S + 12 + 2 = a + 13 by omega) (X6_init_k (show im_n S + 10 + 1 = (a + 10) by omega) (kk_al (show im_n S + 9 + 2 = a + 10 by omega) (X8_init_k (show im_n S + 1 + 1 = (a + 1) by omega) (kk_al (show im_n S + 0 + 2 = a + 1 by omega) hk (by decide)) (by decide)) (by decide)) (by decide)) (by decide)) (by decide)) (by decide)) (by decide)) ?_
  refine r_aload_n (pc := 52) hX dX11_init_52 rfl ?_
  refine r_new2 (pc := 53) hX (a + 17) 9 (show im_n S + 16 + 2 = a + 17 by omega) rfl dX11_init_53 cl_X11_35 (by rw [hxn, hxz, hxc, hxs]; exact ⟨(show im_n S + 16 + 1 - im_n S ≤ (im_n S + 122) - im_n S by omega), (show im_z S + 650 + 9 - im_z S ≤ (im_z S + 15816) - im_z S by omega)⟩) ?_
  refine r_dup (pc := 56) hX dX11_init_56 rfl ?_
  refine r_aload_n (pc := 57) hX dX11_init_57 rfl ?_
  refine r_getr (pc := 58) hX dX11_init_58 fl_X11_12 rfl (kk_al (show im_n S + 16 + 2 = a + 17 by omega) (X5_init_k (show im_n S + 15 + 1 = (a + 15) by omega) (kk_al (show im_n S + 14 + 2 = a + 15 by omega) (X5_init_k (show im_n S + 13 + 1 = (a + 13) by omega) (kk_al (show im_n S + 12 + 2 = a + 13 by omega) (X6_init_k (show im_n S + 10 + 1 = (a + 10) by omega) (kk_al (show im_n S + 9 + 2 = a + 10 by omega) (X8_init_k (show im_n S + 1 + 1 = (a + 1) by omega) (kk_al (show im_n S + 0 + 2 = a + 1 by omega) hk (by decide)) (by decide)) (by decide)) (by decide)) (by decide)) (by decide)) (by decide)) (by decide)) (by decide)) (rr_al (by omega) (rr_upr (by omega) (X5_init_r (by omega) (rr_al (by omega) (rr_upr (by omega) (X5_init_r (by omega) (rr_al (by omega) (rr_upr (by omega) (X6_init_r (by omega) (rr_al (by omega) rr_new)))))))))) ?_
  refine r_aload_n (pc := 61) hX dX11_init_61 rfl ?_
  refine r_getr (pc := 62) hX dX11_init_62 fl_X11_28 rfl (kk_al (show im_n S + 16 + 2 = a + 17 by omega) (X5_init_k (show im_n S + 15 + 1 = (a + 15) by omega) (kk_al (show im_n S + 14 + 2 = a + 15 by omega) (X5_init_k (show im_n S + 13 + 1 = (a + 13) by omega) (kk_al (show im_n S + 12 + 2 = a + 13 by omega) (X6_init_k (show im_n S + 10 + 1 = (a + 10) by omega) (kk_al (show im_n S + 9 + 2 = a + 10 by omega) (X8_init_k (show im_n S + 1 + 1 = (a + 1) by omega) (kk_al (show im_n S + 0 + 2 = a + 1 by omega) hk (by decide)) (by decide)) (by decide)) (by decide)) (by decide)) (by decide)) (by decide)) (by decide)) (by decide)) (rr_al (by omega) (rr_upr (by omega) (X5_init_r (by omega) (rr_al (by omega) rr_new)))) ?_
  refine r_callI (Z := mX7_init) (pc := 65) hX dX11_init_65 ml_X11_37 mX7_init_w (sp_X7_init (kk_new (show im_n S + 16 + 2 = a + 17 by omega)) (show im_n S + 17 + 1 = (a + 17) by omega)) rfl rfl (Nat.le_of_ble_eq_true rfl) (by decide) rfl (Or.inr (by rw [hxn, hxz, hxc, hxs]; exact ⟨(show im_n S + 52 - im_n S ≤ (im_n S + 122) - im_n S by omega), (show im_z S + 3867 - im_z S ≤ (im_z S + 15816) - im_z S by omega)⟩)) ?_
  refine r_putr (pc := 68) hX dX11_init_68 fl_X11_40 (by first | exact Or.inl rfl | exact Or.inr ⟨rfl, rfl, rfl⟩) rfl (X7_init_k (show im_n S + 17 + 1 = (a + 17) by omega) (kk_al (show im_n S + 16 + 2 = a + 17 by omega) (X5_init_k (show im_n S + 15 + 1 = (a + 15) by omega) (kk_al (show im_n S + 14 + 2 = a + 15 by omega) (X5_init_k (show im_n S + 13 + 1 = (a + 13) by omega) (kk_al (show im_n S + 12 + 2 = a + 13 by omega) (X6_init_k (show im_n S + 10 + 1 = (a + 10) by omega) (kk_al (show im_n S + 9 + 2 = a + 10 by omega) (X8_init_k (show im_n S + 1 + 1 = (a + 1) by omega) (kk_al (show im_n S + 0 + 2 = a + 1 by omega) hk (by decide)) (by decide)) (by decide)) (by decide)) (by decide)) (by decide)) (by decide)) (by decide)) (by decide)) (by decide)) ?_
  refine r_aload_n (pc := 71) hX dX11_init_71 rfl ?_
  refine r_new2 (pc := 72) hX (a + 53) 9 (show im_n S + 52 + 2 = a + 53 by omega) rfl dX11_init_72 cl_X11_35 (by rw [hxn, hxz, hxc, hxs]; exact ⟨(show im_n S + 52 + 1 - im_n S ≤ (im_n S + 122) - im_n S by omega), (show im_z S + 3867 + 9 - im_z S ≤ (im_z S + 15816) - im_z S by omega)⟩) ?_
  refine r_dup (pc := 75) hX dX11_init_75 rfl ?_
  refine r_aload_n (pc := 76) hX dX11_init_76 rfl ?_
  refine r_getr (pc := 77) hX dX11_init_77 fl_X11_12 rfl (kk_al (show im_n S + 52 + 2 = a + 53 by omega) (X7_init_k (show im_n S + 17 + 1 = (a + 17) by omega) (kk_al (show im_n S + 16 + 2 = a + 17 by omega) (X5_init_k (show im_n S + 15 + 1 = (a + 15) by omega) (kk_al (show im_n S + 14 + 2 = a + 15 by omega) (X5_init_k (show im_n S + 13 + 1 = (a + 13) by omega) (kk_al (show im_n S + 12 + 2 = a + 13 by omega) (X6_init_k (show im_n S + 10 + 1 = (a + 10) by omega) (kk_al (show im_n S + 9 + 2 = a + 10 by omega) (X8_init_k (show im_n S + 1 + 1 = (a + 1) by omega) (kk_al (show im_n S + 0 + 2 = a + 1 by omega) hk (by decide)) (by decide)) (by decide)) (by decide)) (by decide)) (by decide)) (by decide)) (by decide)) (by decide)) (by decide)) (by decide)) (rr_al (by omega) (rr_upr (by omega) (X7_init_r (by omega) (rr_al (by omega) (rr_upr (by omega) (X5_init_r (by omega) (rr_al (by omega) (rr_upr (by omega) (X5_init_r (by omega) (rr_al (by omega) (rr_upr (by omega) (X6_init_r (by omega) (rr_al (by omega) rr_new))))))))))))) ?_
  refine r_aload_n (pc := 80) hX dX11_init_80 rfl ?_
  refine r_getr (pc := 81) hX dX11_init_81 fl_X11_32 rfl (kk_al (show im_n S + 52 + 2 = a + 53 by omega) (X7_init_k (show im_n S + 17 + 1 = (a + 17) by omega) (kk_al (show im_n S + 16 + 2 = a + 17 by omega) (X5_init_k (show im_n S + 15 + 1 = (a + 15) by omega) (kk_al (show im_n S + 14 + 2 = a + 15 by omega) (X5_init_k (show im_n S + 13 + 1 = (a + 13) by omega) (kk_al (show im_n S + 12 + 2 = a + 13 by omega) (X6_init_k (show im_n S + 10 + 1 = (a + 10) by omega) (kk_al (show im_n S + 9 + 2 = a + 10 by omega) (X8_init_k (show im_n S + 1 + 1 = (a + 1) by omega) (kk_al (show im_n S + 0 + 2 = a + 1 by omega) hk (by decide)) (by decide)) (by decide)) (by decide)) (by decide)) (by decide)) (by decide)) (by decide)) (by decide)) (by decide)) (by decide)) (rr_al (by omega) (rr_upr (by omega) (X7_init_r (by omega) (rr_al (by omega) rr_new)))) ?_
  refine r_callI (Z := mX7_init) (pc := 84) hX dX11_init_84 ml_X11_37 mX7_init_w (sp_X7_init (kk_new (show im_n S + 52 + 2 = a + 53 by omega)) (show im_n S + 53 + 1 = (a + 53) by omega)) rfl rfl (Nat.le_of_ble_eq_true rfl) (by decide) rfl (Or.inr (by rw [hxn, hxz, hxc, hxs]; exact ⟨(show im_n S + 88 - im_n S ≤ (im_n S + 122) - im_n S by omega), (show im_z S + 7084 - im_z S ≤ (im_z S + 15816) - im_z S by omega)⟩)) ?_
  refine r_putr (pc := 87) hX dX11_init_87 fl_X11_44 (by first | exact Or.inl rfl | exact Or.inr ⟨rfl, rfl, rfl⟩) rfl (X7_init_k (show im_n S + 53 + 1 = (a + 53) by omega) (kk_al (show im_n S + 52 + 2 = a + 53 by omega) (X7_init_k (show im_n S + 17 + 1 = (a + 17) by omega) (kk_al (show im_n S + 16 + 2 = a + 17 by omega) (X5_init_k (show im_n S + 15 + 1 = (a + 15) by omega) (kk_al (show im_n S + 14 + 2 = a + 15 by omega) (X5_init_k (show im_n S + 13 + 1 = (a + 13) by omega) (kk_al (show im_n S + 12 + 2 = a + 13 by omega) (X6_init_k (show im_n S + 10 + 1 = (a + 10) by omega) (kk_al (show im_n S + 9 + 2 = a + 10 by omega) (X8_init_k (show im_n S + 1 + 1 = (a + 1) by omega) (kk_al (show im_n S + 0 + 2 = a + 1 by omega) hk (by decide)) (by decide)) (by decide)) (by decide)) (by decide)) (by decide)) (by decide)) (by decide)) (by decide)) (by decide)) (by decide)) (by decide)) ?_
  refine r_aload_n (pc := 90) hX dX11_init_90 rfl ?_
  refine r_new2 (pc := 91) hX (a + 89) 4 (show im_n S + 88 + 2 = a + 89 by omega) rfl dX11_init_91 cl_X11_47 (by rw [hxn, hxz, hxc, hxs]; exact ⟨(show im_n S + 88 + 1 - im_n S ≤ (im_n S + 122) - im_n S by omega), (show im_z S + 7084 + 4 - im_z S ≤ (im_z S + 15816) - im_z S by omega)⟩) ?_
  refine r_dup (pc := 94) hX dX11_init_94 rfl ?_
  refine r_aload_n (pc := 95) hX dX11_init_95 rfl ?_
  refine r_getr (pc := 96) hX dX11_init_96 fl_X11_12 rfl (kk_al (show im_n S + 88 + 2 = a + 89 by omega) (X7_init_k (show im_n S + 53 + 1 = (a + 53) by omega) (kk_al (show im_n S + 52 + 2 = a + 53 by omega) (X7_init_k (show im_n S + 17 + 1 = (a + 17) by omega) (kk_al (show im_n S + 16 + 2 = a + 17 by omega) (X5_init_k (show im_n S + 15 + 1 = (a + 15) by omega) (kk_al (show im_n S + 14 + 2 = a + 15 by omega) (X5_init_k (show im_n S + 13 + 1 = (a + 13) by omega) (kk_al (show im_n S + 12 + 2 = a + 13 by omega) (X6_init_k (show im_n S + 10 + 1 = (a + 10) by omega) (kk_al (show im_n S + 9 + 2 = a + 10 by omega) (X8_init_k (show im_n S + 1 + 1 = (a + 1) by omega) (kk_al (show im_n S + 0 + 2 = a + 1 by omega) hk (by decide)) (by decide)) (by decide)) (by decide)) (by decide)) (by decide)) (by decide)) (by decide)) (by decide)) (by decide)) (by decide)) (by decide)) (by decide)) (rr_al (by omega) (rr_upr (by omega) (X7_init_r (by omega) (rr_al (by omega) (rr_upr (by omega) (X7_init_r (by omega) (rr_al (by omega) (rr_upr (by omega) (X5_init_r (by omega) (rr_al (by omega) (rr_upr (by omega) (X5_init_r (by omega) (rr_al (by omega) (rr_upr (by omega) (X6_init_r (by omega) (rr_al (by omega) rr_new)))))))))))))))) ?_
  refine r_aload_n (pc := 99) hX dX11_init_99 rfl ?_
  refine r_getr (pc := 100) hX dX11_init_100 fl_X11_28 rfl (kk_al (show im_n S + 88 + 2 = a + 89 by omega) (X7_init_k (show im_n S + 53 + 1 = (a + 53) by omega) (kk_al (show im_n S + 52 + 2 = a + 53 by omega) (X7_init_k (show im_n S + 17 + 1 = (a + 17) by omega) (kk_al (show im_n S + 16 + 2 = a + 17 by omega) (X5_init_k (show im_n S + 15 + 1 = (a + 15) by omega) (kk_al (show im_n S + 14 + 2 = a + 15 by omega) (X5_init_k (show im_n S + 13 + 1 = (a + 13) by omega) (kk_al (show im_n S + 12 + 2 = a + 13 by omega) (X6_init_k (show im_n S + 10 + 1 = (a + 10) by omega) (kk_al (show im_n S + 9 + 2 = a + 10 by omega) (X8_init_k (show im_n S + 1 + 1 = (a + 1) by omega) (kk_al (show im_n S + 0 + 2 = a + 1 by omega) hk (by decide)) (by decide)) (by decide)) (by decide)) (by decide)) (by decide)) (by decide)) (by decide)) (by decide)) (by decide)) (by decide)) (by decide)) (by decide)) (rr_al (by omega) (rr_upr (by omega) (X7_init_r (by omega) (rr_al (by omega) (rr_upr (by omega) (X7_init_r (by omega) (rr_al (by omega) (rr_upr (by omega) (X5_init_r (by omega) (rr_al (by omega) rr_new)))))))))) ?_
  refine r_callI (Z := mX10_init) (pc := 103) hX dX11_init_103 ml_X11_49 mX10_init_w (sp_X10_init (kk_new (show im_n S + 88 + 2 = a + 89 by omega)) (show im_n S + 89 + 1 = (a + 89) by omega)) rfl rfl (Nat.le_of_ble_eq_true rfl) (by decide) rfl (Or.inr (by rw [hxn, hxz, hxc, hxs]; exact ⟨(show im_n S + 105 - im_n S ≤ (im_n S + 122) - im_n S by omega), (show im_z S + 11450 - im_z S ≤ (im_z S + 15816) - im_z S by omega)⟩)) ?_
  refine r_putr (pc := 106) hX dX11_init_106 fl_X11_50 (by first | exact Or.inl rfl | exact Or.inr ⟨rfl, rfl, rfl⟩) rfl (X10_init_k (show im_n S + 89 + 1 = (a + 89) by omega) (kk_al (show im_n S + 88 + 2 = a + 89 by omega) (X7_init_k (show im_n S + 53 + 1 = (a + 53) by omega) (kk_al (show im_n S + 52 + 2 = a + 53 by omega) (X7_init_k (show im_n S + 17 + 1 = (a + 17) by omega) (kk_al (show im_n S + 16 + 2 = a + 17 by omega) (X5_init_k (show im_n S + 15 + 1 = (a + 15) by omega) (kk_al (show im_n S + 14 + 2 = a + 15 by omega) (X5_init_k (show im_n S + 13 + 1 = (a + 13) by omega) (kk_al (show im_n S + 12 + 2 = a + 13 by omega) (X6_init_k (show im_n S + 10 + 1 = (a + 10) by omega) (kk_al (show im_n S + 9 + 2 = a + 10 by omega) (X8_init_k (show im_n S + 1 + 1 = (a + 1) by omega) (kk_al (show im_n S + 0 + 2 = a + 1 by omega) hk (by decide)) (by decide)) (by decide)) (by decide)) (by decide)) (by decide)) (by decide)) (by decide)) (by decide)) (by decide)) (by decide)) (by decide)) (by decide)) (by decide)) ?_
  refine r_aload_n (pc := 109) hX dX11_init_109 rfl ?_
  refine r_new2 (pc := 110) hX (a + 106) 4 (show im_n S + 105 + 2 = a + 106 by omega) rfl dX11_init_110 cl_X11_47 (by rw [hxn, hxz, hxc, hxs]; exact ⟨(show im_n S + 105 + 1 - im_n S ≤ (im_n S + 122) - im_n S by omega), (show im_z S + 11450 + 4 - im_z S ≤ (im_z S + 15816) - im_z S by omega)⟩) ?_
  refine r_dup (pc := 113) hX dX11_init_113 rfl ?_
  refine r_aload_n (pc := 114) hX dX11_init_114 rfl ?_
  refine r_getr (pc := 115) hX dX11_init_115 fl_X11_12 rfl (kk_al (show im_n S + 105 + 2 = a + 106 by omega) (X10_init_k (show im_n S + 89 + 1 = (a + 89) by omega) (kk_al (show im_n S + 88 + 2 = a + 89 by omega) (X7_init_k (show im_n S + 53 + 1 = (a + 53) by omega) (kk_al (show im_n S + 52 + 2 = a + 53 by omega) (X7_init_k (show im_n S + 17 + 1 = (a + 17) by omega) (kk_al (show im_n S + 16 + 2 = a + 17 by omega) (X5_init_k (show im_n S + 15 + 1 = (a + 15) by omega) (kk_al (show im_n S + 14 + 2 = a + 15 by omega) (X5_init_k (show im_n S + 13 + 1 = (a + 13) by omega) (kk_al (show im_n S + 12 + 2 = a + 13 by omega) (X6_init_k (show im_n S + 10 + 1 = (a + 10) by omega) (kk_al (show im_n S + 9 + 2 = a + 10 by omega) (X8_init_k (show im_n S + 1 + 1 = (a + 1) by omega) (kk_al (show im_n S + 0 + 2 = a + 1 by omega) hk (by decide)) (by decide)) (by decide)) (by decide)) (by decide)) (by decide)) (by decide)) (by decide)) (by decide)) (by decide)) (by decide)) (by decide)) (by decide)) (by decide)) (by decide)) (rr_al (by omega) (rr_upr (by omega) (X10_init_r (by omega) (rr_al (by omega) (rr_upr (by omega) (X7_init_r (by omega) (rr_al (by omega) (rr_upr (by omega) (X7_init_r (by omega) (rr_al (by omega) (rr_upr (by omega) (X5_init_r (by omega) (rr_al (by omega) (rr_upr (by omega) (X5_init_r (by omega) (rr_al (by omega) (rr_upr (by omega) (X6_init_r (by omega) (rr_al (by omega) rr_new))))))))))))))))))) ?_
  refine r_aload_n (pc := 118) hX dX11_init_118 rfl ?_
  refine r_getr (pc := 119) hX dX11_init_119 fl_X11_32 rfl (kk_al (show im_n S + 105 + 2 = a + 106 by omega) (X10_init_k (show im_n S + 89 + 1 = (a + 89) by omega) (kk_al (show im_n S + 88 + 2 = a + 89 by omega) (X7_init_k (show im_n S + 53 + 1 = (a + 53) by omega) (kk_al (show im_n S + 52 + 2 = a + 53 by omega) (X7_init_k (show im_n S + 17 + 1 = (a + 17) by omega) (kk_al (show im_n S + 16 + 2 = a + 17 by omega) (X5_init_k (show im_n S + 15 + 1 = (a + 15) by omega) (kk_al (show im_n S + 14 + 2 = a + 15 by omega) (X5_init_k (show im_n S + 13 + 1 = (a + 13) by omega) (kk_al (show im_n S + 12 + 2 = a + 13 by omega) (X6_init_k (show im_n S + 10 + 1 = (a + 10) by omega) (kk_al (show im_n S + 9 + 2 = a + 10 by omega) (X8_init_k (show im_n S + 1 + 1 = (a + 1) by omega) (kk_al (show im_n S + 0 + 2 = a + 1 by omega) hk (by decide)) (by decide)) (by decide)) (by decide)) (by decide)) (by decide)) (by decide)) (by decide)) (by decide)) (by decide)) (by decide)) (by decide)) (by decide)) (by decide)) (by decide)) (rr_al (by omega) (rr_upr (by omega) (X10_init_r (by omega) (rr_al (by omega) (rr_upr (by omega) (X7_init_r (by omega) (rr_al (by omega) (rr_upr (by omega) (X7_init_r (by omega) (rr_al (by omega) rr_new)))))))))) ?_
  refine r_callI (Z := mX10_init) (pc := 122) hX dX11_init_122 ml_X11_49 mX10_init_w (sp_X10_init (kk_new (show im_n S + 105 + 2 = a + 106 by omega)) (show im_n S + 106 + 1 = (a + 106) by omega)) rfl rfl (Nat.le_of_ble_eq_true rfl) (by decide) rfl (Or.inr (by rw [hxn, hxz, hxc, hxs]; exact ⟨(show im_n S + 122 - im_n S ≤ (im_n S + 122) - im_n S by omega), (show im_z S + 15816 - im_z S ≤ (im_z S + 15816) - im_z S by omega)⟩)) ?_
  refine r_putr (pc := 125) hX dX11_init_125 fl_X11_54 (by first | exact Or.inl rfl | exact Or.inr ⟨rfl, rfl, rfl⟩) rfl (X10_init_k (show im_n S + 106 + 1 = (a + 106) by omega) (kk_al (show im_n S + 105 + 2 = a + 106 by omega) (X10_init_k (show im_n S + 89 + 1 = (a + 89) by omega) (kk_al (show im_n S + 88 + 2 = a + 89 by omega) (X7_init_k (show im_n S + 53 + 1 = (a + 53) by omega) (kk_al (show im_n S + 52 + 2 = a + 53 by omega) (X7_init_k (show im_n S + 17 + 1 = (a + 17) by omega) (kk_al (show im_n S + 16 + 2 = a + 17 by omega) (X5_init_k (show im_n S + 15 + 1 = (a + 15) by omega) (kk_al (show im_n S + 14 + 2 = a + 15 by omega) (X5_init_k (show im_n S + 13 + 1 = (a + 13) by omega) (kk_al (show im_n S + 12 + 2 = a + 13 by omega) (X6_init_k (show im_n S + 10 + 1 = (a + 10) by omega) (kk_al (show im_n S + 9 + 2 = a + 10 by omega) (X8_init_k (show im_n S + 1 + 1 = (a + 1) by omega) (kk_al (show im_n S + 0 + 2 = a + 1 by omega) hk (by decide)) (by decide)) (by decide)) (by decide)) (by decide)) (by decide)) (by decide)) (by decide)) (by decide)) (by decide)) (by decide)) (by decide)) (by decide)) (by decide)) (by decide)) (by decide)) ?_
  exact r_return (pc := 128) hX dX11_init_128 rfl rfl rfl
theorem X11_init_k {S : im_S} {a x : Nat} {v : Nat × Nat} (hn : im_n S + 1 = a) (h : im_k S x = v) (hv : v.1 < 99) : im_k (X11_init_S S a) x = v := by
  unfold X11_init_S
  exact (X10_init_k (show im_n S + 106 + 1 = (a + 106) by omega) (kk_al (show im_n S + 105 + 2 = a + 106 by omega) (X10_init_k (show im_n S + 89 + 1 = (a + 89) by omega) (kk_al (show im_n S + 88 + 2 = a + 89 by omega) (X7_init_k (show im_n S + 53 + 1 = (a + 53) by omega) (kk_al (show im_n S + 52 + 2 = a + 53 by omega) (X7_init_k (show im_n S + 17 + 1 = (a + 17) by omega) (kk_al (show im_n S + 16 + 2 = a + 17 by omega) (X5_init_k (show im_n S + 15 + 1 = (a + 15) by omega) (kk_al (show im_n S + 14 + 2 = a + 15 by omega) (X5_init_k (show im_n S + 13 + 1 = (a + 13) by omega) (kk_al (show im_n S + 12 + 2 = a + 13 by omega) (X6_init_k (show im_n S + 10 + 1 = (a + 10) by omega) (kk_al (show im_n S + 9 + 2 = a + 10 by omega) (X8_init_k (show im_n S + 1 + 1 = (a + 1) by omega) (kk_al (show im_n S + 0 + 2 = a + 1 by omega) h hv) hv) hv) hv) hv) hv) hv) hv) hv) hv) hv) hv) hv) hv) hv) hv)
theorem X11_init_r {S : im_S} {a x j v : Nat} (hx : x < a) (h : im_r S x j = v) : im_r (X11_init_S S a) x j = v := by
  unfold X11_init_S
  exact (rr_upr (by omega) (X10_init_r (by omega) (rr_al (by omega) (rr_upr (by omega) (X10_init_r (by omega) (rr_al (by omega) (rr_upr (by omega) (X7_init_r (by omega) (rr_al (by omega) (rr_upr (by omega) (X7_init_r (by omega) (rr_al (by omega) (rr_upr (by omega) (X5_init_r (by omega) (rr_al (by omega) (rr_upr (by omega) (X5_init_r (by omega) (rr_al (by omega) (rr_upr (by omega) (X6_init_r (by omega) (rr_al (by omega) (rr_upr (by omega) (X8_init_r (by omega) (rr_al (by omega) h))))))))))))))))))))))))
def X12_init_S (S : im_S) (a : Nat) : im_S := (im_upr (im_alS (im_upr (im_alS (im_upr (im_alS (im_upr (im_alS S (a + 1) 21 0) a 0 ((a + 1) + 1)) (a + 2) 21 0) a 1 ((a + 2) + 1)) (a + 3) 20 4) a 2 ((a + 3) + 1)) (a + 4) 20 8) a 3 ((a + 4) + 1))
def X12_init_I (I : im_I) (a : Nat) : im_I := (im_up (im_up (im_up (im_up (im_up (im_up (im_up (im_up (im_up (im_up (im_up (im_up (im_up (im_alI (im_up (im_up (im_up (im_up (im_alI (im_alI (im_alI I (a + 1)) (a + 2)) (a + 3)) (a + 3) 0 1) (a + 3) 1 1) (a + 3) 2 1) (a + 3) 3 1) (a + 4)) (a + 4) 0 1) (a + 4) 1 1) (a + 4) 2 1) (a + 4) 3 3) (a + 4) 4 3) (a + 4) 5 2) (a + 4) 6 1) (a + 4) 7 5) a 4 8) a 5 28) a 6 15) a 7 1) a 9 1)
set_option maxRecDepth 100000 in
set_option maxHeartbeats 1000000 in
theorem sp_X12_init {l : Launch} {k : im_K} {S : im_S} {I : im_I} {a : Nat} (hk : im_k S a = (12, im_N 12)) (hn : im_n S + 1 = a) : im_Runs l k 1 mX12_init [.ref a] (S, I) (none) (X12_init_S S a, X12_init_I I a) := by
  refine im_run (by decide +kernel) ⟨(show im_n S ≤ im_n S + 4 by omega), (show im_z S ≤ im_z S + 12 by omega)⟩ (Nat.le_of_ble_eq_true rfl) ?_
  intro X hl hX hxn hxz hxc hxs
  subst hl
  change im_E X k _ 0 [some (.ref a)] [] S I
  refine r_aload_n (pc := 0) hX dX12_init_0 rfl ?_
  refine r_objInit (pc := 1) hX dX12_init_1 ml_X12_1 w_objInit (Nat.le_of_ble_eq_true rfl) (by decide) rfl ?_
  refine r_aload_n (pc := 4) hX dX12_init_4 rfl ?_
  refine r_iconst (pc := 5) hX 0 dX12_init_5 (by decide) ?_
  refine r_anew2 (pc := 6) hX (a + 1) 0 (show im_n S + 0 + 2 = a + 1 by omega) dX12_init_6 cl_X12_7 (by decide) (by decide) (by decide) (by rw [hxn, hxz, hxc, hxs]; exact ⟨(show im_n S + 0 + 1 - im_n S ≤ (im_n S + 4) - im_n S by omega), (show im_z S + 0 + 0 - im_z S ≤ (im_z S + 12) - im_z S by omega)⟩) ?_
  refine r_putr (pc := 9) hX dX12_init_9 fl_X12_9 (by first | exact Or.inl rfl | exact Or.inr ⟨rfl, rfl, rfl⟩) rfl (kk_al (show im_n S + 0 + 2 = a + 1 by omega) hk (by decide)) ?_
  refine r_aload_n (pc := 12) hX dX12_init_12 rfl ?_
  refine r_iconst (pc := 13) hX 0 dX12_init_13 (by decide) ?_
  refine r_anew2 (pc := 14) hX (a + 2) 0 (show im_n S + 1 + 2 = a + 2 by omega) dX12_init_14 cl_X12_7 (by decide) (by decide) (by decide) (by rw [hxn, hxz, hxc, hxs]; exact ⟨(show im_n S + 1 + 1 - im_n S ≤ (im_n S + 4) - im_n S by omega), (show im_z S + 0 + 0 - im_z S ≤ (im_z S + 12) - im_z S by omega)⟩) ?_
  refine r_putr (pc := 17) hX dX12_init_17 fl_X12_15 (by first | exact Or.inl rfl | exact Or.inr ⟨rfl, rfl, rfl⟩) rfl (kk_al (show im_n S + 1 + 2 = a + 2 by omega) (kk_al (show im_n S + 0 + 2 = a + 1 by omega) hk (by decide)) (by decide)) ?_
  refine r_aload_n (pc := 20) hX dX12_init_20 rfl ?_
  refine r_iconst (pc := 21) hX 4 dX12_init_21 (by decide) ?_
  refine r_newa2 (pc := 22) hX (a + 3) 4 (show im_n S + 2 + 2 = a + 3 by omega) dX12_init_22 (by decide) (by decide) (by decide) (by rw [hxn, hxz, hxc, hxs]; exact ⟨(show im_n S + 2 + 1 - im_n S ≤ (im_n S + 4) - im_n S by omega), (show im_z S + 0 + 4 - im_z S ≤ (im_z S + 12) - im_z S by omega)⟩) ?_
  refine r_dup (pc := 24) hX dX12_init_24 rfl ?_
  refine r_iconst (pc := 25) hX 0 dX12_init_25 (by decide) ?_
  refine r_iconst (pc := 26) hX 1 dX12_init_26 (by decide) ?_
  refine r_iast (pc := 27) hX dX12_init_27 (kk_new (show im_n S + 2 + 2 = a + 3 by omega)) (by rw [vp_in_iff]; decide) ?_
  refine r_dup (pc := 28) hX dX12_init_28 rfl ?_
  refine r_iconst (pc := 29) hX 1 dX12_init_29 (by decide) ?_
  refine r_iconst (pc := 30) hX 1 dX12_init_30 (by decide) ?_
  refine r_iast (pc := 31) hX dX12_init_31 (kk_new (show im_n S + 2 + 2 = a + 3 by omega)) (by rw [vp_in_iff]; decide) ?_
  refine r_dup (pc := 32) hX dX12_init_32 rfl ?_
  refine r_iconst (pc := 33) hX 2 dX12_init_33 (by decide) ?_
  refine r_iconst (pc := 34) hX 1 dX12_init_34 (by decide) ?_
  refine r_iast (pc := 35) hX dX12_init_35 (kk_new (show im_n S + 2 + 2 = a + 3 by omega)) (by rw [vp_in_iff]; decide) ?_
  refine r_dup (pc := 36) hX dX12_init_36 rfl ?_
  refine r_iconst (pc := 37) hX 3 dX12_init_37 (by decide) ?_
  refine r_iconst (pc := 38) hX 1 dX12_init_38 (by decide) ?_
  refine r_iast (pc := 39) hX dX12_init_39 (kk_new (show im_n S + 2 + 2 = a + 3 by omega)) (by rw [vp_in_iff]; decide) ?_
  refine r_putr (pc := 40) hX dX12_init_40 fl_X12_18 (by first | exact Or.inl rfl | exact Or.inr ⟨rfl, rfl, rfl⟩) rfl (kk_al (show im_n S + 2 + 2 = a + 3 by omega) (kk_al (show im_n S + 1 + 2 = a + 2 by omega) (kk_al (show im_n S + 0 + 2 = a + 1 by omega) hk (by decide)) (by decide)) (by decide)) ?_
  refine r_aload_n (pc := 43) hX dX12_init_43 rfl ?_
  refine r_bipush (pc := 44) hX 8 dX12_init_44 (by decide) ?_
  refine r_newa2 (pc := 46) hX (a + 4) 8 (show im_n S + 3 + 2 = a + 4 by omega) dX12_init_46 (by decide) (by decide) (by decide) (by rw [hxn, hxz, hxc, hxs]; exact ⟨(show im_n S + 3 + 1 - im_n S ≤ (im_n S + 4) - im_n S by omega), (show im_z S + 4 + 8 - im_z S ≤ (im_z S + 12) - im_z S by omega)⟩) ?_
  refine r_dup (pc := 48) hX dX12_init_48 rfl ?_
  refine r_iconst (pc := 49) hX 0 dX12_init_49 (by decide) ?_
  refine r_iconst (pc := 50) hX 1 dX12_init_50 (by decide) ?_
  refine r_iast (pc := 51) hX dX12_init_51 (kk_new (show im_n S + 3 + 2 = a + 4 by omega)) (by rw [vp_in_iff]; decide) ?_
  refine r_dup (pc := 52) hX dX12_init_52 rfl ?_
  refine r_iconst (pc := 53) hX 1 dX12_init_53 (by decide) ?_
  refine r_iconst (pc := 54) hX 1 dX12_init_54 (by decide) ?_
  refine r_iast (pc := 55) hX dX12_init_55 (kk_new (show im_n S + 3 + 2 = a + 4 by omega)) (by rw [vp_in_iff]; decide) ?_
  refine r_dup (pc := 56) hX dX12_init_56 rfl ?_
  refine r_iconst (pc := 57) hX 2 dX12_init_57 (by decide) ?_
  refine r_iconst (pc := 58) hX 1 dX12_init_58 (by decide) ?_
  refine r_iast (pc := 59) hX dX12_init_59 (kk_new (show im_n S + 3 + 2 = a + 4 by omega)) (by rw [vp_in_iff]; decide) ?_
  refine r_dup (pc := 60) hX dX12_init_60 rfl ?_
  refine r_iconst (pc := 61) hX 3 dX12_init_61 (by decide) ?_
  refine r_iconst (pc := 62) hX 3 dX12_init_62 (by decide) ?_
  refine r_iast (pc := 63) hX dX12_init_63 (kk_new (show im_n S + 3 + 2 = a + 4 by omega)) (by rw [vp_in_iff]; decide) ?_
  refine r_dup (pc := 64) hX dX12_init_64 rfl ?_
  refine r_iconst (pc := 65) hX 4 dX12_init_65 (by decide) ?_
  refine r_iconst (pc := 66) hX 3 dX12_init_66 (by decide) ?_
  refine r_iast (pc := 67) hX dX12_init_67 (kk_new (show im_n S + 3 + 2 = a + 4 by omega)) (by rw [vp_in_iff]; decide) ?_
  refine r_dup (pc := 68) hX dX12_init_68 rfl ?_
  refine r_iconst (pc := 69) hX 5 dX12_init_69 (by decide) ?_
  refine r_iconst (pc := 70) hX 2 dX12_init_70 (by decide) ?_
  refine r_iast (pc := 71) hX dX12_init_71 (kk_new (show im_n S + 3 + 2 = a + 4 by omega)) (by rw [vp_in_iff]; decide) ?_
  refine r_dup (pc := 72) hX dX12_init_72 rfl ?_
  refine r_bipush (pc := 73) hX 6 dX12_init_73 (by decide) ?_
  refine r_iconst (pc := 75) hX 1 dX12_init_75 (by decide) ?_
  refine r_iast (pc := 76) hX dX12_init_76 (kk_new (show im_n S + 3 + 2 = a + 4 by omega)) (by rw [vp_in_iff]; decide) ?_
  refine r_dup (pc := 77) hX dX12_init_77 rfl ?_
  refine r_bipush (pc := 78) hX 7 dX12_init_78 (by decide) ?_
  refine r_iconst (pc := 80) hX 5 dX12_init_80 (by decide) ?_
  refine r_iast (pc := 81) hX dX12_init_81 (kk_new (show im_n S + 3 + 2 = a + 4 by omega)) (by rw [vp_in_iff]; decide) ?_
  refine r_putr (pc := 82) hX dX12_init_82 fl_X12_21 (by first | exact Or.inl rfl | exact Or.inr ⟨rfl, rfl, rfl⟩) rfl (kk_al (show im_n S + 3 + 2 = a + 4 by omega) (kk_al (show im_n S + 2 + 2 = a + 3 by omega) (kk_al (show im_n S + 1 + 2 = a + 2 by omega) (kk_al (show im_n S + 0 + 2 = a + 1 by omega) hk (by decide)) (by decide)) (by decide)) (by decide)) ?_
  refine r_aload_n (pc := 85) hX dX12_init_85 rfl ?_
  refine r_bipush (pc := 86) hX 8 dX12_init_86 (by decide) ?_
  refine r_putiF (pc := 88) hX dX12_init_88 fl_X12_24 (by first | exact Or.inl rfl | exact Or.inr ⟨rfl, rfl, rfl⟩) (by decide) (kk_al (show im_n S + 3 + 2 = a + 4 by omega) (kk_al (show im_n S + 2 + 2 = a + 3 by omega) (kk_al (show im_n S + 1 + 2 = a + 2 by omega) (kk_al (show im_n S + 0 + 2 = a + 1 by omega) hk (by decide)) (by decide)) (by decide)) (by decide)) ?_
  refine r_aload_n (pc := 91) hX dX12_init_91 rfl ?_
  refine r_bipush (pc := 92) hX 28 dX12_init_92 (by decide) ?_
  refine r_putiF (pc := 94) hX dX12_init_94 fl_X12_28 (by first | exact Or.inl rfl | exact Or.inr ⟨rfl, rfl, rfl⟩) (by decide) (kk_al (show im_n S + 3 + 2 = a + 4 by omega) (kk_al (show im_n S + 2 + 2 = a + 3 by omega) (kk_al (show im_n S + 1 + 2 = a + 2 by omega) (kk_al (show im_n S + 0 + 2 = a + 1 by omega) hk (by decide)) (by decide)) (by decide)) (by decide)) ?_
  refine r_aload_n (pc := 97) hX dX12_init_97 rfl ?_
  refine r_bipush (pc := 98) hX 15 dX12_init_98 (by decide) ?_
  refine r_putiF (pc := 100) hX dX12_init_100 fl_X12_31 (by first | exact Or.inl rfl | exact Or.inr ⟨rfl, rfl, rfl⟩) (by decide) (kk_al (show im_n S + 3 + 2 = a + 4 by omega) (kk_al (show im_n S + 2 + 2 = a + 3 by omega) (kk_al (show im_n S + 1 + 2 = a + 2 by omega) (kk_al (show im_n S + 0 + 2 = a + 1 by omega) hk (by decide)) (by decide)) (by decide)) (by decide)) ?_
  refine r_aload_n (pc := 103) hX dX12_init_103 rfl ?_
  refine r_iconst (pc := 104) hX 1 dX12_init_104 (by decide) ?_
  refine r_putiF (pc := 105) hX dX12_init_105 fl_X12_34 (by first | exact Or.inl rfl | exact Or.inr ⟨rfl, rfl, rfl⟩) (by decide) (kk_al (show im_n S + 3 + 2 = a + 4 by omega) (kk_al (show im_n S + 2 + 2 = a + 3 by omega) (kk_al (show im_n S + 1 + 2 = a + 2 by omega) (kk_al (show im_n S + 0 + 2 = a + 1 by omega) hk (by decide)) (by decide)) (by decide)) (by decide)) ?_
  refine r_aload_n (pc := 108) hX dX12_init_108 rfl ?_
  refine r_iconst (pc := 109) hX 1 dX12_init_109 (by decide) ?_
  refine r_putiF (pc := 110) hX dX12_init_110 fl_X12_38 (by first | exact Or.inl rfl | exact Or.inr ⟨rfl, rfl, rfl⟩) (by decide) (kk_al (show im_n S + 3 + 2 = a + 4 by omega) (kk_al (show im_n S + 2 + 2 = a + 3 by omega) (kk_al (show im_n S + 1 + 2 = a + 2 by omega) (kk_al (show im_n S + 0 + 2 = a + 1 by omega) hk (by decide)) (by decide)) (by decide)) (by decide)) ?_
  exact r_return (pc := 113) hX dX12_init_113 rfl rfl rfl
theorem X12_init_k {S : im_S} {a x : Nat} {v : Nat × Nat} (hn : im_n S + 1 = a) (h : im_k S x = v) (hv : v.1 < 99) : im_k (X12_init_S S a) x = v := by
  unfold X12_init_S
  exact (kk_al (show im_n S + 3 + 2 = a + 4 by omega) (kk_al (show im_n S + 2 + 2 = a + 3 by omega) (kk_al (show im_n S + 1 + 2 = a + 2 by omega) (kk_al (show im_n S + 0 + 2 = a + 1 by omega) h hv) hv) hv) hv)
theorem X12_init_r {S : im_S} {a x j v : Nat} (hx : x < a) (h : im_r S x j = v) : im_r (X12_init_S S a) x j = v := by
  unfold X12_init_S
  exact (rr_upr (by omega) (rr_al (by omega) (rr_upr (by omega) (rr_al (by omega) (rr_upr (by omega) (rr_al (by omega) (rr_upr (by omega) (rr_al (by omega) h))))))))
