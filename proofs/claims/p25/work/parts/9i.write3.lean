/-! the law's write behind its loop, by gen24.py -/
def timesV_ (k : im_K) (i : Int32) : Int32 := 1 + below_ (cell_ k (i + 3) >>> ((4 : Int32) &&& 31)) 3
def timesStep_ (k : im_K) (i : Int32) (J : im_I) : im_I := forget_ (put_ (im_up J (125 + 3) i.toNatClampNeg (timesV_ k i)) 4 4 i (timesV_ k i)) 2
def times_ (k : im_K) (I : im_I) : im_I := loopC 0 4 (timesStep_ k) I
def outV_ (k : im_K) : Int32 := below_ (cell_ k 9) 64 ||| 1
def wrOut_ (k : im_K) (I : im_I) : im_I := forget_ (im_up (im_up (times_ k I) 125 9 (outV_ k)) 3 2 (outV_ k)) 2
def wrEnd_ (k : im_K) (p : Int32) (I : im_I) : im_I := mach_ k 125 p (wrOut_ k I)
theorem one_below {v n : Int32} (hn : 0 < n.toInt) (h9 : n.toInt ≤ 1000) : ∃ t : Nat, 1 + below_ v n = nI t ∧ 1 ≤ t ∧ (t : Int) ≤ n.toInt := by
  obtain ⟨h1, h2⟩ := below_range (v := v) hn
  refine ⟨(below_ v n).toInt.toNat + 1, ?_, by omega, by omega⟩
  apply Int32.toInt_inj.mp
  rw [nI_toInt (by omega), Int32.toInt_add, show (1 : Int32).toInt = 1 by decide, Int.bmod_eq_of_le (by omega) (by omega)]
  omega
theorem timesV_nat (k : im_K) (i : Int32) : ∃ t, timesV_ k i = nI t ∧ 1 ≤ t ∧ t ≤ 3 := by
  obtain ⟨t, t1, t2, t3⟩ := one_below (v := cell_ k (i + 3) >>> ((4 : Int32) &&& 31)) (n := 3) (by decide) (by decide)
  rw [show (3 : Int32).toInt = 3 by decide] at t3
  exact ⟨t, t1, t2, by omega⟩
theorem timesV_ge (k : im_K) (i : Int32) : ¬ timesV_ k i < 1 := by
  obtain ⟨t, t1, t2, t3⟩ := timesV_nat k i
  rw [t1]
  exact nI_nlt (a := t) (b := 1) t2 (by omega)
theorem timesV_le (k : im_K) (i : Int32) : timesV_ k i ≤ 9 := by
  obtain ⟨t, t1, t2, t3⟩ := timesV_nat k i
  rw [t1]
  exact nI_le (a := t) (b := 9) (by omega) (by decide)
theorem lt4 {i : Int32} (h : ¬ 4 ≤ i) : i < 2000000 := by
  have c2 := Int32.lt_iff_toInt_lt.mp (Int32.not_le.mp h)
  have e8 : (4 : Int32).toInt = 4 := by decide
  have e2 : (2000000 : Int32).toInt = 2000000 := by decide
  rw [Int32.lt_iff_toInt_lt]
  omega
/-- TIMES from i on are 1 -/
def onesFrom (i : Int32) (J : im_I) : Prop := ∀ j : Nat, j < 4 → i ≤ nI j → J 4 j = 1
theorem lt4_nat {i : Int32} (h : ¬ i < 0) (c : ¬ 4 ≤ i) : ∃ j, j < 4 ∧ i = nI j := by
  obtain ⟨j, hj, rfl⟩ := nI_of h
  refine ⟨j, ?_, rfl⟩
  apply Nat.lt_of_not_le
  intro hle
  exact c (nI_le (a := 4) hle hj)
theorem onesFrom_at {k : im_K} {i : Int32} {J : im_I} (h : ¬ i < 0) (c : ¬ 4 ≤ i) (ho : onesFrom i J) : roundsOf_ (im_up J (125 + 3) i.toNatClampNeg (timesV_ k i)) 3 i = 1 := by
  obtain ⟨j, hj, rfl⟩ := lt4_nat h c
  unfold roundsOf_
  rw [if_neg (nI_m1 (by omega)), at_nat hj (by decide), up_fr (by decide)]
  exact ho j hj (Int32.le_refl _)
theorem onesFrom_step {k : im_K} {i : Int32} {J : im_I} (h : ¬ i < 0) (c : ¬ 4 ≤ i) (ho : onesFrom i J) : onesFrom (i + 1) (timesStep_ k i J) := by
  obtain ⟨j, hj, rfl⟩ := lt4_nat h c
  intro q hq hle
  have hjq : j + 1 ≤ q := by
    apply Nat.le_of_not_lt
    intro hlt
    rw [← nI_succ] at hle
    exact nI_ge hlt (by omega) hle
  unfold timesStep_
  rw [forget_fr (by decide), put_nat hj (by decide), up_ne (by omega), up_fr (by decide)]
  exact ho q hq (nI_le (by omega) (by omega))
set_option maxRecDepth 100000 in
set_option maxHeartbeats 1000000 in
theorem wr_end {X : im_X} {k : im_K} {S : im_S} {I : im_I} {rn nn rs ns : Nat} {p m0 : Int32} (hX : im_Ok X k mL_write 9) (hm : o_X11 S 2) (ho : o_X12 S 125 rn nn rs ns) (hkL : kL k < 2 ^ 31) (h1s : onesFrom 0 I) (hout : im_up (times_ k I) 125 9 (outV_ k) 3 2 = 1) (ho0 : ¬ outV_ k < 0) (ho1 : outV_ k ≤ 255) (hp : ¬ p < 0) (hp3 : p < 2000000)
    (hwas : wrOut_ k I 15 0 = wrOut_ k I 125 4) (hls : latSame 125 (mach1_ k 125 p (wrOut_ k I))) (hmk : isMachine_ ((mach0_ k 125 p (wrOut_ k I)) 125 4) ((mach0_ k 125 p (wrOut_ k I)) 125 5) = true) (hms0 : ¬ (mach0_ k 125 p (wrOut_ k I)) 125 6 < 0) (hms1 : (mach0_ k 125 p (wrOut_ k I)) 125 6 ≤ 99) (hmf : (mach0_ k 125 p (wrOut_ k I)) 125 7 = 0 ∨ (mach0_ k 125 p (wrOut_ k I)) 125 7 = 1) (hmt : (mach0_ k 125 p (wrOut_ k I)) 125 8 = 0 ∨ (mach0_ k 125 p (wrOut_ k I)) 125 8 = 1)
    (latV_ge : ∀ (k : im_K) (i : Int32), ¬ latV_ k i < 1) (latV_le : ∀ (k : im_K) (i : Int32), latV_ k i ≤ 9) :
    im_E X k (im_Q X k (some (.int 1)) (S, wrEnd_ k p I)) 200 [some (.ref 2), some (.ref 125), some (.ref 0), some (.int p), some (.int m0), some (.int m0), none, none, none, none, none, none, none, none, none] [] S I := by
  refine r_iconst (pc := 200) hX 0 dL_write_200 (by decide) ?_
  refine r_istore (pc := 201) hX (L' := [_, _, _, _, _, _, _, _, _, _, _, _, _, _, _]) dL_write_201 rfl rfl (Nat.le_of_ble_eq_true rfl) ?_
  have hL203 : ∀ (w1 : Nat) (i1 : Int32) (J1 : im_I), ¬ i1 < 0 → onesFrom i1 J1 → cnt i1 (4) = w1 → loopN w1 i1 (timesStep_ k) J1 = loopN (cnt (0) (4)) (0) (timesStep_ k) (I) → im_E X k (im_Q X k (some (.int 1)) (S, wrEnd_ k p I)) 203 [some (.ref 2), some (.ref 125), some (.ref 0), some (.int p), none, some (.int i1), none, none, none, none, none, none, none, none, none] [] S J1 := by
    intro w1
    induction w1 with
    | zero =>
      intro i1 J1 hp1 hl1 hm1 hR1
      refine r_iload (pc := 203) hX dL_write_203 rfl ?_
      refine r_iconst (pc := 205) hX 4 dL_write_205 (by decide) ?_
      refine r_icmp_ge (pc := 206) hX 257 dL_write_206 (by decide) (fun c206 => ?_) (fun c206 => ?_)
      · have c206d := Int32.not_lt.mpr c206
        rw [loopN_0] at hR1
        subst hR1
        refine r_aload_n (pc := 257) hX dL_write_257 rfl ?_
        refine r_aload_n (pc := 258) hX dL_write_258 rfl ?_
        refine r_bipush (pc := 259) hX 9 dL_write_259 (by decide) ?_
        refine r_callS (Z := mL_cell) (pc := 261) hX dL_write_261 ml_L_25 mL_cell_w (sp_L_cell  (by decide) hkL) rfl rfl (Nat.le_of_ble_eq_true rfl) (by decide) rfl (Or.inl rfl) ?_
        refine r_bipush (pc := 264) hX 64 dL_write_264 (by decide) ?_
        refine r_callS (Z := mL_below) (pc := 266) hX dL_write_266 ml_L_31 mL_below_w (sp_L_below (by decide)) rfl rfl (Nat.le_of_ble_eq_true rfl) (by decide) rfl (Or.inl rfl) ?_
        refine r_iconst (pc := 269) hX 1 dL_write_269 (by decide) ?_
        refine r_ior (pc := 270) hX dL_write_270 ?_
        refine r_puti (pc := 271) hX dL_write_271 fl_L_59 rfl rfl (o_X12_k ho) ?_
        refine r_mem (I' := im_up (times_ k I) 125 9 (outV_ k)) rfl ?_
        refine r_aload_n (pc := 274) hX dL_write_274 rfl ?_
        refine r_aload_n (pc := 275) hX dL_write_275 rfl ?_
        refine r_geti (pc := 276) hX dL_write_276 fl_L_59 rfl (o_X12_k ho) ?_
        rw [im_up_same]
        refine r_callV (Z := mX11_out) (t := 11) (pc := 279) hX dL_write_279 ml_L_63 mX11_out_w ⟨by decide, rfl⟩ (o_X11_k hm) (sp_X11_out hm ho0 ho1) rfl rfl (Nat.le_of_ble_eq_true rfl) (by decide) rfl (Or.inl rfl) ?_
        refine r_iconst (pc := 282) hX 1 dL_write_282 (by decide) ?_
        refine r_icmp_ne (pc := 283) hX 300 dL_write_283 (by decide) (fun c283 => ?_) (fun c283 => ?_)
        · exact absurd hout c283
        · refine r_mem (I' := wrOut_ k I) rfl ?_
          refine r_aload_n (pc := 286) hX dL_write_286 rfl ?_
          refine r_aload_n (pc := 287) hX dL_write_287 rfl ?_
          refine r_aload_n (pc := 288) hX dL_write_288 rfl ?_
          refine r_iload_n (pc := 289) hX dL_write_289 rfl ?_
          refine r_callS (Z := mL_machine) (pc := 290) hX dL_write_290 ml_L_66 mL_machine_w (sp_L_machine hm ho  (by decide) hp hp3 hkL hwas hls hmk hms0 hms1 hmf hmt latV_ge latV_le) rfl rfl (Nat.le_of_ble_eq_true rfl) (by decide) rfl (Or.inl rfl) ?_
          refine r_if_eq (pc := 293) hX 300 dL_write_293 (by decide) (fun c293 => ?_) (fun c293 => ?_)
          · exact absurd c293 (by decide)
          · refine r_iconst (pc := 296) hX 1 dL_write_296 (by decide) ?_
            refine r_goto (pc := 297) hX (tgt := 301) dL_write_297 (by decide) ?_
            exact r_ireturn (pc := 301) hX dL_write_301 rfl rfl (by first | with_reducible rfl | (simp only [timesStep_, eq_true c206, eq_false c206d, eq_true c283, ↓reduceIte, if_true, if_false, decide_true, decide_false, eq_self, b2i_t, b2i_f, Bool.false_eq_true, and_true, true_and, and_false, false_and, or_true, true_or, or_false, false_or, not_true_eq_false, not_false_eq_true] <;> rfl) | simp [timesStep_, eq_true c206, eq_false c206d, eq_true c283]) rfl
      · have c206d := Int32.not_le.mp c206
        exact (cnt_ex hm1  c206).elim
    | succ w1 ih1 =>
      intro i1 J1 hp1 hl1 hm1 hR1
      refine r_iload (pc := 203) hX dL_write_203 rfl ?_
      refine r_iconst (pc := 205) hX 4 dL_write_205 (by decide) ?_
      refine r_icmp_ge (pc := 206) hX 257 dL_write_206 (by decide) (fun c206 => ?_) (fun c206 => ?_)
      · have c206d := Int32.not_lt.mpr c206
        exact (cnt_go hm1  c206).elim
      · have c206d := Int32.not_le.mp c206
        refine r_aload_n (pc := 209) hX dL_write_209 rfl ?_
        refine r_getr (pc := 210) hX dL_write_210 fl_L_53 rfl (o_X12_k ho) (o_X12_r2 ho) ?_
        refine r_iload (pc := 213) hX dL_write_213 rfl ?_
        refine r_iconst (pc := 215) hX 1 dL_write_215 (by decide) ?_
        refine r_aload_n (pc := 216) hX dL_write_216 rfl ?_
        refine r_iload (pc := 217) hX dL_write_217 rfl ?_
        refine r_iconst (pc := 219) hX 3 dL_write_219 (by decide) ?_
        refine r_iadd (pc := 220) hX dL_write_220 ?_
        refine r_callS (Z := mL_cell) (pc := 221) hX dL_write_221 ml_L_25 mL_cell_w (sp_L_cell  (p_nn hp1 (by decide) (lt4 c206)) hkL) rfl rfl (Nat.le_of_ble_eq_true rfl) (by decide) rfl (Or.inl rfl) ?_
        refine r_iconst (pc := 224) hX 4 dL_write_224 (by decide) ?_
        refine r_ishr (pc := 225) hX dL_write_225 ?_
        refine r_iconst (pc := 226) hX 3 dL_write_226 (by decide) ?_
        refine r_callS (Z := mL_below) (pc := 227) hX dL_write_227 ml_L_31 mL_below_w (sp_L_below (by decide)) rfl rfl (Nat.le_of_ble_eq_true rfl) (by decide) rfl (Or.inl rfl) ?_
        refine r_iadd (pc := 230) hX dL_write_230 ?_
        refine r_iast (pc := 231) hX dL_write_231 (o_X12_a2 ho) (im_vp hp1 c206 (by decide)) ?_
        refine r_mem (I' := im_up J1 (125 + 3) i1.toNatClampNeg (timesV_ k i1)) rfl ?_
        refine r_aload_n (pc := 232) hX dL_write_232 rfl ?_
        refine r_iload (pc := 233) hX dL_write_233 rfl ?_
        refine r_aload_n (pc := 235) hX dL_write_235 rfl ?_
        refine r_getr (pc := 236) hX dL_write_236 fl_L_53 rfl (o_X12_k ho) (o_X12_r2 ho) ?_
        refine r_iload (pc := 239) hX dL_write_239 rfl ?_
        refine r_iald (pc := 241) hX dL_write_241 (o_X12_a2 ho) (im_vp hp1 c206 (by decide)) ?_
        rw [im_up_same]
        refine r_callV (Z := mX11_times) (t := 11) (pc := 242) hX dL_write_242 ml_L_57 mX11_times_w ⟨by decide, rfl⟩ (o_X11_k hm) (sp_X11_times hm (below_ok hp1 c206) (timesV_ge k i1) (timesV_le k i1)) rfl rfl (Nat.le_of_ble_eq_true rfl) (by decide) rfl (Or.inl rfl) ?_
        refine r_iconst (pc := 245) hX 1 dL_write_245 (by decide) ?_
        refine r_icmp_eq (pc := 246) hX 251 dL_write_246 (by decide) (fun c246 => ?_) (fun c246 => ?_)
        · refine r_iinc (pc := 251) hX 1 (L' := [_, _, _, _, _, _, _, _, _, _, _, _, _, _, _]) dL_write_251 rfl (by decide) rfl rfl ?_
          refine r_goto (pc := 254) hX (tgt := 203) dL_write_254 (by decide) ?_
          refine r_mem (I' := (timesStep_ k) i1 J1) (by first | with_reducible rfl | (simp only [timesStep_, eq_false c206, eq_true c206d, eq_true c246, ↓reduceIte, if_true, if_false, decide_true, decide_false, eq_self, b2i_t, b2i_f, Bool.false_eq_true, and_true, true_and, and_false, false_and, or_true, true_or, or_false, false_or, not_true_eq_false, not_false_eq_true] <;> rfl) | simp [timesStep_, eq_false c206, eq_true c206d, eq_true c246]) ?_
          exact ih1 _ _ (nneg_step hp1 c206) (onesFrom_step hp1 c206 hl1) (cnt_nx hm1) (loopN_s.symm.trans hR1)
        · exact absurd (onesFrom_at hp1 c206 hl1) c246
  refine r_weak (L' := [some _, some _, some _, some _, none, some _, none, none, none, none, none, none, none, none, none]) (And.intro rfl (And.intro rfl (And.intro rfl (And.intro rfl (And.intro rfl trivial))))) ?_
  exact hL203 (cnt (0) (4)) (0) (I) (by decide) h1s rfl rfl
