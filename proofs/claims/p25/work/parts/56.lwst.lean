section
variable {S : im_S} {I : im_I} {rn nn rs ns b bl q : Nat} {v : Int32}
theorem inBlock_le {g : Nat → Nat → Int32} {z : Int32} : ∀ {t : Nat}, inBlock g z t ≤ t
  | 0 => Nat.le_refl _
  | t + 1 => by
    show inBlock g z t + (if g t 0 = z then 1 else 0) ≤ t + 1
    have := inBlock_le (g := g) (z := z) (t := t)
    split <;> omega
theorem inBlock_mono {g : Nat → Nat → Int32} {z : Int32} {t : Nat} : ∀ {n : Nat}, t ≤ n → inBlock g z t ≤ inBlock g z n
  | 0, h => by
    have e : t = 0 := by omega
    rw [e]; exact Nat.le_refl _
  | n + 1, h => by
    by_cases c : t = n + 1
    · rw [c]; exact Nat.le_refl _
    · exact Nat.le_trans (inBlock_mono (n := n) (by omega)) (Nat.le_add_right _ _)
theorem inBlock_lt {g : Nat → Nat → Int32} {z : Int32} {t n : Nat} (h : t < n) (hz : g t 0 = z) : inBlock g z t < inBlock g z n := by
  have h1 : inBlock g z (t + 1) = inBlock g z t + 1 := by
    show inBlock g z t + (if g t 0 = z then 1 else 0) = _
    rw [if_pos hz]
  have := inBlock_mono (g := g) (z := z) (t := t + 1) (n := n) h
  omega
/-- the memory with one statement more -/
def stmtI_ (I : im_I) (b bl q : Nat) (v : Int32) : im_I := rowI_ (addStatement_ (forget_ I 2) 3 (Int32.ofNat bl) v (Int32.ofNat q)) b (Int32.ofNat bl) v (Int32.ofNat q)
theorem stmtI_low (h : Lw S I rn nn rs ns) (hs : ns < 24) (hbl : bl < 4) (hq : q < nn) {c : Nat} (h1 : c ≠ b) (h2 : c ≠ b + 1) : stmtI_ I b bl q v c = (im_up (im_up (im_up (im_up (im_up (forget_ I 2) 10 (24 * bl + inBlock (rowAt S I rs) (Int32.ofNat bl) ns) v) 11 (24 * bl + inBlock (rowAt S I rs) (Int32.ofNat bl) ns) (Int32.ofNat q)) 8 q 1) 9 bl (Int32.ofNat (inBlock (rowAt S I rs) (Int32.ofNat bl) ns + 1))) 3 1 (Int32.ofNat (ns + 1))) c := by
  have e9 : forget_ I 2 9 bl = Int32.ofNat (inBlock (rowAt S I rs) (Int32.ofNat bl) ns) := (congrFun (forget_fr (by decide)) bl).trans ((Lw_cnts h) bl hbl)
  have e3 : forget_ I 2 3 1 = Int32.ofNat ns := (congrFun (forget_fr (by decide)) 1).trans (Lw_c1 h)
  have hle := inBlock_le (g := rowAt S I rs) (z := Int32.ofNat bl) (t := ns)
  have := Lw_n80 h
  unfold stmtI_
  rw [rowI_old h1 h2, (addStatement_mem (I := forget_ I 2) (v := v) hbl e9 (by omega) (show q < 80 by omega) e3 (by omega)).1]
theorem stmtI_old (h : Lw S I rn nn rs ns) (hs : ns < 24) (hbl : bl < 4) (hq : q < nn) {c : Nat} (h1 : c ≠ b) (h2 : c ≠ b + 1) (h3 : c ≠ 2 ∧ c ≠ 3 ∧ c ≠ 8 ∧ c ≠ 9 ∧ c ≠ 10 ∧ c ≠ 11) : stmtI_ I b bl q v c = I c := by
  rw [stmtI_low h hs hbl hq h1 h2, up_fr h3.2.1, up_fr h3.2.2.2.1, up_fr h3.2.2.1, up_fr h3.2.2.2.2.2, up_fr h3.2.2.2.2.1, forget_fr h3.1]
theorem Lw_rsne (h : Lw S I rn nn rs ns) : rs ≠ 125 ∧ rn ≠ 125 := by
  constructor
  · intro e
    have e1 := o_X12_a1 (Lw_own h)
    rw [e, o_X12_k (Lw_own h)] at e1
    cases e1
  · intro e
    have e1 := o_X12_a0 (Lw_own h)
    rw [e, o_X12_k (Lw_own h)] at e1
    cases e1
theorem stmt_rowN (h : Lw S I rn nn rs ns) (hs : ns < 24) (hbl : bl < 4) (hq : q < nn) (hb : im_n S + 2 = b) (j : Nat) (hj : j < nn) : rowAt (stmtS_ S 125 rs ns b) (stmtI_ I b bl q v) rn j = rowAt S I rn j := by
  obtain ⟨h1, h2⟩ := (Lw_rowsN h) j hj
  have hr := Lw_lt hb (o_X12_a0 (Lw_own h)) (show 21 < 99 by decide)
  have hc := Lw_lt hb h2 (by decide)
  have hc2 := Lw_hi h h2
  funext z
  show stmtI_ I b bl q v (im_r (stmtS_ S 125 rs ns b) rn j - 1) z = I (im_r S rn j - 1) z
  rw [stmtS_r (by omega) (by omega) (fun e => (Lw_rsne h).2 e.1), stmtI_old h hs hbl hq (by omega) (by omega) (by omega)]
theorem stmt_rowS (h : Lw S I rn nn rs ns) (hs : ns < 24) (hbl : bl < 4) (hq : q < nn) (hb : im_n S + 2 = b) (t : Nat) (ht : t < ns) : rowAt (stmtS_ S 125 rs ns b) (stmtI_ I b bl q v) (b + 1) t = rowAt S I rs t := by
  obtain ⟨h1, h2⟩ := (Lw_rowsS h) t ht
  have hr := Lw_lt hb (o_X12_a1 (Lw_own h)) (show 21 < 99 by decide)
  have hc := Lw_lt hb h2 (by decide)
  have hc2 := Lw_hi h h2
  have ho := Lw_lt hb (o_X12_k (Lw_own h)) (by decide)
  funext z
  show stmtI_ I b bl q v (im_r (stmtS_ S 125 rs ns b) (b + 1) t - 1) z = I (im_r S rs t - 1) z
  rw [stmtS_row (by omega) (by omega) (by omega) ht, stmtI_old h hs hbl hq (by omega) (by omega) (by omega)]
theorem stmt_rowL (h : Lw S I rn nn rs ns) (hb : im_n S + 2 = b) : rowAt (stmtS_ S 125 rs ns b) (stmtI_ I b bl q v) (b + 1) ns 0 = Int32.ofNat bl ∧ rowAt (stmtS_ S 125 rs ns b) (stmtI_ I b bl q v) (b + 1) ns 1 = v ∧ rowAt (stmtS_ S 125 rs ns b) (stmtI_ I b bl q v) (b + 1) ns 2 = Int32.ofNat q := by
  have ho := Lw_lt hb (o_X12_k (Lw_own h)) (by decide)
  show stmtI_ I b bl q v (im_r (stmtS_ S 125 rs ns b) (b + 1) ns - 1) 0 = _ ∧ stmtI_ I b bl q v (im_r (stmtS_ S 125 rs ns b) (b + 1) ns - 1) 1 = v ∧ stmtI_ I b bl q v (im_r (stmtS_ S 125 rs ns b) (b + 1) ns - 1) 2 = _
  rw [stmtS_new (by omega), Nat.add_sub_cancel]
  exact rowI_new
set_option maxHeartbeats 1000000 in
theorem Lw_stmt (h : Lw S I rn nn rs ns) (hs : ns < 24) (hbl : bl < 4) (hv : vp_in v 8) (hq : q < nn) (h0 : I 8 q = 0) (hb : im_n S + 2 = b) : Lw (stmtS_ S 125 rs ns b) (stmtI_ I b bl q v) rn nn (b + 1) (ns + 1) := by
  have hb1 : 125 < b := Lw_lt hb (o_X12_k (Lw_own h)) (by decide)
  have hw := Lw_own h
  have hrb := Lw_lt hb (o_X12_a1 hw) (show 21 < 99 by decide)
  have hrnb := Lw_lt hb (o_X12_a0 hw) (show 21 < 99 by decide)
  have hf := fun j hj => stmt_rowN (v := v) h hs hbl hq hb j hj
  have hg := fun t ht => stmt_rowS (v := v) h hs hbl hq hb t ht
  obtain ⟨l0, l1, l2⟩ := stmt_rowL (v := v) (bl := bl) (q := q) h hb
  have hlow : ∀ c, c < 125 → stmtI_ I b bl q v c = _ := fun c hc => stmtI_low (v := v) (b := b) h hs hbl hq (by omega) (by omega)
  have hle := inBlock_le (g := rowAt S I rs) (z := Int32.ofNat bl) (t := ns)
  have n80 := Lw_n80 h
  have k5 : stmtI_ I b bl q v 5 = I 5 := stmtI_old h hs hbl hq (by omega) (by omega) (by decide)
  have k6 : stmtI_ I b bl q v 6 = I 6 := stmtI_old h hs hbl hq (by omega) (by omega) (by decide)
  have k7 : stmtI_ I b bl q v 7 = I 7 := stmtI_old h hs hbl hq (by omega) (by omega) (by decide)
  have k3 : ∀ z, stmtI_ I b bl q v 3 z = if z = 1 then Int32.ofNat (ns + 1) else I 3 z := fun z => by rw [hlow 3 (by decide)]; simp [im_up, forget_]
  have k8 : ∀ z, stmtI_ I b bl q v 8 z = if z = q then 1 else I 8 z := fun z => by rw [hlow 8 (by decide)]; simp [im_up, forget_]
  have k9 : ∀ z, stmtI_ I b bl q v 9 z = if z = bl then Int32.ofNat (inBlock (rowAt S I rs) (Int32.ofNat bl) ns + 1) else I 9 z := fun z => by rw [hlow 9 (by decide)]; simp [im_up, forget_]
  have k10 : ∀ z, stmtI_ I b bl q v 10 z = if z = 24 * bl + inBlock (rowAt S I rs) (Int32.ofNat bl) ns then v else I 10 z := fun z => by rw [hlow 10 (by decide)]; simp [im_up, forget_]
  have k11 : ∀ z, stmtI_ I b bl q v 11 z = if z = 24 * bl + inBlock (rowAt S I rs) (Int32.ofNat bl) ns then Int32.ofNat q else I 11 z := fun z => by rw [hlow 11 (by decide)]; simp [im_up, forget_]
  have hib : ∀ z t, t ≤ ns → inBlock (rowAt (stmtS_ S 125 rs ns b) (stmtI_ I b bl q v) (b + 1)) z t = inBlock (rowAt S I rs) z t := fun z t ht => inBlock_congr fun j hj => hg j (by omega)
  have hof : ∀ x y, x < 4 → y < 4 → Int32.ofNat x = Int32.ofNat y → x = y := fun x y hx hy e => by
    have := congrArg Int32.toNatClampNeg e
    rwa [ofNat_nat (by omega), ofNat_nat (by omega)] at this
  have r : ∀ j, j ≠ 1 → im_r (stmtS_ S 125 rs ns b) 125 j = im_r S 125 j := fun j hj => stmtS_r (by omega) (by omega) (fun e => hj e.2)
  have hO : o_X12 (stmtS_ S 125 rs ns b) 125 rn nn (b + 1) (ns + 1) := ⟨stmtS_k hb (o_X12_k hw) (by decide), (r 0 (by decide)).trans (o_X12_r0 hw), stmtS_k hb (o_X12_a0 hw) (show 21 < 99 by decide), stmtS_own, stmtS_kr hb, (r 2 (by decide)).trans (o_X12_r2 hw), stmtS_k hb (o_X12_a2 hw) (by decide), (r 3 (by decide)).trans (o_X12_r3 hw), stmtS_k hb (o_X12_a3 hw) (by decide)⟩
  have hN : rowsOk (stmtS_ S 125 rs ns b) rn nn := by
    intro j hj
    rw [stmtS_r (by omega) (by omega) (fun e => (Lw_rsne h).2 e.1)]
    obtain ⟨h1, h2⟩ := (Lw_rowsN h) j hj
    exact ⟨h1, stmtS_k hb h2 (by decide)⟩
  have hR : rowsOk (stmtS_ S 125 rs ns b) (b + 1) (ns + 1) := by
    intro j hj
    by_cases c : j = ns
    · subst c
      rw [stmtS_new (by omega)]
      exact ⟨rfl, stmtS_kb hb⟩
    · rw [stmtS_row (by omega) (by omega) (by omega) (by omega)]
      obtain ⟨h1, h2⟩ := (Lw_rowsS h) j (by omega)
      exact ⟨h1, stmtS_k hb h2 (by decide)⟩
  have hD : oldS (stmtS_ S 125 rs ns b) := by
    intro c hc
    obtain ⟨h1, h2⟩ := (Lw_old h) c hc
    exact ⟨(stmtS_klt hb (by omega)).trans h1, fun j => (stmtS_r (by omega) (by omega) (by omega)).trans (h2 j)⟩
  have hnodes : nodesOk (rowAt (stmtS_ S 125 rs ns b) (stmtI_ I b bl q v) rn) nn := nodesOk_congr (fun j hj => (hf j hj).symm) (Lw_nodes h)
  have hsz : ∀ j, j < nn → szOf (rowAt (stmtS_ S 125 rs ns b) (stmtI_ I b bl q v) rn) j = szOf (rowAt S I rn) j := fun j hj => (szOf_congr (Lw_nodes h) (by omega) (fun i hi => (hf i hi).symm) hj).symm
  refine ⟨hD, hO, hN, hR, n80, by omega, ?_, ?_, ?_, ?_, ?_, hnodes, ?_, ?_, ?_, ?_, ?_⟩
  · rw [k3, if_neg (by decide)]; exact Lw_c0 h
  · rw [k3, if_pos rfl]
  · intro j hj; rw [k5, hf j hj]; exact (Lw_n5 h) j hj
  · intro j hj; rw [k6, hf j hj]; exact (Lw_n6 h) j hj
  · intro j hj; rw [k7, hf j hj]; exact (Lw_n7 h) j hj
  · intro j hj; rw [hf j hj]; exact (Lw_kinds h) j hj
  · intro t ht
    by_cases c : t = ns
    · subst c
      refine ⟨bl, hbl, l0, ?_, ?_⟩
      · rw [hib _ _ (Nat.le_refl _), l1, k10, if_pos rfl]
      · rw [hib _ _ (Nat.le_refl _), l2, k11, if_pos rfl]
    · obtain ⟨blk, w1, w2, w3, w4⟩ := (Lw_stm h) t (by omega)
      have hne : ¬ 24 * blk + inBlock (rowAt S I rs) (Int32.ofNat blk) t = 24 * bl + inBlock (rowAt S I rs) (Int32.ofNat bl) ns := by
        have u1 := inBlock_le (g := rowAt S I rs) (z := Int32.ofNat blk) (t := t)
        by_cases w : blk = bl
        · have u2 := inBlock_lt (g := rowAt S I rs) (show t < ns by omega) w2
          rw [w] at u2 ⊢
          omega
        · omega
      refine ⟨blk, w1, ?_, ?_, ?_⟩
      · rw [hg t (by omega)]; exact w2
      · rw [hib _ _ (by omega), hg t (by omega), k10, if_neg hne]; exact w3
      · rw [hib _ _ (by omega), hg t (by omega), k11, if_neg hne]; exact w4
  · intro t ht
    by_cases c : t = ns
    · subst c
      rw [l1, l2]
      exact ⟨hv, q, hq, hq, rfl⟩
    · rw [hg t (by omega)]
      exact (Lw_stOk h) t (by omega)
  · intro blk hblk
    show _ = Int32.ofNat (inBlock _ _ ns + if rowAt _ _ (b + 1) ns 0 = _ then 1 else 0)
    rw [k9, hib _ _ (Nat.le_refl _), l0]
    by_cases c : blk = bl
    · subst c
      rw [if_pos rfl, if_pos rfl]
    · rw [if_neg c, if_neg (fun e => c (hof _ _ hblk hbl e.symm))]
      exact (Lw_cnts h) blk hblk
  · have s1 := sumTo_take (g := looseSz I (rowAt S I rn)) (h := fun j => if j = q then 0 else looseSz I (rowAt S I rn) j) hq (fun j _ hne => if_neg hne) (if_pos rfl)
    have s2 : sumTo (looseSz (stmtI_ I b bl q v) (rowAt (stmtS_ S 125 rs ns b) (stmtI_ I b bl q v) rn)) nn = sumTo (fun j => if j = q then 0 else looseSz I (rowAt S I rn) j) nn := by
      refine sumTo_congr fun j hj => ?_
      unfold looseSz
      rw [k8, hsz j hj]
      by_cases w : j = q
      · simp [w]
      · simp [w]
    have s3 : looseSz I (rowAt S I rn) q = szOf (rowAt S I rn) q := if_pos h0
    have s4 : sumTo (rootSz (rowAt (stmtS_ S 125 rs ns b) (stmtI_ I b bl q v) rn) (rowAt (stmtS_ S 125 rs ns b) (stmtI_ I b bl q v) (b + 1))) ns = sumTo (rootSz (rowAt S I rn) (rowAt S I rs)) ns := by
      refine sumTo_congr fun t ht => ?_
      obtain ⟨-, z, hz, -, e⟩ := (Lw_stOk h) t ht
      unfold rootSz
      rw [hg t ht, e, ofNat_nat (by omega)]
      exact hsz z hz
    show _ + (sumTo _ ns + rootSz _ _ ns) = nn
    have s5 : rootSz (rowAt (stmtS_ S 125 rs ns b) (stmtI_ I b bl q v) rn) (rowAt (stmtS_ S 125 rs ns b) (stmtI_ I b bl q v) (b + 1)) ns = szOf (rowAt S I rn) q := by
      unfold rootSz
      rw [l2, ofNat_nat (by omega)]
      exact hsz q hq
    rw [s2, s4, s5]
    have := Lw_sum h
    omega
end
