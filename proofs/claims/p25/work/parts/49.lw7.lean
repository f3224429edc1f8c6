section
variable {S : im_S} {I : im_I} {rn nn rs ns b : Nat} {kd x y : Int32}
theorem inBlock_congr {f g : Nat → Nat → Int32} {bl : Int32} : ∀ {t : Nat}, (∀ j, j < t → f j = g j) → inBlock f bl t = inBlock g bl t
  | 0, _ => rfl
  | t + 1, e => by
    show inBlock f bl t + _ = inBlock g bl t + _
    rw [inBlock_congr (t := t) (fun j hj => e j (by omega)), e t (by omega)]
/-- the nodes stay in order -/
theorem nodesOk_more {f g : Nat → Nat → Int32} {nn : Nat} (h : nodesOk f nn) (he : ∀ j, j < nn → g j = f j) (hl : (g nn 0 < 2 → ¬ g nn 0 = 0 → vp_in (g nn 1) 8) ∧ (¬ g nn 0 < 2 → (∃ x : Nat, x < nn ∧ g nn 1 = Int32.ofNat x) ∧ ∃ y : Nat, y < nn ∧ g nn 2 = Int32.ofNat y)) : nodesOk g (nn + 1) := by
  intro j hj
  by_cases c : j = nn
  · subst c; exact hl
  · rw [he j (by omega)]
    exact h j (by omega)
set_option maxHeartbeats 1000000 in
theorem Lw_node (h : Lw S I rn nn rs ns) (h80 : nn < 80) (hc : canBeNode_ I 3 kd x y = true) (hb : im_n S + 2 = b) :
    Lw (nodeS_ S 125 rn nn b) (rowI_ (addNode_ (forget_ I 2) 3 kd x y) b kd x y) (b + 1) (nn + 1) rs ns ∧ rowI_ (addNode_ (forget_ I 2) 3 kd x y) b kd x y 8 nn = 0 := by
  have hb1 : 125 < b := Lw_lt hb (o_X12_k (Lw_own h)) (by decide)
  have h30 : forget_ I 2 3 0 = Int32.ofNat nn := (congrFun (forget_fr (by decide)) 0).trans (Lw_c0 h)
  obtain ⟨m0, m1, m5, m6, m7, m⟩ := addNode_mem (I := forget_ I 2) (nn := nn) (kd := kd) (x := x) (y := y) h30 h80
  have hf := addNode_rowN (kd := kd) (x := x) (y := y) h h80 hb
  have hg := addNode_rowS (kd := kd) (x := x) (y := y) h h80 hb
  obtain ⟨l0, l1, l2⟩ := addNode_rowL (kd := kd) (x := x) (y := y) h h80 hb
  have hold : ∀ c, c < 125 → ¬ (c = 2 ∨ c = 3 ∨ c = 5 ∨ c = 6 ∨ c = 7 ∨ c = 8) → rowI_ (addNode_ (forget_ I 2) 3 kd x y) b kd x y c = I c := fun c h1 h2 => addNode_old h h80 hb (by omega) (by omega) (by omega)
  have hlow : ∀ c, c < 125 → rowI_ (addNode_ (forget_ I 2) 3 kd x y) b kd x y c = addNode_ (forget_ I 2) 3 kd x y c := fun c h1 => rowI_old (by omega) (by omega)
  have q8 := hlow 8 (by decide)
  have q3 := hlow 3 (by decide)
  have q5 := hlow 5 (by decide)
  have q6 := hlow 6 (by decide)
  have q7 := hlow 7 (by decide)
  have q9 := hold 9 (by decide) (by decide)
  have q10 := hold 10 (by decide) (by decide)
  have q11 := hold 11 (by decide) (by decide)
  have hO := nodeS_own12 h hb
  have hN := nodeS_rowsN h hb
  have hR := nodeS_rowsS h hb
  have hD := nodeS_oldS h hb
  have f5 : ∀ j, forget_ I 2 5 j = I 5 j := fun j => congrFun (forget_fr (by decide)) j
  have f6 : ∀ j, forget_ I 2 6 j = I 6 j := fun j => congrFun (forget_fr (by decide)) j
  have f7 : ∀ j, forget_ I 2 7 j = I 7 j := fun j => congrFun (forget_fr (by decide)) j
  have f8 : ∀ j, forget_ I 2 8 j = I 8 j := fun j => congrFun (forget_fr (by decide)) j
  generalize hJ : rowI_ (addNode_ (forget_ I 2) 3 kd x y) b kd x y = J at *
  generalize hS' : nodeS_ S 125 rn nn b = S' at *
  have hsp := canBe_spec (Lw_c0 h) (by omega) hc
  have hnodes : nodesOk (rowAt S' J (b + 1)) (nn + 1) := by
    refine nodesOk_more (Lw_nodes h) hf ?_
    rw [l0, l1, l2]
    rcases hsp with ⟨c1, -, -, c2⟩ | ⟨c1, -, -, q, r, hq, hr, -, e1, e2, -, -⟩
    · exact ⟨fun _ e => c2 e, fun e => absurd c1 e⟩
    · exact ⟨fun e => absurd e c1, fun _ => ⟨⟨q, hq, e1⟩, r, hr, e2⟩⟩
  have hrange : 0 ≤ kd.toInt ∧ kd.toInt ≤ 5 := by
    rcases hsp with ⟨-, c1, c2, -⟩ | ⟨-, c1, c2, -⟩ <;> exact ⟨c1, c2⟩
  have hroot : sumTo (rootSz (rowAt S' J (b + 1)) (rowAt S' J rs)) ns = sumTo (rootSz (rowAt S I rn) (rowAt S I rs)) ns := by
    refine sumTo_congr fun t ht => ?_
    obtain ⟨-, z, hz, -, e⟩ := (Lw_stOk h) t ht
    unfold rootSz
    rw [hg t ht, e, ofNat_nat (by omega)]
    exact (szOf_congr (Lw_nodes h) (by omega) (fun j hj => (hf j hj).symm) hz).symm
  have hlast : J 8 nn = 0 := by
    rw [q8]
    rcases hsp with ⟨c1, -, -, -⟩ | ⟨c1, -, -, q, r, hq, hr, -, rfl, rfl, -, -⟩
    · rw [addNode_leaf8 h30 h80 c1, if_pos rfl]
    · rw [addNode_node8 h30 h80 c1 hq hr, if_neg (by omega), if_neg (by omega), if_pos rfl]
  have hsum : sumTo (looseSz J (rowAt S' J (b + 1))) (nn + 1) = sumTo (looseSz I (rowAt S I rn)) nn + 1 := by
    have hsz : ∀ j, j < nn → szOf (rowAt S' J (b + 1)) j = szOf (rowAt S I rn) j := fun j hj => (szOf_congr (Lw_nodes h) (by omega) (fun i hi => (hf i hi).symm) hj).symm
    show sumTo (looseSz J (rowAt S' J (b + 1))) nn + looseSz J (rowAt S' J (b + 1)) nn = _
    have e1 : looseSz J (rowAt S' J (b + 1)) nn = szOf (rowAt S' J (b + 1)) nn := if_pos hlast
    rw [e1]
    rcases hsp with ⟨c1, -, -, -⟩ | ⟨c1, -, -, q, r, hq, hr, hqr, rfl, rfl, z1, z2⟩
    · rw [szOf_leaf (by rw [l0]; exact c1)]
      congr 1
      refine sumTo_congr fun j hj => ?_
      unfold looseSz
      rw [q8, addNode_leaf8 h30 h80 c1, if_neg (show ¬ j = nn by omega), f8, hsz j hj]
    · rw [szOf_node hnodes (by omega) (by omega) (by rw [l0]; exact c1), l1, l2, ofNat_nat (by omega), ofNat_nat (by omega), hsz q hq, hsz r hr]
      have t1 := sumTo_take (g := looseSz I (rowAt S I rn)) (h := fun j => if j = q then 0 else looseSz I (rowAt S I rn) j) hq (fun j _ hne => if_neg hne) (if_pos rfl)
      have t2 := sumTo_take (g := fun j => if j = q then 0 else looseSz I (rowAt S I rn) j) (h := fun j => if j = r then 0 else if j = q then 0 else looseSz I (rowAt S I rn) j) hr (fun j _ hne => if_neg hne) (if_pos rfl)
      have t3 : sumTo (looseSz J (rowAt S' J (b + 1))) nn = sumTo (fun j => if j = r then 0 else if j = q then 0 else looseSz I (rowAt S I rn) j) nn := by
        refine sumTo_congr fun j hj => ?_
        unfold looseSz
        rw [q8, addNode_node8 h30 h80 c1 hq hr, f8, hsz j hj]
        by_cases w1 : j = r
        · simp [w1]
        · by_cases w2 : j = q
          · simp [w2]
          · simp [w1, w2, show ¬ j = nn by omega]
      have t4 : looseSz I (rowAt S I rn) q = szOf (rowAt S I rn) q := if_pos z1
      have t5 : (if r = q then 0 else looseSz I (rowAt S I rn) r) = szOf (rowAt S I rn) r := (if_neg (Ne.symm hqr)).trans (if_pos z2)
      try dsimp only at t2
      rw [t5] at t2
      omega
  have hib : ∀ bl t, t ≤ ns → inBlock (rowAt S' J rs) bl t = inBlock (rowAt S I rs) bl t := fun bl t ht => inBlock_congr fun j hj => hg j (by omega)
  refine ⟨⟨hD, hO, hN, hR, by omega, Lw_s24 h, by rw [q3]; exact m0, ?_, ?_, ?_, ?_, hnodes, ?_, ?_, ?_, ?_, ?_⟩, hlast⟩
  · rw [q3, m1 1 (by decide), congrFun (forget_fr (by decide)) 1]
    exact Lw_c1 h
  · intro j hj
    rw [q5, m5]
    by_cases c : j = nn
    · rw [if_pos c, c, l0]
    · rw [if_neg c, f5, hf j (by omega)]; exact (Lw_n5 h) j (by omega)
  · intro j hj
    rw [q6, m6]
    by_cases c : j = nn
    · rw [if_pos c, c, l1]
    · rw [if_neg c, f6, hf j (by omega)]; exact (Lw_n6 h) j (by omega)
  · intro j hj
    rw [q7, m7]
    by_cases c : j = nn
    · rw [if_pos c, c, l2]
    · rw [if_neg c, f7, hf j (by omega)]; exact (Lw_n7 h) j (by omega)
  · intro j hj
    by_cases c : j = nn
    · rw [c, l0]; exact hrange
    · rw [hf j (by omega)]; exact (Lw_kinds h) j (by omega)
  · intro t ht
    obtain ⟨blk, w1, w2, w3, w4⟩ := (Lw_stm h) t ht
    refine ⟨blk, w1, ?_, ?_, ?_⟩
    · rw [hg t ht]; exact w2
    · rw [hib _ _ (by omega), hg t ht, q10]; exact w3
    · rw [hib _ _ (by omega), hg t ht, q11]; exact w4
  · intro t ht
    obtain ⟨w1, z, hz, -, e⟩ := (Lw_stOk h) t ht
    rw [hg t ht]
    exact ⟨w1, z, by omega, by omega, e⟩
  · intro blk hblk
    rw [q9, hib _ _ (Nat.le_refl _)]
    exact (Lw_cnts h) blk hblk
  · rw [hsum, hroot]
    have := Lw_sum h
    omega
end
