theorem al_klt {S : im_S} {b t n x : Nat} (hb : im_n S + 2 = b) (hx : x < b) : im_k (im_alS S b t n) x = im_k S x := by
  subst hb
  exact im_k_new.trans (if_neg (by omega))
theorem nodeS_klt {S : im_S} {a rn nn b x : Nat} (hb : im_n S + 2 = b) (hx : x < b) : im_k (nodeS_ S a rn nn b) x = im_k S x :=
  (al_klt (S := im_alS S b 20 3) (by show im_n S + 1 + 2 = b + 1; omega) (by omega)).trans (al_klt hb hx)
theorem Lw_lt {S : im_S} {x b : Nat} {v : Nat × Nat} (hb : im_n S + 2 = b) (h : im_k S x = v) (hv : v.1 < 99) : x < b := by
  obtain ⟨i, rfl, hi⟩ := im_k_lt (t := v.1) (n := v.2) h hv
  omega
section
variable {S : im_S} {I : im_I} {rn nn rs ns b : Nat} {kd x y : Int32}
theorem addNode_old (h : Lw S I rn nn rs ns) (h80 : nn < 80) (hb : im_n S + 2 = b) {c : Nat} (h1 : c ≠ b) (h2 : c ≠ b + 1) (h3 : c ≠ 2 ∧ c ≠ 3 ∧ c ≠ 5 ∧ c ≠ 6 ∧ c ≠ 7 ∧ c ≠ 8) : rowI_ (addNode_ (forget_ I 2) 3 kd x y) b kd x y c = I c := by
  rw [rowI_old h1 h2]
  obtain ⟨-, -, -, -, -, m⟩ := addNode_mem (I := forget_ I 2) (nn := nn) (kd := kd) (x := x) (y := y) ((congrFun (forget_fr (by decide)) 0).trans (Lw_c0 h)) h80
  rw [m c h3.2.1 h3.2.2.1 h3.2.2.2.1 h3.2.2.2.2.1 h3.2.2.2.2.2, forget_fr h3.1]
theorem addNode_rowN (h : Lw S I rn nn rs ns) (h80 : nn < 80) (hb : im_n S + 2 = b) (j : Nat) (hj : j < nn) : rowAt (nodeS_ S 125 rn nn b) (rowI_ (addNode_ (forget_ I 2) 3 kd x y) b kd x y) (b + 1) j = rowAt S I rn j := by
  obtain ⟨h1, h2⟩ := (Lw_rowsN h) j hj
  have hr := Lw_lt hb (o_X12_a0 (Lw_own h)) (show 21 < 99 by decide)
  have hc := Lw_lt hb h2 (by decide)
  have hc2 := Lw_hi h h2
  have ho := Lw_lt hb (o_X12_k (Lw_own h)) (by decide)
  funext q
  show rowI_ _ b kd x y (im_r (nodeS_ S 125 rn nn b) (b + 1) j - 1) q = I (im_r S rn j - 1) q
  rw [nodeS_row (by omega) (by omega) (by omega) hj, addNode_old h h80 hb (by omega) (by omega) (by omega)]
theorem addNode_rowS (h : Lw S I rn nn rs ns) (h80 : nn < 80) (hb : im_n S + 2 = b) (t : Nat) (ht : t < ns) : rowAt (nodeS_ S 125 rn nn b) (rowI_ (addNode_ (forget_ I 2) 3 kd x y) b kd x y) rs t = rowAt S I rs t := by
  obtain ⟨h1, h2⟩ := (Lw_rowsS h) t ht
  have hr := Lw_lt hb (o_X12_a1 (Lw_own h)) (show 21 < 99 by decide)
  have hc := Lw_lt hb h2 (by decide)
  have hc2 := Lw_hi h h2
  have hne : rs ≠ 125 := fun e => by
    have e1 := o_X12_a1 (Lw_own h)
    rw [e, o_X12_k (Lw_own h)] at e1
    cases e1
  funext q
  show rowI_ _ b kd x y (im_r (nodeS_ S 125 rn nn b) rs t - 1) q = I (im_r S rs t - 1) q
  rw [nodeS_r (by omega) (by omega) (fun e => hne e.1), addNode_old h h80 hb (by omega) (by omega) (by omega)]
theorem addNode_rowL (h : Lw S I rn nn rs ns) (h80 : nn < 80) (hb : im_n S + 2 = b) : rowAt (nodeS_ S 125 rn nn b) (rowI_ (addNode_ (forget_ I 2) 3 kd x y) b kd x y) (b + 1) nn 0 = kd ∧ rowAt (nodeS_ S 125 rn nn b) (rowI_ (addNode_ (forget_ I 2) 3 kd x y) b kd x y) (b + 1) nn 1 = x ∧ rowAt (nodeS_ S 125 rn nn b) (rowI_ (addNode_ (forget_ I 2) 3 kd x y) b kd x y) (b + 1) nn 2 = y := by
  have ho := Lw_lt hb (o_X12_k (Lw_own h)) (by decide)
  show rowI_ _ b kd x y (im_r (nodeS_ S 125 rn nn b) (b + 1) nn - 1) 0 = kd ∧ rowI_ _ b kd x y (im_r (nodeS_ S 125 rn nn b) (b + 1) nn - 1) 1 = x ∧ rowI_ _ b kd x y (im_r (nodeS_ S 125 rn nn b) (b + 1) nn - 1) 2 = y
  rw [nodeS_new (by omega), Nat.add_sub_cancel]
  exact rowI_new
theorem nodeS_rowsN (h : Lw S I rn nn rs ns) (hb : im_n S + 2 = b) : rowsOk (nodeS_ S 125 rn nn b) (b + 1) (nn + 1) := by
  have ho := Lw_lt hb (o_X12_k (Lw_own h)) (by decide)
  have hr := Lw_lt hb (o_X12_a0 (Lw_own h)) (show 21 < 99 by decide)
  intro j hj
  by_cases c : j = nn
  · subst c
    rw [nodeS_new (by omega)]
    exact ⟨rfl, nodeS_kb hb⟩
  · rw [nodeS_row (by omega) (by omega) (by omega) (by omega)]
    obtain ⟨h1, h2⟩ := (Lw_rowsN h) j (by omega)
    exact ⟨h1, nodeS_k hb h2 (by decide)⟩
theorem nodeS_rowsS (h : Lw S I rn nn rs ns) (hb : im_n S + 2 = b) : rowsOk (nodeS_ S 125 rn nn b) rs ns := by
  have hr := Lw_lt hb (o_X12_a1 (Lw_own h)) (show 21 < 99 by decide)
  have hne : rs ≠ 125 := fun e => by
    have e1 := o_X12_a1 (Lw_own h)
    rw [e, o_X12_k (Lw_own h)] at e1
    cases e1
  intro t ht
  rw [nodeS_r (by omega) (by omega) (fun e => hne e.1)]
  obtain ⟨h1, h2⟩ := (Lw_rowsS h) t ht
  exact ⟨h1, nodeS_k hb h2 (by decide)⟩
theorem nodeS_own12 (h : Lw S I rn nn rs ns) (hb : im_n S + 2 = b) : o_X12 (nodeS_ S 125 rn nn b) 125 (b + 1) (nn + 1) rs ns := by
  have ho := Lw_lt hb (o_X12_k (Lw_own h)) (by decide)
  have hw := Lw_own h
  have r : ∀ j, j ≠ 0 → im_r (nodeS_ S 125 rn nn b) 125 j = im_r S 125 j := fun j hj => nodeS_r (by omega) (by omega) (fun e => hj e.2)
  exact ⟨nodeS_k hb (o_X12_k hw) (by decide), nodeS_own (by omega), nodeS_kr hb, (r 1 (by decide)).trans (o_X12_r1 hw), nodeS_k hb (o_X12_a1 hw) (show 21 < 99 by decide), (r 2 (by decide)).trans (o_X12_r2 hw), nodeS_k hb (o_X12_a2 hw) (by decide), (r 3 (by decide)).trans (o_X12_r3 hw), nodeS_k hb (o_X12_a3 hw) (by decide)⟩
theorem nodeS_oldS (h : Lw S I rn nn rs ns) (hb : im_n S + 2 = b) : oldS (nodeS_ S 125 rn nn b) := by
  have ho := Lw_lt hb (o_X12_k (Lw_own h)) (by decide)
  intro c hc
  obtain ⟨h1, h2⟩ := (Lw_old h) c hc
  exact ⟨(nodeS_klt hb (by omega)).trans h1, fun j => (nodeS_r (by omega) (by omega) (by omega)).trans (h2 j)⟩
end
