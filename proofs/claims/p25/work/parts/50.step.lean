/-! what the law's writing leaves as it is: from nn nodes to nn' -/
def Step (S : im_S) (I : im_I) (nn : Nat) (S' : im_S) (I' : im_I) (nn' : Nat) : Prop :=
  (im_n S ≤ im_n S' ∧ im_z S ≤ im_z S' ∧ nn ≤ nn') ∧ (im_n S' ≤ im_n S + 2 * (nn' - nn) ∧ im_z S' ≤ im_z S + 90 * (nn' - nn)) ∧
  (∀ c, c < im_n S + 2 → c ≠ 2 ∧ c ≠ 3 ∧ c ≠ 5 ∧ c ≠ 6 ∧ c ≠ 7 ∧ c ≠ 8 → I' c = I c) ∧ (∀ q, q ≠ 0 → I' 3 q = I 3 q) ∧
  (∀ c j, c < im_n S + 2 → ¬ (c = 125 ∧ j = 0) → im_r S' c j = im_r S c j) ∧ (∀ c, c < im_n S + 2 → im_k S' c = im_k S c)
theorem Step_rf {S : im_S} {I : im_I} {nn : Nat} : Step S I nn S I nn := ⟨⟨by omega, by omega, by omega⟩, ⟨by omega, by omega⟩, fun _ _ _ => rfl, fun _ _ => rfl, fun _ _ _ _ => rfl, fun _ _ => rfl⟩
theorem Step_tr {S S1 S2 : im_S} {I I1 I2 : im_I} {n n1 n2 : Nat} (h : Step S I n S1 I1 n1) (g : Step S1 I1 n1 S2 I2 n2) : Step S I n S2 I2 n2 := by
  obtain ⟨⟨a1, a2, a3⟩, ⟨b1, b2⟩, c, d, e, f⟩ := h
  obtain ⟨⟨p1, p2, p3⟩, ⟨q1, q2⟩, r, s, t, u⟩ := g
  exact ⟨⟨by omega, by omega, by omega⟩, ⟨by omega, by omega⟩, fun x hx hy => (r x (by omega) hy).trans (c x hx hy), fun q hq => (s q hq).trans (d q hq), fun x j hx hy => (t x j (by omega) hy).trans (e x j hx hy), fun x hx => (u x (by omega)).trans (f x hx)⟩
section
variable {S : im_S} {I : im_I} {rn nn rs ns b : Nat} {kd x y : Int32}
theorem Step_node (h : Lw S I rn nn rs ns) (h80 : nn < 80) (hb : im_n S + 2 = b) : Step S I nn (nodeS_ S 125 rn nn b) (rowI_ (addNode_ (forget_ I 2) 3 kd x y) b kd x y) (nn + 1) := by
  have hb1 : 125 < b := Lw_lt hb (o_X12_k (Lw_own h)) (by decide)
  have h30 : forget_ I 2 3 0 = Int32.ofNat nn := (congrFun (forget_fr (by decide)) 0).trans (Lw_c0 h)
  obtain ⟨m0, m1, m5, m6, m7, m⟩ := addNode_mem (I := forget_ I 2) (nn := nn) (kd := kd) (x := x) (y := y) h30 h80
  refine ⟨⟨(show im_n S ≤ im_n S + 2 by omega), (show im_z S ≤ im_z S + 3 + (nn + 1) by omega), by omega⟩, ⟨(show im_n S + 2 ≤ im_n S + 2 * (nn + 1 - nn) by omega), (show im_z S + 3 + (nn + 1) ≤ im_z S + 90 * (nn + 1 - nn) by omega)⟩, fun c hc hx => addNode_old h h80 hb (by omega) (by omega) hx, fun q hq => ?_, fun c j hc hx => nodeS_r (by omega) (by omega) hx, fun c hc => nodeS_klt hb (by omega)⟩
  rw [rowI_old (by omega) (by omega), m1 q hq, forget_fr (by decide)]
/-- the law's node, whatever it is asked -/
theorem node_ex {l : Launch} {k : im_K} (h : Lw S I rn nn rs ns) (hc : nn < 80 → canBeNode_ I 3 kd x y = true) :
    ∃ S' I' rn' nn' v, im_Runs l k 4 mL_node [.ref 2, .ref 125, .int kd, .int x, .int y] (S, I) (some (.int v)) (S', I') ∧ Lw S' I' rn' nn' rs ns ∧ Step S I nn S' I' nn' ∧ (∀ j, j < nn → x ≠ Int32.ofNat j ∧ y ≠ Int32.ofNat j ∨ kd < 2 → I' 8 j = I 8 j) ∧ (v = -1 ∨ v = Int32.ofNat nn ∧ nn < nn' ∧ I' 8 nn = 0) := by
  by_cases c : nn < 80
  · obtain ⟨g1, g2⟩ := Lw_node h c (hc c) rfl
    refine ⟨_, _, _, _, _, sp_L_node (old_o (Lw_old h)) (Lw_own h) c (Lw_rowsN h) (hc c) (Lw_c0 h) rfl, g1, Step_node h c rfl, fun j hj hx => ?_, Or.inr ⟨rfl, by omega, g2⟩⟩
    have hb1 : 125 < im_n S + 2 := Lw_lt rfl (o_X12_k (Lw_own h)) (by decide)
    have h30 : forget_ I 2 3 0 = Int32.ofNat nn := (congrFun (forget_fr (by decide)) 0).trans (Lw_c0 h)
    rw [rowI_old (by omega) (by omega), ← show forget_ I 2 8 j = I 8 j from congrFun (forget_fr (by decide)) j]
    rcases canBe_spec (Lw_c0 h) (by omega) (hc c) with ⟨c1, -, -, -⟩ | ⟨c1, -, -, q, r, hq, hr, -, rfl, rfl, -, -⟩
    · rw [addNode_leaf8 h30 c c1, if_neg (by omega)]
    · rcases hx with ⟨x1, x2⟩ | x1
      · rw [addNode_node8 h30 c c1 hq hr, if_neg (fun e => x2 (by rw [e])), if_neg (fun e => x1 (by rw [e])), if_neg (by omega)]
      · exact absurd x1 c1
  · have e80 : nn = 80 := by have := Lw_n80 h; omega
    exact ⟨_, _, _, _, _, sp_L_node_no (Lw_own h) e80, h, Step_rf, fun _ _ _ => rfl, Or.inl rfl⟩
end
