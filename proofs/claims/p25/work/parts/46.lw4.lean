/-! a node more: the rows -/
section NodeS
variable {S : im_S} {a rn nn b : Nat}
theorem nodeS_k {x : Nat} {v : Nat × Nat} (hb : im_n S + 2 = b) (h : im_k S x = v) (hv : v.1 < 99) : im_k (nodeS_ S a rn nn b) x = v :=
  kk_al (S := im_alS S b 20 3) (by show im_n S + 1 + 2 = b + 1; omega) (kk_al hb h hv) hv
theorem nodeS_kb (hb : im_n S + 2 = b) : im_k (nodeS_ S a rn nn b) b = (20, 3) :=
  kk_al (S := im_alS S b 20 3) (by show im_n S + 1 + 2 = b + 1; omega) (kk_new hb) (by decide)
theorem nodeS_kr (hb : im_n S + 2 = b) : im_k (nodeS_ S a rn nn b) (b + 1) = (21, nn + 1) :=
  kk_new (S := im_alS S b 20 3) (by show im_n S + 1 + 2 = b + 1; omega)
theorem nodeS_r {x j : Nat} (h1 : x ≠ b) (h2 : x ≠ b + 1) (h3 : ¬ (x = a ∧ j = 0)) : im_r (nodeS_ S a rn nn b) x j = im_r S x j := by
  unfold nodeS_ withS_
  rw [im_r_upr, if_neg h3, im_r_upr, if_neg (fun e => h2 e.1)]
  show (if x = b + 1 then _ else im_r (im_alS (im_alS S b 20 3) (b + 1) 21 (nn + 1)) x j) = _
  rw [if_neg h2]
  exact rr_al h2 (rr_al h1 rfl)
theorem nodeS_own (ha : a ≠ b + 1) : im_r (nodeS_ S a rn nn b) a 0 = b + 1 + 1 := rr_new
theorem nodeS_new (ha : b + 1 ≠ a) : im_r (nodeS_ S a rn nn b) (b + 1) nn = b + 1 := by
  unfold nodeS_ withS_
  rw [im_r_upr, if_neg (fun e => ha e.1), im_r_upr, if_pos ⟨rfl, rfl⟩]
theorem nodeS_row {j : Nat} (ha : b + 1 ≠ a) (h1 : rn ≠ b) (h2 : rn ≠ b + 1) (hj : j < nn) : im_r (nodeS_ S a rn nn b) (b + 1) j = im_r S rn j := by
  unfold nodeS_ withS_
  rw [im_r_upr, if_neg (fun e => ha e.1), im_r_upr, if_neg (fun e => absurd e.2 (by omega))]
  show (if b + 1 = b + 1 then va_cpy _ _ 0 0 nn j else _) = _
  rw [if_pos rfl]
  have e : im_r (im_alS (im_alS S b 20 3) (b + 1) 21 (nn + 1)) rn j = im_r S rn j := rr_al h2 (rr_al h1 rfl)
  rw [← e]
  simp [va_cpy, hj]
  rfl
end NodeS
/-- a row of three ints, just made -/
theorem rowI_new {I : im_I} {b : Nat} {x y z : Int32} : rowI_ I b x y z b 0 = x ∧ rowI_ I b x y z b 1 = y ∧ rowI_ I b x y z b 2 = z := by
  unfold rowI_ im_alI
  simp [im_up]
theorem rowI_old {I : im_I} {b c : Nat} {x y z : Int32} (h1 : c ≠ b) (h2 : c ≠ b + 1) : rowI_ I b x y z c = I c := by
  unfold rowI_
  funext q
  show (if c = b + 1 then 0 else im_up _ b 2 z c q) = _
  rw [if_neg h2, up_fr h1, up_fr h1, up_fr h1]
  exact if_neg h1
theorem forget_fr {I : im_I} {b : Nat} (h : b ≠ 2) : forget_ I 2 b = I b := (up_fr h).trans (up_fr h)
