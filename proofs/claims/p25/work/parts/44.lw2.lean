/-! the object of the class as its constructor leaves it -/
def S00 : im_S := ((0, 0), (fun _ => (99, 0)), fun _ _ => 0)
def SM : im_S := X11_init_S (im_alS S00 2 11 10) 2
theorem SM_n : im_n SM = 123 := by decide +kernel
theorem SM_k : ∀ x, x < 125 → im_k SM x ≠ (20, 3) := by decide +kernel
set_option maxRecDepth 100000 in
theorem SM_o : o_X11 SM 2 := by
  simp only [o_X11, o_X8, o_X6, o_X5, o_X7, o_X10, o_X0, o_X1, o_X2, o_X3, o_X4, o_X9]
  repeat' apply And.intro
  all_goals decide +kernel
/-- below Own, the shape is as the constructor left it -/
def oldS (S : im_S) : Prop := ∀ x, x < 125 → im_k S x = im_k SM x ∧ ∀ j, im_r S x j = im_r SM x j
set_option maxRecDepth 100000 in
theorem old_o {S : im_S} (h : oldS S) : o_X11 S 2 := by
  have hk : ∀ x, x < 125 → im_k S x = im_k SM x := fun x hx => (h x hx).1
  have hr : ∀ x j, x < 125 → im_r S x j = im_r SM x j := fun x j hx => (h x hx).2 j
  have h0 := SM_o
  simp only [o_X11, o_X8, o_X6, o_X5, o_X7, o_X10, o_X0, o_X1, o_X2, o_X3, o_X4, o_X9, Nat.reduceAdd, Nat.reduceLT, hk, hr] at h0 ⊢
  exact h0
theorem oldS_al {S : im_S} {b t n : Nat} (hb : im_n S + 2 = b) (h125 : 125 ≤ b) (h : oldS S) : oldS (im_alS S b t n) := by
  intro x hx
  refine ⟨?_, fun j => (rr_al (by omega) rfl).trans ((h x hx).2 j)⟩
  rw [← (h x hx).1]
  subst hb
  exact im_k_new.trans (if_neg (by omega))
theorem oldS_upr {S : im_S} {a j y : Nat} (ha : 125 ≤ a) (h : oldS S) : oldS (im_upr S a j y) := fun x hx => ⟨(h x hx).1, fun i => (rr_upr (by omega) rfl).trans ((h x hx).2 i)⟩
