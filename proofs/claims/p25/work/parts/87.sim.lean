/-! PURE THEORY, THE RUN: a line's code does what the line says -/
/-- what a value's home holds -/
def homeV (I : im_I) (h : Nat) (σ : RS) (w : Nat) : Int32 := if I (h + 1) w = -1 then (if I (h + 3) w = 1 then I (h + 4) w else σ.2 (ofN (I (h + 2) w))) else σ.1 (ofN (I (h + 1) w))
/-- a value has a home -/
def hsd (I : im_I) (h R w : Nat) : Prop := w < 88 ∧ ((∃ g, g < 8 ∧ g + 3 < R ∧ I (h + 1) w = nI g) ∨ I (h + 1) w = -1 ∧ (I (h + 3) w = 1 ∨ I (h + 3) w ≠ 1 ∧ ∃ s, s < 88 ∧ I (h + 2) w = nI s))
section Sim
variable {I : im_I} {h R : Nat} {kept : Int32} {G S : Nat → Int32}
theorem upd_self {f : Nat → Int32} {g : Nat} : upd f g (f g) = f := by
  funext j
  rw [upd_at]
  split
  · next e => rw [e]
  · rfl
theorem ex_mv {g g' : Nat} (hg : g < 11) (hg' : g' < 11) : exCL kept R (mvL (nI g) (nI g')) (G, S) = (upd G g (G g'), S) := by
  unfold mvL
  by_cases c : nI g = nI g'
  · have e : g = g' := nI_inj (by omega) (by omega) c
    rw [if_pos c, exCL_n, e, upd_self]
  · rw [if_neg c, exCL_c, exCL_n]
    show exC kept R (ci 1 (nI g) (nI g') 0 0) (G, S) = _
    unfold exC
    rw [if_neg (show ¬ ci 1 (nI g) (nI g') 0 0 0 = 8 by show ¬ (1 : Int32) = 8; decide), if_neg (show ¬ ci 1 (nI g) (nI g') 0 0 0 = 9 by show ¬ (1 : Int32) = 9; decide)]
    show (putF G 11 (nI g) (at_ G 11 (nI g')), S) = _
    rw [putF_nI hg (by decide), at_nat hg' (by decide)]
theorem homeV_reg {σ : RS} {w g : Nat} (hg : g < 2 ^ 31) (e : I (h + 1) w = nI g) : homeV I h σ w = σ.1 g := by
  unfold homeV
  rw [e, if_neg (nI_m1 hg), ofN_nI hg]
theorem ex_ld {w g : Nat} (hw : hsd I h R w) (hsp : I (h + 1) w = -1) (hg : g < 11) : exCL kept R (ldL I h (nI w) (nI g)) (G, S) = (upd G g (homeV I h (G, S) w), S) := by
  obtain ⟨w88, hh⟩ := hw
  unfold ldL homeV
  rw [at88 w88, at88 w88, at88 w88, if_pos hsp]
  rcases hh with ⟨g2, g3, -, e⟩ | ⟨-, hm | ⟨hm, s, hs, e⟩⟩
  · exact absurd (e.symm.trans hsp) (nI_m1 (by omega))
  · rw [if_pos hm, if_pos hm, exCL_c, exCL_n]
    show (putF G 11 (nI g) (I (h + 4) w), S) = _
    rw [putF_nI hg (by decide)]
  · rw [if_neg hm, if_neg hm, exCL_c, exCL_n, e, ofN_nI (by omega)]
    show (putF G 11 (nI g) (at_ S 88 (nI s)), S) = _
    rw [putF_nI hg (by decide), at_nat hs (by decide)]
/-- an operand: none, or a register -/
def opd (y : Int32) : Prop := y = -1 ∨ ∃ g, g < 11 ∧ y = nI g
theorem ex_op {kd n x y z : Int32} {g : Nat} (hg : g < 11) (hk : kd = 2 ∨ kd = 3 ∨ kd = 4 ∨ kd = 5 ∨ kd = 6) : exCL kept R (opL kd (nI g) x y z n) (G, S) = (upd G g (opV kd n (at_ G 11 x) (at_ G 11 y) (at_ G 11 z)), S) := by
  unfold opL
  rw [exCL_c, exCL_n]
  rcases hk with e | e | e | e | e <;> subst e
  · show (putF G 11 (nI g) (at_ G 11 x + at_ G 11 y), S) = _
    rw [putF_nI hg (by decide)]; rfl
  · show (putF G 11 (nI g) (at_ G 11 x - at_ G 11 y), S) = _
    rw [putF_nI hg (by decide)]; rfl
  · show (putF G 11 (nI g) (at_ G 11 x * at_ G 11 y), S) = _
    rw [putF_nI hg (by decide)]; rfl
  · show (putF G 11 (nI g) (at_ G 11 x + n), S) = _
    rw [putF_nI hg (by decide)]; rfl
  · show (putF G 11 (nI g) (at_ G 11 x * at_ G 11 y + at_ G 11 z), S) = _
    rw [putF_nI hg (by decide)]; rfl
theorem at_upd {y v : Int32} {g : Nat} (hy : opd y) (hne : y ≠ nI g) : at_ (upd G g v) 11 y = at_ G 11 y := by
  rcases hy with e | ⟨g', hg', e⟩
  · rw [e, at_m1, at_m1]
  · subst e
    rw [at_nat hg' (by decide), at_nat hg' (by decide), upd_at, if_neg (fun e => hne (by rw [e]))]
theorem opV_comm {kd n x y z : Int32} (hk : kd = 2 ∨ kd = 4) : opV kd n y x z = opV kd n x y z := by
  rcases hk with e | e
  · subst e; exact Int32.add_comm y x
  · subst e; exact Int32.mul_comm y x
theorem opV_z {kd n x y z z' : Int32} (hk : kd = 2 ∨ kd = 4) : opV kd n x y z = opV kd n x y z' := by
  rcases hk with e | e
  · subst e; rfl
  · subst e; rfl
theorem ex_oper {two kd n y z : Int32} {gd gx gs : Nat} (hgd : gd < 11) (hgx : gx < 11) (hgs : gs < 11) (hy : opd y) (hz : opd z) (hys : y ≠ nI gs) (hzs : z ≠ nI gs) (hk : kd = 2 ∨ kd = 3 ∨ kd = 4 ∨ kd = 5 ∨ kd = 6) (hz24 : kd = 2 ∨ kd = 4 → z = -1) :
    ∃ G', exCL kept R (operL two (nI gs) kd (nI gd) (nI gx) y z n) (G, S) = (G', S) ∧ G' gd = opV kd n (G gx) (at_ G 11 y) (at_ G 11 z) ∧ ∀ j, j ≠ gd → j ≠ gs → G' j = G j := by
  have hax : at_ G 11 (nI gx) = G gx := at_nat hgx (by decide)
  unfold operL
  by_cases c1 : two = 0 ∨ nI gx = nI gd
  · rw [if_pos c1, ex_op hgd hk, hax]
    exact ⟨_, rfl, by rw [upd_at, if_pos rfl], fun j hj _ => by rw [upd_at, if_neg hj]⟩
  · rw [if_neg c1]
    by_cases c2 : ¬ nI gd = y ∧ ¬ nI gd = z
    · rw [if_pos c2, exCL_app, ex_mv hgd hgx, ex_op hgd hk, at_upd hy (fun e => c2.1 e.symm), at_upd hz (fun e => c2.2 e.symm), at_nat hgd (by decide)]
      refine ⟨_, rfl, by rw [upd_at, if_pos rfl, upd_at, if_pos rfl], fun j hj _ => by rw [upd_at, if_neg hj, upd_at, if_neg hj]⟩
    · rw [if_neg c2]
      by_cases c3 : kd = 2 ∨ kd = 4
      · rw [if_pos c3, ex_op hgd hk, hax, opV_comm c3]
        exact ⟨_, rfl, by rw [upd_at, if_pos rfl], fun j hj _ => by rw [upd_at, if_neg hj]⟩
      · rw [if_neg c3, exCL_app, exCL_app, ex_mv hgs hgx, ex_op hgs hk, at_upd hy hys, at_upd hz hzs, at_nat hgs (by decide), ex_mv hgd hgs]
        refine ⟨_, rfl, by rw [upd_at, if_pos rfl, upd_at, if_pos rfl, upd_at, if_pos rfl], fun j hj hjs => by rw [upd_at, if_neg hj, upd_at, if_neg hjs, upd_at, if_neg hjs]⟩
end Sim
