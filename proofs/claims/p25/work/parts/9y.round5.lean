/-! the law's rounds: from 203 to 39, and a round whole -/
theorem would_fr {I : im_I} {kd cy : Int32} {z : Nat} (h : z ≤ 16 ∨ 19 ≤ z ∧ z ≤ 54 ∨ 91 ≤ z ∧ z ≤ 107 ∨ 125 ≤ z) : wouldM_ I kd cy z = I z := by
  unfold wouldM_
  exact (worksBuild_fr (by omega)).trans ((build_fr (by omega)).trans ((put_fr (by omega)).trans (beLike_fr (by omega))))
def lawD_ (C : im_I) (d c : Int32) : im_I := forget_ (put_ (wouldM_ C d c) 16 8 d c) 2
section
variable {C : im_I} {d c : Int32}
theorem lawD_fr {z : Nat} (h : 3 ≤ z ∧ z ≤ 15 ∨ 19 ≤ z ∧ z ≤ 54 ∨ 91 ≤ z ∧ z ≤ 107 ∨ 125 ≤ z) : lawD_ C d c z = C z :=
  (forget_fr (by omega)).trans ((put_fr (by omega)).trans (would_fr (by omega)))
theorem lawD_8 : lawD_ C d c 2 8 = 0 := by
  unfold lawD_ forget_
  rw [up_row, if_neg (by decide), im_up_same]
theorem lawD_9 : lawD_ C d c 2 9 = 0 := by
  unfold lawD_ forget_
  exact im_up_same
theorem lawD_16 : ∀ j, j < 8 → lawD_ C d c 16 j = put_ C 16 8 d c 16 j := fun j hj => by
  unfold lawD_
  rw [forget_fr (by decide)]
  exact put_E (fun j _ => by rw [would_fr (show 16 ≤ 16 ∨ 19 ≤ 16 ∧ 16 ≤ 54 ∨ 91 ≤ 16 ∧ 16 ≤ 107 ∨ 125 ≤ 16 by decide)]) j hj
end
section
variable {k : im_K} {S : im_S} {I J C : im_I} {rn nn rs ns b b2 R : Nat} {tm : Nat → Nat} {r kp t d c : Int32}
theorem Rd_lawD {j cn : Nat} (h : Rd S C rn nn rs ns tm) (hd : d = nI j) (hj : j < 8) (hc : c = nI cn) (hc1 : 1 ≤ cn) (hc9 : cn ≤ 9) : Rd S (lawD_ C d c) rn nn rs ns tm := by
  obtain ⟨h1, h2, h3, ⟨⟨R, m1⟩, m2, m3, m4⟩, h5, -⟩ := h
  have e3 : lawD_ C d c 3 = C 3 := lawD_fr (by decide)
  have e4 : lawD_ C d c 4 = C 4 := lawD_fr (by decide)
  have e15 : lawD_ C d c 15 = C 15 := lawD_fr (by decide)
  have e125 : lawD_ C d c 125 = C 125 := lawD_fr (by decide)
  have e128 : lawD_ C d c 128 = C 128 := lawD_fr (by decide)
  refine ⟨Lw_fr h1 (by rw [e3]) (by rw [e3]) (fun z z1 z2 => lawD_fr (by omega)) (fun x hx => lawD_fr (by have := Lw_hi h1 hx; omega)), fun j => by rw [lawD_fr (by decide)]; exact h2 j, ?_, ⟨⟨R, McOk_fr m1 e15⟩, fun q hq => ?_, by rw [e15]; exact m3, by rw [e15]; exact m4⟩, ?_, fun x => absurd lawD_8 x⟩
  · unfold RdT
    rw [e4, e128]
    exact h3
  · show ∃ l, 1 ≤ l ∧ l ≤ 9 ∧ lawD_ C d c 16 q = nI l
    rw [lawD_16 q hq, hd, put_nat hj (by decide), up_row]
    by_cases x : q = j
    · rw [if_pos x]
      exact ⟨cn, hc1, hc9, hc⟩
    · rw [if_neg x]
      exact m2 q hq
  · unfold RdO
    rw [e125, e3, e15]
    exact h5
theorem Rd_al (h : Rd S I rn nn rs ns tm) {n : Nat} {tt : Nat} (hb : im_n S + 2 = b) (e : ∀ z, z < b → J z = I z) : Rd (im_alS S b tt n) J rn nn rs ns tm := by
  obtain ⟨b1, b2, b3, b4, b5⟩ := Lw_ne h.1 hb
  have hL := Lw_al (t := tt) (n := n) h.1 hb e
  obtain ⟨h1, h2, h3, ⟨⟨R, m1⟩, m2, m3, m4⟩, h5, h6⟩ := h
  have e3 := e 3 (by omega)
  have e4 := e 4 (by omega)
  have e15 := e 15 (by omega)
  have e125 := e 125 (by omega)
  have e128 := e 128 (by omega)
  refine ⟨hL, fun j => by rw [e 11 (by omega)]; exact h2 j, ?_, ⟨⟨R, McOk_fr m1 e15⟩, LatOk_f m2 (e (15 + 1) (by omega)), by rw [e15]; exact m3, by rw [e15]; exact m4⟩, ?_, NwOk_fr h6 fun z hz => e z (by omega)⟩
  · unfold RdT
    rw [e4, e128]
    exact h3
  · unfold RdO
    rw [e125, e3, e15]
    exact h5
theorem Rd_mean (h : Rd S I rn nn rs ns tm) (h8 : ¬ I 2 8 = 0) (hb : im_n S + 2 = b) : Rd (im_alS S b 20 8) (meanF_ S I rn nn rs ns b) rn nn rs ns tm ∧ ¬ meanF_ S I rn nn rs ns b 2 8 = 0 := by
  obtain ⟨b1, b2, b3, b4, b5⟩ := Lw_ne h.1 hb
  have g := Rd_al (J := im_alI I b) (tt := 20) (n := 8) h hb fun z hz => funext fun _ => if_neg (by omega)
  have f : ∀ z, z < b → z ≠ 2 → (z < 12 ∨ 14 < z) → meanF_ S I rn nn rs ns b z = im_alI I b z := fun z z1 z2 z3 => (meanF_fr z1 z2 z3).trans (funext fun _ => (if_neg (by omega)).symm)
  have p8 : ¬ meanF_ S I rn nn rs ns b 2 8 = 0 := by rw [meanF_8 (by omega)]; exact h8
  have hal8 : ¬ im_alI I b 2 8 = 0 := by rw [show im_alI I b 2 8 = I 2 8 from if_neg (by omega)]; exact h8
  refine ⟨Rd_fr g (fun z hz => f z (by omega) (by omega) (by omega)) (fun x hx => ?_) (fun _ => ?_), p8⟩
  · have hx1 := Lw_hi g.1 hx
    have hne : x ≠ b := fun e => by
      rw [e, kk_new hb] at hx
      cases hx
    have hlt : x < b := by
      obtain ⟨y, rfl, hy⟩ := im_k_lt hx (by decide)
      have : im_n (im_alS S b 20 8) = im_n S + 1 := rfl
      omega
    exact f x hlt (by omega) (by omega)
  · obtain ⟨p1, n, B, hn, hT⟩ := g.2.2.2.2.2 hal8
    exact ⟨PB_fr p1 fun z hz => f z (by omega) (by omega) (by omega), n, B, hn, TmI_fr hT fun z z1 z2 => f z (by omega) (by omega) (by omega)⟩
theorem rd_nat {i : Int32} : ∃ j, j < 8 ∧ rd_ k i = nI j := by
  obtain ⟨j, e, hj⟩ := below_nat (v := cell_ k (i + 11)) (n := 8) (m := 8) rfl (by decide) (by decide)
  exact ⟨j, hj, e⟩
theorem rc_nat {i : Int32} : ∃ j, 1 ≤ j ∧ j ≤ 9 ∧ rc_ k i = nI j := by
  obtain ⟨j, e, h1, h2⟩ := one_below (v := cell_ k (i + 12) >>> ((3 : Int32) &&& 31)) (n := 9) (by decide) (by decide)
  rw [show (9 : Int32).toInt = 9 by decide] at h2
  exact ⟨j, h1, by omega, e⟩
set_option maxHeartbeats 1000000 in
theorem law_tail {X : im_X} {Q : State → Prop} {i z : Int32} (hX : im_Ok X k mL_law 100) (hkL : kL k < 2 ^ 31) (hi : ¬ i < 0) (hi3 : i < 2000000) (h : Rd S C rn nn rs ns tm) (hv : mcV r kp R) (e0 : C 15 0 = r) (e1 : C 15 1 = kp) (hxb : im_k S b = (20, 16)) (hnb : im_n S + 2 = b2) (hroom : im_n S + 1 - xn X ≤ (xR X).cells ∧ im_z S + 8 - xz X ≤ (xR X).slots)
    (h39 : im_E X k Q 39 [some (.ref 0), some (.ref 2), some (.ref 125), some (.int (i + 1)), none, none, none, none, none, none, none] [] (im_alS S b2 20 8) (meanF_ S (builtNow_ (lawD_ C (rd_ k i) (rc_ k i)) 2) rn nn rs ns b2)) :
    im_E X k Q 203 [some (.ref 0), some (.ref 2), some (.ref 125), some (.int i), some (.int r), some (.int kp), some (.int t), some (.ref b), some (.int z), none, none] [] S C := by
  obtain ⟨dn, hd, ed⟩ := rd_nat (k := k) (i := i)
  obtain ⟨cn, hc1, hc9, ec⟩ := rc_nat (k := k) (i := i)
  have hD := Rd_lawD (d := rd_ k i) (c := rc_ k i) h ed hd ec hc1 hc9
  have hm : McOk C 15 R := mcV_ok hv e0 e1
  obtain ⟨g, g8, gB, g29⟩ := Rd_now hD
  have hBt : BtOk (builtNow_ (lawD_ C (rd_ k i) (rc_ k i)) 2) tm R := Rd_built hD lawD_8 (McOk_fr hm (lawD_fr (by decide)))
  have hE9 : builtNow_ (lawD_ C (rd_ k i) (rc_ k i)) 2 2 9 = 0 := by
    unfold builtNow_
    rw [if_pos lawD_8, up_row, if_neg (by decide)]
    exact (congrFun ((worksBuild_fr (by decide)).trans (build_fr (by decide))) 9).trans lawD_9
  obtain ⟨q, q8⟩ := Rd_mean g g8 hnb
  have n80 := Lw_n80 h.1
  have hcy := would_many (I := C) (D := lawD_ C (rd_ k i) (rc_ k i)) (kd := rd_ k i) (cy := rc_ k i) (Rd_pg h) (fun z z1 z2 => lawD_fr (by omega)) lawD_8 (lawD_fr (by decide)) lawD_16 hm (Rd_t9 h)
  obtain ⟨b1, b22, b3, b4, b5⟩ := Lw_ne h.1 hnb
  have hBF : BtOk (meanF_ S (builtNow_ (lawD_ C (rd_ k i) (rc_ k i)) 2) rn nn rs ns b2) tm R := BtOk_fr hBt fun z hz => meanF_fr (by omega) (by omega) (by omega)
  refine law_d (dm := nn + 10) hX (old_o (Lw_old h.1)) (Lw_own h.1) hxb hkL hi hi3 ⟨h.2.2.2.1.2.2.1, h.2.2.2.1.2.2.2⟩ ?_ ?_ ?_ ?_ g29 hcy (by omega) (mean_run g hBt g8 hE9 hnb) hroom ?_ h39
  · rw [ed]
    exact (isBelow_nat (n := 8) (by omega) (by decide)).trans (decide_eq_true hd)
  · rw [ec]
    exact nI_nlt (a := cn) (b := 1) hc1 (by omega)
  · rw [ec]
    exact nI_le (a := cn) (b := 9) hc9 (by decide)
  · rw [would_fr (show 16 ≤ 16 ∨ 19 ≤ 16 ∧ 16 ≤ 54 ∨ 91 ≤ 16 ∧ 16 ≤ 107 ∨ 125 ≤ 16 by decide), ed, at_nat hd (by decide)]
    obtain ⟨l, l1, l2, el⟩ := h.2.2.2.1.2.1 dn hd
    rw [show C 16 dn = nI l from el]
    exact nI_nlt (a := l) (b := 1) l1 (by omega)
  · have hr := hv.1
    subst hr
    exact whole_run q.1 hBF q8
end
