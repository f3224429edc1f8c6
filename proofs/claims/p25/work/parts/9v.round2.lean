/-! the law's rounds: what would be with another machine, and what is -/
def lawM_ (K : im_I) (r kp t : Int32) : im_I := forget_ (im_up (im_up (im_up (im_up (im_up K 15 0 r) 15 1 kp) 15 2 (K 125 6)) 15 3 (K 125 7)) 15 4 t) 2
section
variable {K : im_I} {r kp t : Int32}
theorem lawM_fr {z : Nat} (h : z ≠ 2 ∧ z ≠ 15) : lawM_ K r kp t z = K z := by
  unfold lawM_
  exact (forget_fr h.1).trans ((up_fr h.2).trans ((up_fr h.2).trans ((up_fr h.2).trans ((up_fr h.2).trans (up_fr h.2)))))
theorem lawM_8 : lawM_ K r kp t 2 8 = 0 := by
  unfold lawM_ forget_
  rw [up_row, if_neg (by decide), im_up_same]
theorem lawM_15 {q : Nat} : lawM_ K r kp t 15 q = if q = 4 then t else if q = 3 then K 125 7 else if q = 2 then K 125 6 else if q = 1 then kp else if q = 0 then r else K 15 q := by
  unfold lawM_
  rw [forget_fr (by decide), up_row, up_row, up_row, up_row, up_row]
theorem lawM_m : lawM_ K r kp t 15 0 = r ∧ lawM_ K r kp t 15 1 = kp ∧ lawM_ K r kp t 15 2 = K 125 6 ∧ lawM_ K r kp t 15 3 = K 125 7 ∧ lawM_ K r kp t 15 4 = t := by
  simp only [lawM_15]
  exact ⟨rfl, rfl, rfl, rfl, rfl⟩
end
/-- a machine by its registers and what is kept -/
def mcV (r kp : Int32) (R : Nat) : Prop := r = nI R ∧ 5 ≤ R ∧ R ≤ 11 ∧ ∀ g, g < 32 → hb kp g = true → 2 ≤ g ∧ g + 3 < R
theorem mcV_ok {M : im_I} {r kp : Int32} {R : Nat} (h : mcV r kp R) (e0 : M 15 0 = r) (e1 : M 15 1 = kp) : McOk M 15 R := by
  unfold McOk
  rw [e0, e1]
  exact h
section
variable {S : im_S} {I J : im_I} {rn nn rs ns b R : Nat} {tm : Nat → Nat} {r kp t w : Int32}
theorem with_T {M : im_I} (h : Rd S I rn nn rs ns tm) (hP : PgE I M) (h0 : M 2 8 = 0) (e0 : M 15 0 = r) (e1 : M 15 1 = kp) (e4 : M 15 4 = t) (e2 : M 15 2 = I 15 2) (e3 : M 15 3 = I 15 3) (e16 : M 16 = I 16) (hm : McOk M 15 R) (x : Int32) : tellMany_ (builtWith_ (builtNow_ I 2) r kp t) 108 19 x = tellMany_ (builtNow_ M 2) 91 19 x := by
  obtain ⟨g, g8, gB, -⟩ := Rd_now h
  have f : ∀ z, 3 ≤ z ∧ z < 19 → builtNow_ I 2 z = I z := fun z hz => now_fr (by omega)
  exact with_many gB (Rd_pg g) (fun z z1 z2 => (hP z z1 z2).trans (f z (by omega)).symm) h0 e0 e1 e4 (e2.trans (by rw [f 15 (by decide)])) (e3.trans (by rw [f 15 (by decide)])) (e16.trans (f 16 (by decide)).symm) hm (Rd_t9 g) x
theorem wi_fr {z : Nat} (hb : 124 < b) (h : 2 ≤ z ∧ z ≤ 16 ∨ 19 ≤ z ∧ z ≤ 54 ∨ 91 ≤ z ∧ z ≤ 107 ∨ 125 ≤ z ∧ z ≠ b) : wiStep_ r kp t b w J z = builtNow_ J 2 z := by
  unfold wiStep_
  rw [up_fr (by omega)]
  unfold builtWith_
  exact (worksBuild_fr (by omega)).trans ((up_fr (by omega)).trans ((up_fr (by omega)).trans ((up_fr (by omega)).trans (beLike_fr (by omega)))))
theorem wi_row {q : Nat} (hb : 124 < b) : wiStep_ r kp t b w J b q = if q = w.toNatClampNeg then tellMany_ (builtWith_ (builtNow_ J 2) r kp t) 108 19 w else J b q := by
  unfold wiStep_
  rw [up_row]
  have e : builtWith_ (builtNow_ J 2) r kp t b = J b := by
    unfold builtWith_
    exact (worksBuild_fr (by omega)).trans ((up_fr (by omega)).trans ((up_fr (by omega)).trans ((up_fr (by omega)).trans ((beLike_fr (by omega)).trans (now_fr (by omega))))))
  rw [e]
/-- what the loop of with keeps -/
def WiP (S : im_S) (I : im_I) (rn nn rs ns : Nat) (tm : Nat → Nat) (b : Nat) (K : im_I) : Prop := Rd S K rn nn rs ns tm ∧ ∀ z, 3 ≤ z ∧ z ≤ 11 ∨ z = 15 ∨ z = 16 ∨ 125 ≤ z ∧ z ≠ b → K z = I z
theorem WiP_step (hxb : im_k S b = (20, 16)) (hb : 124 < b) (hb2 : b ≠ 125 ∧ b ≠ 128) (h : WiP S I rn nn rs ns tm b J) : WiP S I rn nn rs ns tm b (wiStep_ r kp t b w J) := by
  obtain ⟨h1, h2⟩ := h
  obtain ⟨g, g8, gB, -⟩ := Rd_now h1
  refine ⟨Rd_fr g (fun z hz => wi_fr hb (by omega)) (fun c hc => wi_fr hb (Or.inr (Or.inr (Or.inr ⟨Lw_hi h1.1 hc, fun e => ?_⟩)))) (NwOk_fr g.2.2.2.2.2 fun z hz => wi_fr hb (by omega)), fun z hz => (wi_fr hb (by omega)).trans ((now_fr (by omega)).trans (h2 z hz))⟩
  rw [e, hxb] at hc
  cases hc
theorem WiP_M (h : WiP S I rn nn rs ns tm b J) (hO : RdO I) : PgE J (lawM_ I r kp t) ∧ lawM_ I r kp t 15 2 = J 15 2 ∧ lawM_ I r kp t 15 3 = J 15 3 ∧ lawM_ I r kp t 16 = J 16 := by
  obtain ⟨h1, h2⟩ := h
  obtain ⟨-, -, -, -, o1, o2⟩ := hO
  refine ⟨fun z z1 z2 => (lawM_fr (by omega)).trans (h2 z (by omega)).symm, ?_, ?_, (lawM_fr (by decide)).trans (h2 16 (by omega)).symm⟩
  · rw [lawM_m.2.2.1, h2 15 (by omega), o1]
  · rw [lawM_m.2.2.2.1, h2 15 (by omega), o2]
theorem wi_loop (h : Rd S I rn nn rs ns tm) (hxb : im_k S b = (20, 16)) (hb : 124 < b) (hb2 : b ≠ 125 ∧ b ≠ 128) (hv : mcV r kp R) :
    WiP S I rn nn rs ns tm b (loopN (cnt 3 16) 3 (wiStep_ r kp t b) I) ∧ ∀ q, q < 13 → loopN (cnt 3 16) 3 (wiStep_ r kp t b) I b (3 + q) = tellMany_ (builtNow_ (lawM_ I r kp t) 2) 91 19 (nI (3 + q)) := by
  rw [show cnt 3 16 = 13 by decide, show (3 : Int32) = nI 3 from rfl, loopN_it]
  refine itN_inv (n := 13) (s := I) (fun j K => WiP S I rn nn rs ns tm b K ∧ ∀ q, q < j → K b (3 + q) = tellMany_ (builtNow_ (lawM_ I r kp t) 2) 91 19 (nI (3 + q))) ⟨⟨h, fun _ _ => rfl⟩, fun q hq => absurd hq (by omega)⟩ (fun j K hj hK => ?_)
  obtain ⟨k1, k2⟩ := hK
  refine ⟨WiP_step hxb hb hb2 k1, fun q hq => ?_⟩
  rw [wi_row hb, show (nI (3 + j)).toNatClampNeg = 3 + j from ofNat_nat (by omega)]
  by_cases c : q = j
  · subst c
    rw [if_pos rfl]
    obtain ⟨m1, m2, m3, m4⟩ := WiP_M (r := r) (kp := kp) (t := t) k1 h.2.2.2.2.1
    exact with_T k1.1 m1 lawM_8 lawM_m.1 lawM_m.2.1 lawM_m.2.2.2.2 m2 m3 m4 (mcV_ok hv lawM_m.1 lawM_m.2.1) _
  · rw [if_neg (by omega)]
    exact k2 q (by omega)
/-- the machine set: the invariant again, nothing built -/
theorem Rd_lawM (h : Rd S I rn nn rs ns tm) (hv : mcV r kp R) (ht : t = 0 ∨ t = 1) : Rd S (lawM_ I r kp t) rn nn rs ns tm := by
  obtain ⟨h1, h2, h3, ⟨-, m2, m3, m4⟩, ⟨o1, o2, o3, o4, o5, o6⟩, -⟩ := h
  obtain ⟨e0, e1, e2, e3, e4⟩ := lawM_m (K := I) (r := r) (kp := kp) (t := t)
  refine ⟨Lw_fr h1 (by rw [lawM_fr (by decide)]) (by rw [lawM_fr (by decide)]) (fun z z1 z2 => lawM_fr (by omega)) (fun c hc => lawM_fr (by have := Lw_hi h1 hc; omega)), fun j => by rw [lawM_fr (by decide)]; exact h2 j, ?_, ⟨⟨R, mcV_ok hv e0 e1⟩, LatOk_f m2 (lawM_fr (by decide)), by rw [e3]; exact o4, by rw [e4]; exact ht⟩, ?_, fun c => absurd lawM_8 c⟩
  · unfold RdT
    rw [lawM_fr (by decide), lawM_fr (by decide)]
    exact h3
  · unfold RdO
    rw [e2, e3, lawM_fr (show 125 ≠ 2 ∧ 125 ≠ 15 by decide), lawM_fr (show 3 ≠ 2 ∧ 3 ≠ 15 by decide)]
    exact ⟨o1, o2, o3, o4, rfl, rfl⟩
end
theorem now_8 {M : im_I} : ¬ builtNow_ M 2 2 8 = 0 := by
  by_cases c : M 2 8 = 0
  · exact (PB_built c).2
  · rw [builtNow_id c]; exact c
theorem now_2 {M : im_I} : builtNow_ (builtNow_ M 2) 2 = builtNow_ M 2 := builtNow_id now_8
theorem now_loop {M : im_I} : loopN (cnt (3) (16)) (3) (fun _ J => builtNow_ J 2) M = builtNow_ M 2 := by
  rw [show cnt 3 16 = 12 + 1 by decide, loopN_s]
  have key : ∀ (n : Nat) (i : Int32), loopN n i (fun _ J => builtNow_ J 2) (builtNow_ M 2) = builtNow_ M 2 := by
    intro n
    induction n with
    | zero => intro i; rw [loopN_0]
    | succ n ih =>
      intro i
      rw [loopN_s, show builtNow_ (builtNow_ M 2) 2 = builtNow_ M 2 from now_2]
      exact ih _
  exact key 12 _
