/-! the law's rounds: what stands before each -/
def RdT (I : im_I) (tm : Nat → Nat) : Prop := ∀ b, b < 4 → I 4 b = nI (tm b) ∧ I 128 b = nI (tm b) ∧ 1 ≤ tm b ∧ tm b ≤ 3
def MaOk (I : im_I) : Prop := (∃ R, McOk I 15 R) ∧ LatOk I 15 ∧ (I 15 3 = 0 ∨ I 15 3 = 1) ∧ (I 15 4 = 0 ∨ I 15 4 = 1)
def RdO (I : im_I) : Prop := I 125 9 = I 3 2 ∧ ¬ I 125 6 < 0 ∧ I 125 6 ≤ 99 ∧ (I 125 7 = 0 ∨ I 125 7 = 1) ∧ I 15 2 = I 125 6 ∧ I 15 3 = I 125 7
def NwOk (I : im_I) : Prop := ¬ I 2 8 = 0 → PB I ∧ ∃ n B, n ≤ 1008 ∧ TmI I 103 n B
def Rd (S : im_S) (I : im_I) (rn nn rs ns : Nat) (tm : Nat → Nat) : Prop := Lw S I rn nn rs ns ∧ (∀ j, I 11 j < 1000) ∧ RdT I tm ∧ MaOk I ∧ RdO I ∧ NwOk I
theorem TmI_fr {I J : im_I} {a n B : Nat} (h : TmI I a n B) (e : ∀ z, a ≤ z → z ≤ a + 4 → J z = I z) : TmI J a n B := by
  unfold TmI at h ⊢
  rw [e a (by omega) (by omega), e (a + 4) (by omega) (by omega)]
  exact h
theorem McOk_f {I J : im_I} {m R : Nat} (h : McOk I m R) (e : J m = I m) : McOk J m R := by
  unfold McOk at h ⊢
  rw [e]
  exact h
theorem LatOk_f {I J : im_I} {m : Nat} (h : LatOk I m) (e : J (m + 1) = I (m + 1)) : LatOk J m := fun j hj => by
  rw [e]
  exact h j hj
theorem NwOk_fr {I J : im_I} (h : NwOk I) (e : ∀ z, 2 ≤ z ∧ z ≤ 11 ∨ z = 15 ∨ z = 16 ∨ 19 ≤ z ∧ z ≤ 54 ∨ 91 ≤ z ∧ z ≤ 107 → J z = I z) : NwOk J := by
  intro c
  rw [e 2 (by decide)] at c
  obtain ⟨h1, n, B, h2, h3⟩ := h c
  exact ⟨PB_fr h1 fun z hz => e z (by omega), n, B, h2, TmI_fr h3 fun z z1 z2 => e z (by omega)⟩
section
variable {S : im_S} {I J : im_I} {rn nn rs ns : Nat} {tm : Nat → Nat}
theorem Rd_fr (h : Rd S I rn nn rs ns tm) (e : ∀ z, 3 ≤ z ∧ z ≤ 11 ∨ z = 15 ∨ z = 16 ∨ z = 125 ∨ z = 128 → J z = I z) (ec : ∀ c, im_k S c = (20, 3) → J c = I c) (hN : NwOk J) : Rd S J rn nn rs ns tm := by
  obtain ⟨h1, h2, h3, ⟨⟨R, m1⟩, m2, m3, m4⟩, h5, -⟩ := h
  have e3 := e 3 (by decide)
  have e4 := e 4 (by decide)
  have e15 := e 15 (by decide)
  have e125 := e 125 (by decide)
  have e128 := e 128 (by decide)
  refine ⟨Lw_fr h1 (congrFun e3 0) (congrFun e3 1) (fun z z1 z2 => e z (by omega)) ec, fun j => by rw [e 11 (by decide)]; exact h2 j, ?_, ⟨⟨R, McOk_f m1 e15⟩, LatOk_f m2 (e (15 + 1) (by decide)), by rw [e15]; exact m3, by rw [e15]; exact m4⟩, ?_, hN⟩
  · unfold RdT
    rw [e4, e128]
    exact h3
  · unfold RdO
    rw [e125, e3, e15]
    exact h5
theorem Rd_pg (h : Rd S I rn nn rs ns tm) : PgOk I nn := Lw_PgOk h.1
theorem Rd_t9 (h : Rd S I rn nn rs ns tm) : ∀ b, b < 4 → I 4 b = nI (tm b) ∧ tm b ≤ 9 := fun b hb => ⟨(h.2.2.1 b hb).1, by have := (h.2.2.1 b hb).2.2.2; omega⟩
theorem Rd_t3 (h : Rd S I rn nn rs ns tm) : ∀ b, b < 4 → I 4 b = nI (tm b) ∧ tm b ≤ 3 := fun b hb => ⟨(h.2.2.1 b hb).1, (h.2.2.1 b hb).2.2.2⟩
theorem rt_1000 (h : ∀ j, I 11 j < 1000) : ∀ b j : Int32, rootOf_ I 3 b j < 2147483647 := by
  intro b j
  unfold rootOf_
  first
  | (unfold at_; split; decide; split; decide; exact Int32.lt_trans (h _) (by decide))
  | (split; decide; unfold at_; split; decide; split; decide; exact Int32.lt_trans (h _) (by decide))
theorem plan29 (hB : PB I) (hpg : PgOk I nn) : I 29 0 < 2147483647 := by
  obtain ⟨N, st, hL, -, -⟩ := plan_of hB hpg
  obtain ⟨⟨l1, l2, -⟩, -⟩ := hL
  rw [show I 29 0 = nI N from l1]
  exact nI_lt (a := N) (b := 2147483647) (by omega) (by decide)
/-- after building, a plan that stands, and its time -/
theorem now_ok {R : Nat} (hpg : PgOk I nn) (hm : McOk I 15 R) (hl : LatOk I 15) (ht : ∀ b, b < 4 → I 4 b = nI (tm b) ∧ tm b ≤ 3) (hN : NwOk I) : PB (builtNow_ I 2) ∧ (∃ n B, n ≤ 1008 ∧ TmI (builtNow_ I 2) 103 n B) ∧ ¬ builtNow_ I 2 2 8 = 0 := by
  by_cases c : I 2 8 = 0
  · obtain ⟨p1, p2⟩ := PB_built c
    refine ⟨p1, ?_, p2⟩
    obtain ⟨N, st, -, hL, hV⟩ := build_LO (I := I) (a := 19) (m := 15) (o := 1) hpg (by decide) (by decide)
    have f : ∀ z, z < 19 → build_ I 19 15 1 z = I z := fun z hz => built_fr hz
    obtain ⟨n, B, hn, hT⟩ := run_time (P := build_ I 19 15 1) (p := 19) (w := 91) (m := 15) (tm := tm) hL hV (McOk_f hm (f 15 (by decide))) (LatOk_f hl (f (15 + 1) (by decide))) (fun b hb => by rw [f 4 (by decide)]; exact ht b hb) (by decide) (by decide) (by decide)
    refine ⟨n, B, hn, TmI_fr hT fun z z1 z2 => ?_⟩
    unfold builtNow_
    rw [if_pos c, up_fr (by omega)]
    rfl
  · rw [builtNow_id c]
    exact ⟨(hN c).1, (hN c).2, c⟩
theorem now_fr {z : Nat} (h : 3 ≤ z ∧ z < 19 ∨ 54 < z ∧ z < 91 ∨ 107 < z) : builtNow_ I 2 z = I z := builtNow_fr (by decide) (by omega) (by omega)
theorem Rd_now (h : Rd S I rn nn rs ns tm) : Rd S (builtNow_ I 2) rn nn rs ns tm ∧ ¬ builtNow_ I 2 2 8 = 0 ∧ PB (builtNow_ I 2) ∧ builtNow_ I 2 29 0 < 2147483647 := by
  have hpg := Rd_pg h
  obtain ⟨R, hm⟩ := h.2.2.2.1.1
  obtain ⟨p1, p2, p3⟩ := now_ok hpg hm h.2.2.2.1.2.1 (Rd_t3 h) h.2.2.2.2.2
  refine ⟨Rd_fr h (fun z hz => now_fr (by omega)) (fun c hc => now_fr (by have := Lw_hi h.1 hc; omega)) (fun _ => ⟨p1, p2⟩), p3, p1, plan29 (nn := nn) p1 (PgOk_E hpg fun z z1 z2 => now_fr (by omega))⟩
end
