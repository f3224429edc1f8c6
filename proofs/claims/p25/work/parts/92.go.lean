/-! PURE THEORY, THE RUN: from its loops to the lines -/
def LLs (I : im_I) (h m r p n : Nat) : List CI := (List.range' p n).flatMap (LL I h m r)
section Go
variable {I K : im_I} {c h m r a x N R : Nat}
theorem LLs_s {p n : Nat} : LLs I h m r p (n + 1) = LLs I h m r p n ++ LL I h m r (p + n) := by
  unfold LLs
  rw [List.range'_concat, List.flatMap_append, Nat.one_mul]
  simp
theorem LLs_len {p n : Nat} : cs I h m r p + (LLs I h m r p n).length = cs I h m r (p + n) := by
  induction n with
  | zero => rfl
  | succ n ih =>
    rw [LLs_s, List.length_append, ← Nat.add_assoc, ih]
    rfl
theorem LLs_ex {p n : Nat} {σ : RS} : exCL (I m 1) R (LLs I h m r p n) σ = exLn I h m r R p n σ := by
  induction n with
  | zero =>
    unfold LLs exLn
    rw [List.range'_zero, List.flatMap_nil, exCL_n, itN_0]
  | succ n ih =>
    rw [LLs_s, exCL_app, ih]
    exact itN_s.symm
theorem LLs_at (hM : MkO I K c h m r N) {p : Nat} : ∀ n, p + n ≤ N → ∀ i y, (LLs I h m r p n)[i]? = some y → codeAt K c (cs I h m r p + i) = y := by
  intro n
  induction n with
  | zero => intro _ i y hy; simp [LLs] at hy
  | succ n ih =>
    intro hn i y hy
    have hl := LLs_len (I := I) (h := h) (m := m) (r := r) (p := p) (n := n)
    rw [LLs_s] at hy
    by_cases d : i < (LLs I h m r p n).length
    · rw [List.getElem?_append_left d] at hy
      exact ih (by omega) i y hy
    · rw [List.getElem?_append_right (by omega)] at hy
      have := (hM.2.1 (p + n) _ y (by omega) hy).1
      rw [← hl] at this
      rw [show cs I h m r p + i = cs I h m r p + (LLs I h m r p n).length + (i - (LLs I h m r p n).length) by omega]
      exact this
/-- code and machine as a run leaves them -/
def RunOf (K J : im_I) (a : Nat) : Prop := ∀ z, z < a ∨ a + 4 < z → J z = K z
theorem goLn {J : im_I} (hM : MkO I K c h m r N) (hJ : RunOf K J a) (hR : I m 0 = nI R) (hR1 : 1 ≤ R) (hR11 : R ≤ 11) (hm : m < a ∨ a + 4 < m) (hmc : m < c ∨ c + 4 < m) (hc : c + 4 < a ∨ a + 4 < c) (hlen : cs I h m r N ≤ 528) {p q : Nat} (hpq : p ≤ q) (hq : q ≤ N) :
    (goThrough_ J a m c (nI (cs I h m r p)) (nI (cs I h m r q)) (a + 2), goThrough_ J a m c (nI (cs I h m r p)) (nI (cs I h m r q)) (a + 3)) = exLn I h m r R p (q - p) (J (a + 2), J (a + 3)) := by
  have hl := LLs_len (I := I) (h := h) (m := m) (r := r) (p := p) (n := q - p)
  rw [show p + (q - p) = q by omega] at hl
  have hqN : cs I h m r q ≤ cs I h m r N := cs_mono hq
  have em : J m = I m := (hJ m hm).trans (hM.2.2.2 m hmc)
  have g := goThrough_rows (J := J) (a := a) (m := m) (c := c) (R := R) (f := cs I h m r p) (L := LLs I h m r p (q - p)) (fun i y hy => by
    have := LLs_at hM (p := p) (q - p) (by omega) i y hy
    unfold codeAt at this ⊢
    rw [hJ (c + 1) (by omega), hJ (c + 2) (by omega)]
    exact this) (by omega) (by rw [em]; exact hR) hR1 hR11 hm hc
  rw [hl, em, LLs_ex] at g
  exact g
theorem go_rows {st tm : Nat → Nat} (hM : MkO I K c h m r N) (hR : I m 0 = nI R) (hR1 : 1 ≤ R) (hR11 : R ≤ 11) (hm : m < a ∨ a + 4 < m) (hmc : m < c ∨ c + 4 < m) (hc : c + 4 < a ∨ a + 4 < c) (hlen : cs I h m r N ≤ 528) (hN : N ≤ 88) (hx : x < a ∨ a + 4 < x) (hxc : x < c ∨ c + 4 < x) (h4a : 4 < a) (h4c : 4 < c)
    (hst : ∀ b, b < 5 → I x b = nI (st b) ∧ st b ≤ N) (hss : ∀ b, b < 4 → st b ≤ st (b + 1)) (ht : ∀ b, b < 4 → I 4 b = nI (tm b) ∧ tm b < 100) :
    ∃ σ0, (go_ K a m c x 5 (a + 2), go_ K a m c x 5 (a + 3)) = exAll I h m r R st tm 4 (exLn I h m r R 0 (st 0) σ0) := by
  have hso : ∀ J : im_I, RunOf K J a → ∀ b, b < 5 → startOf_ J c (at_ (J x) 5 (nI b)) = nI (cs I h m r (st b)) := fun J hJ b hb => by
    obtain ⟨q1, q2⟩ := hst b hb
    rw [at_nat hb (by decide), hJ x hx, hM.2.2.2 x hxc, q1]
    unfold startOf_
    rw [at_nat (by omega) (by decide), hJ (c + 4) (by omega)]
    exact hM.2.2.1 (st b) q2
  have h0 : RunOf K (go0_ K a) a := fun z hz => go0_fr hz
  have hg : ∀ (J : im_I) (f t : Int32), RunOf K J a → RunOf K (goThrough_ J a m c f t) a := fun J f t hJ z hz => (goThrough_fr hz).trans (hJ z hz)
  refine ⟨(go0_ K a (a + 2), go0_ K a (a + 3)), ?_⟩
  have e1 : go_ K a m c x 5 = loopC 0 4 (goBlock_ a m c x 5) (goThrough_ (go0_ K a) a m c 0 (startOf_ (go0_ K a) c (at_ (go0_ K a x) 5 0))) := rfl
  rw [e1, show at_ (go0_ K a x) 5 0 = at_ (go0_ K a x) 5 (nI 0) by rw [nI_0], hso _ h0 0 (by decide)]
  have e2 := goLn (J := go0_ K a) hM h0 hR hR1 hR11 hm hmc hc hlen (p := 0) (q := st 0) (Nat.zero_le _) (hst 0 (by decide)).2
  rw [show cs I h m r 0 = 0 from rfl, nI_0, Nat.sub_zero] at e2
  rw [show (4 : Int32) = nI 4 by decide, loopC_nat0 (by decide)]
  have h1 := hg (go0_ K a) 0 (nI (cs I h m r (st 0))) h0
  rw [← e2]
  generalize goThrough_ (go0_ K a) a m c 0 (nI (cs I h m r (st 0))) = J1 at h1 ⊢
  have key : ∀ b, b ≤ 4 → RunOf K (itN (fun j => goBlock_ a m c x 5 (nI j)) b J1) a ∧ (itN (fun j => goBlock_ a m c x 5 (nI j)) b J1 (a + 2), itN (fun j => goBlock_ a m c x 5 (nI j)) b J1 (a + 3)) = exAll I h m r R st tm b (J1 (a + 2), J1 (a + 3)) := by
    intro b
    induction b with
    | zero =>
      intro _
      unfold exAll
      rw [itN_0, itN_0]
      exact ⟨h1, rfl⟩
    | succ b ih =>
      intro hb
      obtain ⟨i1, i2⟩ := ih (by omega)
      have e3 : exAll I h m r R st tm (b + 1) (J1 (a + 2), J1 (a + 3)) = exBk I h m r R st b (tm b) (exAll I h m r R st tm b (J1 (a + 2), J1 (a + 3))) := itN_s
      rw [itN_s, e3, ← i2]
      generalize itN (fun j => goBlock_ a m c x 5 (nI j)) b J1 = E at i1 ⊢
      unfold goBlock_
      have er : roundsOf_ E 3 (nI b) = nI (tm b) := by
        unfold roundsOf_
        rw [if_neg (nI_m1 (by omega)), at_nat (by omega) (by decide), i1 (3 + 1) (by omega), hM.2.2.2 (3 + 1) (by omega)]
        exact (ht b (by omega)).1
      rw [hso E i1 b (by omega), ← nI_succ, hso E i1 (b + 1) (by omega), er]
      have htb := (ht b (by omega)).2
      simp only
      rw [loopC_nat0 (by omega)]
      generalize tm b = t
      have k2 : ∀ n, RunOf K (itN (fun _ K => goThrough_ K a m c (nI (cs I h m r (st b))) (nI (cs I h m r (st (b + 1))))) n E) a ∧ (itN (fun _ K => goThrough_ K a m c (nI (cs I h m r (st b))) (nI (cs I h m r (st (b + 1))))) n E (a + 2), itN (fun _ K => goThrough_ K a m c (nI (cs I h m r (st b))) (nI (cs I h m r (st (b + 1))))) n E (a + 3)) = exBk I h m r R st b n (E (a + 2), E (a + 3)) := by
        intro n
        induction n with
        | zero =>
          unfold exBk
          rw [itN_0, itN_0]
          exact ⟨i1, rfl⟩
        | succ n ihn =>
          obtain ⟨j1, j2⟩ := ihn
          have e4 : exBk I h m r R st b (n + 1) (E (a + 2), E (a + 3)) = exLn I h m r R (st b) (st (b + 1) - st b) (exBk I h m r R st b n (E (a + 2), E (a + 3))) := itN_s
          rw [itN_s, e4, ← j2]
          exact ⟨hg _ _ _ j1, goLn hM j1 hR hR1 hR11 hm hmc hc hlen (hss b (by omega)) (hst (b + 1) (by omega)).2⟩
      exact k2 t
  exact (key 4 (Nat.le_refl _)).2
end Go
