/-! PURE THEORY, THE RUN: cycles, steps and stalls -/
def LatOk (I : im_I) (m : Nat) : Prop := ∀ j, j < 8 → ∃ l, 1 ≤ l ∧ l ≤ 9 ∧ I (m + 1) j = nI l
def KdOk (K : im_I) (c n : Nat) : Prop := ∀ k, k < n → ∃ κ, κ ≤ 9 ∧ K (c + 1) k = nI κ
theorem lat_lt : ∀ κ, κ < 10 → ∃ j, j < 8 ∧ im_lat κ = nI j := by
  intro κ hκ
  match κ, hκ with
  | 0, _ => exact ⟨0, by decide, by decide⟩
  | 1, _ => exact ⟨1, by decide, by decide⟩
  | 2, _ => exact ⟨2, by decide, by decide⟩
  | 3, _ => exact ⟨2, by decide, by decide⟩
  | 4, _ => exact ⟨3, by decide, by decide⟩
  | 5, _ => exact ⟨2, by decide, by decide⟩
  | 6, _ => exact ⟨4, by decide, by decide⟩
  | 7, _ => exact ⟨5, by decide, by decide⟩
  | 8, _ => exact ⟨6, by decide, by decide⟩
  | 9, _ => exact ⟨7, by decide, by decide⟩
theorem cycles_nat {I : im_I} {m κ : Nat} (h : LatOk I m) (hκ : κ ≤ 9) : ∃ l, 1 ≤ l ∧ l ≤ 9 ∧ cyclesOf_ I m (nI κ) = nI l := by
  obtain ⟨j, j1, j2⟩ := lat_lt κ (by omega)
  obtain ⟨l, l1, l2, l3⟩ := h j j1
  refine ⟨l, l1, l2, ?_⟩
  unfold cyclesOf_ lkind_
  rw [at_nat (by omega) (by decide), j2, at_nat j1 (by decide)]
  exact l3
def TmI (J : im_I) (a n B : Nat) : Prop :=
  (n ≤ B ∧ B ≤ 9 * n ∧ J a 0 = nI n ∧ J a 9 = nI B - 1 ∧ J a 2 = nI (B - n)) ∧ (n = 0 → J a 1 = 0) ∧ (0 < n → ∃ l, 1 ≤ l ∧ l ≤ 9 ∧ J a 1 = nI (B - 1 + l)) ∧ ∀ j, j < 11 → ∃ ρ, J (a + 4) j = nI ρ ∧ ρ ≤ B + 8
/-- none, or small -/
def sml (x : Int32) (b : Nat) : Prop := x = -1 ∨ ∃ ρ, ρ ≤ b ∧ x = nI ρ
theorem sml_at {f : Nat → Int32} {b : Nat} (h : ∀ j, j < 11 → ∃ ρ, f j = nI ρ ∧ ρ ≤ b) (i : Int32) : sml (at_ f 11 i) b := by
  unfold at_
  split
  · exact Or.inl rfl
  · next c =>
    split
    · exact Or.inl rfl
    · next c2 =>
      obtain ⟨j, hj, rfl⟩ := nI_of c
      have : j < 11 := by
        apply Nat.lt_of_not_le
        intro hle
        exact c2 (nI_le hle hj)
      rw [nI_clamp hj]
      obtain ⟨ρ, r1, r2⟩ := h j this
      exact Or.inr ⟨ρ, r2, r1⟩
theorem sml_max {x y : Int32} {b : Nat} (hx : sml x b) (hy : sml y b) : sml (max_ x y) b := by
  unfold max_
  split
  · exact hy
  · exact hx
theorem max_sml {B b : Nat} {x : Int32} (hx : sml x b) (hB : B ≤ b) (hb : b < 2 ^ 31) : ∃ e, B ≤ e ∧ e ≤ b ∧ max_ (nI B) x = nI e := by
  rcases hx with e | ⟨ρ, r1, e⟩
  · subst e
    refine ⟨B, Nat.le_refl _, hB, ?_⟩
    unfold max_
    rw [if_neg]
    rw [Int32.lt_iff_toInt_lt, nI_toInt (by omega), show (-1 : Int32).toInt = -1 by decide]
    omega
  · subst e
    exact ⟨max B ρ, by omega, by omega, max_nat (by omega) (by omega)⟩
section Tm
variable {J : im_I} {a m c k n B : Nat}
theorem ready_sml {kd f s t u : Int32} (h : ∀ j, j < 11 → ∃ ρ, J (a + 4) j = nI ρ ∧ ρ ≤ B) : sml (readyFor_ J a kd f s t u) B := by
  have z : sml 0 B := Or.inr ⟨0, Nat.zero_le _, nI_0.symm⟩
  have q := fun i => sml_at h i
  unfold readyFor_
  split
  · exact q _
  · split
    · exact sml_max (q _) (q _)
    · split
      · exact sml_max (q _) (q _)
      · split
        · exact sml_max (q _) (q _)
        · split
          · exact q _
          · split
            · exact sml_max (q _) (sml_max (q _) (q _))
            · split
              · exact z
              · split
                · exact q _
                · split
                  · exact sml_max (q _) (q _)
                  · exact z
theorem i32_gap {x d : Int32} : x + d - (x - 1) - 1 = d := by grind
theorem step1_time (hk : k < 528) (hc : c + 4 < a ∨ a + 4 < c) (hm : m + 1 < a ∨ a + 4 < m) (hl : LatOk J m) (hkd : ∃ κ, κ ≤ 9 ∧ J (c + 1) k = nI κ) (hn : n < 100000) (H : TmI J a n B) :
    ∃ e l, B ≤ e ∧ e ≤ B + 8 ∧ 1 ≤ l ∧ l ≤ 9 ∧ step1_ a m c (nI k) J a 0 = nI (n + 1) ∧ step1_ a m c (nI k) J a 9 = nI e ∧ step1_ a m c (nI k) J a 2 = nI (e - n) ∧ step1_ a m c (nI k) J a 1 = nI (e + l) := by
  obtain ⟨⟨h1, h2, h3, h4, h5⟩, -, -, h8⟩ := H
  obtain ⟨κ, κ1, κ2⟩ := hkd
  obtain ⟨l, l1, l2, l3⟩ := cycles_nat hl κ1
  obtain ⟨e, e1, e2, e3⟩ := max_sml (B := B) (ready_sml (J := J) (a := a) (B := B + 8) (kd := codeKindOf_ J c (nI k)) (f := operandOf_ J c (nI k) 1) (s := operandOf_ J c (nI k) 2) (t := operandOf_ J c (nI k) 3) (u := operandOf_ J c (nI k) 4) h8) (by omega) (by omega)
  refine ⟨e, l, e1, e2, l1, l2, ?_⟩
  have hB1 : nI B - 1 + 1 = nI B := by rw [Int32.sub_add_cancel]
  have ek : codeKindOf_ J c (nI k) = nI κ := by rw [codeKind_nat hk]; exact κ2
  have hst : nI (B - n) + (nI e - (nI B - 1) - 1) = nI (e - n) := by
    rw [show e = B + (e - B) by omega, ← nI_add B (e - B), i32_gap, nI_add]
    congr 1; omega
  unfold step1_
  rw [h4, hB1, e3]
  rw [ek]
  have hcy : ∀ E : im_I, E (m + 1) = J (m + 1) → cyclesOf_ E m (nI κ) = nI l := fun E hE => by
    unfold cyclesOf_ at l3 ⊢
    rw [hE]; exact l3
  have hrow : ∀ E : im_I, (∀ z, z ≠ a → E z = J z) → cyclesOf_ E m (nI κ) = nI l := fun E hE => hcy E (hE (m + 1) (by omega))
  rw [hrow _ (fun z hz => by rw [up_fr hz, up_fr hz, up_fr hz])]
  have hput : ∀ (E : im_I) (P : Prop) [Decidable P] (v : Int32), (if P then put_ E (a + 1) 528 (nI k) v else E) a = E a := fun E P _ v => by
    split
    · exact put_fr (by omega)
    · rfl
  rw [hput]
  refine ⟨?_, ?_, ?_, ?_⟩
  · rw [up_ne (by decide), im_up_same, up_ne (by decide), up_ne (by decide), h3, nI_succ]
  · rw [up_ne (by decide), up_ne (by decide), im_up_same]
  · rw [up_ne (by decide), up_ne (by decide), up_ne (by decide), im_up_same, h5, hst]
  · rw [im_up_same, nI_add]
theorem runStep_time {R : Nat} (hk : k < 528) (hc : c + 4 < a ∨ a + 4 < c) (hm : m + 1 < a ∨ a + 4 < m) (hl : LatOk J m) (hR : J m 0 = nI R) (hR1 : 1 ≤ R) (hR11 : R ≤ 11) (hkd : ∃ κ, κ ≤ 9 ∧ J (c + 1) k = nI κ) (hn : n < 100000) (H : TmI J a n B) : ∃ B', TmI (runStep_ a m c (nI k) J) a (n + 1) B' := by
  obtain ⟨e, l, e1, e2, l1, l2, s0, s9, s2, s1⟩ := step1_time hk hc hm hl hkd hn H
  have hs := step1_row (J := J) (a := a) (m := m) (c := c) hk
  obtain ⟨⟨h1, h2, h3, h4, h5⟩, -, -, h8⟩ := H
  unfold runStep_
  generalize codeKindOf_ J c (nI k) = kd
  generalize operandOf_ J c (nI k) 1 = f
  generalize operandOf_ J c (nI k) 2 = s
  generalize operandOf_ J c (nI k) 3 = t
  generalize operandOf_ J c (nI k) 4 = u
  generalize step1_ a m c (nI k) J = E at s0 s9 s2 s1 hs ⊢
  have hE4 : E (a + 4) = J (a + 4) := hs (a + 4) (by omega) (by omega)
  have hrow : perform_ E a m kd f s t u a = E a := by
    unfold perform_
    split
    · exact put_fr (by omega)
    · split
      · exact (performCall_nat (R := R) (by rw [hs m (by omega) (by omega)]; exact hR) hR1 hR11 (by omega)).2.1 a (by omega) (by omega)
      · simp only
        rw [put_fr (by omega), put_fr (by omega)]
  refine ⟨e + 1, ⟨by omega, by omega, by rw [hrow]; exact s0, by rw [hrow, nI_pred]; exact s9, by rw [hrow, s2, show e + 1 - (n + 1) = e - n by omega]⟩, fun hh => absurd hh (by omega), fun _ => ⟨l, l1, l2, by rw [hrow, s1, show e + 1 - 1 + l = e + l by omega]⟩, fun j hj => ?_⟩
  have old : ∃ ρ, J (a + 4) j = nI ρ ∧ ρ ≤ e + 1 + 8 := by
    obtain ⟨ρ, r1, r2⟩ := h8 j hj
    exact ⟨ρ, r1, by omega⟩
  unfold perform_
  split
  · rw [put_fr (by omega), hE4]; exact old
  · split
    · rw [(performCall_nat (R := R) (by rw [hs m (by omega) (by omega)]; exact hR) hR1 hR11 (by omega)).2.2 j hj]
      split
      · exact ⟨_, s1, by omega⟩
      · split
        · exact ⟨_, s9, by omega⟩
        · rw [hE4]; exact old
    · simp only
      rw [put_F, put_fr (show a + 4 ≠ a + 2 by omega), hE4, put_fr (show a ≠ a + 2 by omega), s1]
      unfold putF
      split
      · exact old
      · split
        · exact old
        · rw [upd_at]
          split
          · exact ⟨_, rfl, by omega⟩
          · exact old
end Tm
