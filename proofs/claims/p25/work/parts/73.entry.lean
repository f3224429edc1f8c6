/-! PURE THEORY, THE ENTRY: VARIABLES that are read, or asked, and not written ahead of it -/
theorem isBelow_m1 {n : Int32} : isBelow_ (-1) n = false := by
  unfold isBelow_
  rw [if_pos (by decide)]
theorem vbit_hb {x : Int32} {v : Nat} (hx : x = -1 ∨ ∃ y, y < 2 ^ 31 ∧ x = nI y) (hv : v < 8) : hb (variableBit_ x) v = decide (x = nI v) := by
  unfold variableBit_
  rcases hx with e | ⟨y, hy, e⟩
  · rw [e, isBelow_m1, if_pos rfl, hb_0 (by omega)]
    exact (decide_eq_false (fun e2 => nI_m1 (by omega) e2.symm)).symm
  · rw [e, show (8 : Int32) = nI 8 from rfl, isBelow_nat hy (by decide)]
    by_cases c : y < 8
    · rw [decide_eq_true c, if_neg (by decide), hb_one (by omega) (by omega)]
      by_cases d : y = v
      · rw [d]; simp
      · rw [decide_eq_false d, decide_eq_false (fun e2 => d (nI_inj hy (by omega) e2))]
    · rw [decide_eq_false c, if_pos rfl, hb_0 (by omega)]
      exact (decide_eq_false (fun e2 => c (by have := nI_inj hy (by omega) e2; omega))).symm
section Early
variable {I : im_I} {a n : Nat}
/-- reads and writes are small or none -/
def rwOk (x : Ins) : Prop := (x 1 = -1 ∨ ∃ y, y < 2 ^ 31 ∧ x 1 = nI y) ∧ ∀ i, i < 3 → x (2 + i) = -1 ∨ ∃ y, y < 2 ^ 31 ∧ x (2 + i) = nI y
theorem early_hb (hn : I (a + 27) 0 = nI n) (h88 : n ≤ 88) (hR : ∀ p, p < n → rwOk (insAt I (a + 27) p)) : ∀ v, v < 8 → (hb (earlyVariables_ I a) v = true ↔ (∃ j, j < n ∧ rdS (insAt I (a + 27) j) (nI v) ∧ ∀ q, q < j → insAt I (a + 27) q 1 ≠ nI v) ∨ (hb (I 3 2) v = true ∧ ∀ j, j < n → insAt I (a + 27) j 1 ≠ nI v)) := by
  unfold earlyVariables_
  rw [hn, loopC_nat0 (by omega)]
  have key := itN_inv (f := fun i => earlyOne_ I (a + 27) (nI i)) (n := n) (s := ((0 : Int32), (0 : Int32))) (fun i s => ∀ v, v < 8 → (hb s.1 v = true ↔ ∃ j, j < i ∧ rdS (insAt I (a + 27) j) (nI v) ∧ ∀ q, q < j → insAt I (a + 27) q 1 ≠ nI v) ∧ (hb s.2 v = true ↔ ∃ j, j < i ∧ insAt I (a + 27) j 1 = nI v))
    (fun v hv => ⟨⟨fun h => absurd h (by rw [hb_0 (by omega)]; decide), fun ⟨j, hj, _⟩ => absurd hj (by omega)⟩, ⟨fun h => absurd h (by rw [hb_0 (by omega)]; decide), fun ⟨j, hj, _⟩ => absurd hj (by omega)⟩⟩)
    (fun i s hi hs v hv => by
      obtain ⟨h1, h2⟩ := hs v hv
      obtain ⟨r1, r2⟩ := hR i hi
      have q0 := vbit_hb (r2 0 (by decide)) hv
      have q1 := vbit_hb (r2 1 (by decide)) hv
      have q2 := vbit_hb (r2 2 (by decide)) hv
      have qw := vbit_hb r1 hv
      unfold earlyOne_
      rw [loopC3]
      simp only [readBy_0 (show i < 88 by omega), readBy_1 (show i < 88 by omega), readBy_2 (show i < 88 by omega), writtenBy_nat (show i < 88 by omega), hb_or (show v < 32 by omega), hb_and (show v < 32 by omega), hb_not (show v < 32 by omega), qw]
      have hw : (!hb s.2 v) = true ↔ ∀ q, q < i → insAt I (a + 27) q 1 ≠ nI v := by
        rw [Bool.not_eq_true', ← Bool.not_eq_true, h2]
        constructor
        · intro h q hq e
          exact h ⟨q, hq, e⟩
        · rintro h ⟨q, hq, e⟩
          exact h q hq e
      have e0 : hb (variableBit_ (insAt I (a + 27) i 2)) v = decide (insAt I (a + 27) i 2 = nI v) := q0
      have e1 : hb (variableBit_ (insAt I (a + 27) i 3)) v = decide (insAt I (a + 27) i 3 = nI v) := q1
      have e2 : hb (variableBit_ (insAt I (a + 27) i 4)) v = decide (insAt I (a + 27) i 4 = nI v) := q2
      rw [e0, e1, e2]
      refine ⟨?_, ?_⟩
      · simp only [Bool.or_eq_true, Bool.and_eq_true, decide_eq_true_eq, h1, hw]
        constructor
        · rintro (((⟨j, j1, j2, j3⟩ | ⟨c, d⟩) | ⟨c, d⟩) | ⟨c, d⟩)
          · exact ⟨j, by omega, j2, j3⟩
          · exact ⟨i, by omega, Or.inl c, d⟩
          · exact ⟨i, by omega, Or.inr (Or.inl c), d⟩
          · exact ⟨i, by omega, Or.inr (Or.inr c), d⟩
        · rintro ⟨j, j1, j2, j3⟩
          by_cases c : j = i
          · subst c
            rcases j2 with j2 | j2 | j2
            · exact Or.inl (Or.inl (Or.inr ⟨j2, j3⟩))
            · exact Or.inl (Or.inr ⟨j2, j3⟩)
            · exact Or.inr ⟨j2, j3⟩
          · exact Or.inl (Or.inl (Or.inl ⟨j, by omega, j2, j3⟩))
      · simp only [Bool.or_eq_true, decide_eq_true_eq, h2]
        constructor
        · rintro (⟨j, j1, j2⟩ | c)
          · exact ⟨j, by omega, j2⟩
          · exact ⟨i, by omega, c⟩
        · rintro ⟨j, j1, j2⟩
          by_cases c : j = i
          · subst c; exact Or.inr j2
          · exact Or.inl ⟨j, by omega, j2⟩)
  intro v hv
  obtain ⟨h1, h2⟩ := key v hv
  have hw : (!hb (itN (fun i => earlyOne_ I (a + 27) (nI i)) n ((0 : Int32), (0 : Int32))).2 v) = true ↔ ∀ j, j < n → insAt I (a + 27) j 1 ≠ nI v := by
    rw [Bool.not_eq_true', ← Bool.not_eq_true, h2]
    constructor
    · intro h q hq e
      exact h ⟨q, hq, e⟩
    · rintro h ⟨q, hq, e⟩
      exact h q hq e
  simp only [hb_or (show v < 32 by omega), hb_and (show v < 32 by omega), hb_not (show v < 32 by omega), Bool.or_eq_true, Bool.and_eq_true, h1, hw]
/-- the ENTRY's lines: ne of them -/
def EntI (I0 J : im_I) (a : Nat) (early : Int32) (v ne : Nat) : Prop := (ne ≤ v ∧ J (a + 10) 0 = nI ne) ∧ (∀ p, p < ne → ∃ u, u < v ∧ hb early u = true ∧ insAt J (a + 10) p = ins_ 0 (nI u) (-1) (-1) (-1) 0 (-1) 0) ∧ (∀ u, u < v → hb early u = true → ∃ p, p < ne ∧ insAt J (a + 10) p 1 = nI u) ∧ (∀ p q, p < ne → q < ne → insAt J (a + 10) p 1 = insAt J (a + 10) q 1 → p = q) ∧ (∀ z, z < a + 10 ∨ a + 16 < z → J z = I0 z)
theorem addEntry_E (h0 : I (a + 10) 0 = 0) : ∃ ne, EntI I (addEntry_ I a) a (earlyVariables_ I a) 8 ne := by
  unfold addEntry_
  rw [show (8 : Int32) = nI 8 from rfl, loopC_nat0 (by decide)]
  generalize earlyVariables_ I a = early
  refine itN_inv (f := fun v => addEntryOne_ a early (nI v)) (n := 8) (s := I) (fun v J => ∃ ne, EntI I J a early v ne) ⟨0, ⟨Nat.le_refl _, by rw [h0]; exact nI_0.symm⟩, fun p hp => absurd hp (by omega), fun u hu => absurd hu (by omega), fun p q hp => absurd hp (by omega), fun z hz => rfl⟩ (fun v J hv hJ => ?_)
  obtain ⟨ne, ⟨e1, e2⟩, e3, e4, e5, e6⟩ := hJ
  unfold addEntryOne_
  rw [hasBit_nat (by omega)]
  by_cases c : hb early v = true
  · rw [if_neg (by rw [c]; decide)]
    have hA := addR_app (I := J) (r := a + 10) (n := ne) (kd := 0) (v := nI v) (b := -1) (x := -1) (y := -1) (z := -1) e2 (by omega)
    generalize setReads_ (add_ J (a + 10) 0 (nI v) (-1)) (a + 10) (-1) (-1) (-1) = E at hA ⊢
    refine ⟨ne + 1, ⟨by omega, App_row hA⟩, fun p hp => ?_, fun u hu hu2 => ?_, fun p q hp hq hpq => ?_, fun z hz => (App_fr hA (by omega)).trans (e6 z hz)⟩
    · by_cases d : p = ne
      · subst d
        exact ⟨v, by omega, c, App_at hA⟩
      · obtain ⟨u, u1, u2, u3⟩ := e3 p (by omega)
        exact ⟨u, by omega, u2, by rw [App_old hA (by omega)]; exact u3⟩
    · by_cases d : u = v
      · subst d
        exact ⟨ne, by omega, by rw [App_at hA]; rfl⟩
      · obtain ⟨p, p1, p2⟩ := e4 u (by omega) hu2
        exact ⟨p, by omega, by rw [App_old hA p1]; exact p2⟩
    · have hnew : ∀ p, p < ne → insAt E (a + 10) p 1 ≠ nI v := fun p hp e => by
        obtain ⟨u, u1, u2, u3⟩ := e3 p hp
        rw [App_old hA hp, u3] at e
        have := nI_inj (by omega) (by omega) (show nI u = nI v from e)
        omega
      have hne : insAt E (a + 10) ne 1 = nI v := by rw [App_at hA]; rfl
      by_cases d : p = ne
      · subst d
        by_cases d2 : q = p
        · exact d2.symm
        · exact absurd (hpq.symm.trans hne) (hnew q (by omega))
      · by_cases d2 : q = ne
        · subst d2
          exact absurd (hpq.trans hne) (hnew p (by omega))
        · rw [App_old hA (by omega), App_old hA (by omega)] at hpq
          exact e5 p q (by omega) (by omega) hpq
  · rw [if_pos (by simpa using c)]
    refine ⟨ne, ⟨by omega, e2⟩, fun p hp => ?_, fun u hu hu2 => ?_, e5, e6⟩
    · obtain ⟨u, u1, u2, u3⟩ := e3 p hp
      exact ⟨u, by omega, u2, u3⟩
    · by_cases d : u = v
      · subst d; exact absurd hu2 c
      · exact e4 u (by omega) hu2
end Early
