/-! what a node is worth, and that its cover says so -/
def pf (K A B : Nat → Int32) : Nat → Nat → Int32 := fun j q => match q with | 0 => K j | 1 => A j | _ => B j
def nv (K A B : Nat → Int32) (H : Nat → Int32) (j : Nat) : Int32 := worth_ (pf K A B) H (j + 1) j
def szP (K A B : Nat → Int32) (j : Nat) : Nat := szOf (pf K A B) j
def opV (kd n x y z : Int32) : Int32 := if kd = 0 then n else if kd = 1 then x else if kd = 2 then x + y else if kd = 3 then x - y else if kd = 4 then x * y else if kd = 5 then x + n else if kd = 6 then x * y + z else 3 * x + 2 * y + 1
theorem worth_fuel {K A B H : Nat → Int32} {nn : Nat} (h : pgOk K A B nn) : ∀ (n m j : Nat), j < nn → j < n → j < m → worth_ (pf K A B) H n j = worth_ (pf K A B) H m j := by
  have h80 := h.1
  intro n
  induction n with
  | zero => intro m j _ h1; omega
  | succ n ih =>
    intro m j hj h1 h2
    obtain ⟨m, rfl⟩ : ∃ q, m = q + 1 := ⟨m - 1, by omega⟩
    rw [worth_s, worth_s]
    split
    · rfl
    · next c =>
      obtain ⟨x, y, hx, hy, e1, e2⟩ := pgOk_parts h hj (show ¬ K j < 2 from c)
      have g1 : (pf K A B j 1).toNatClampNeg = x := by show ofN (A j) = x; rw [e1, ofN_nI (by omega)]
      have g2 : (pf K A B j 2).toNatClampNeg = y := by show ofN (B j) = y; rw [e2, ofN_nI (by omega)]
      rw [g1, g2, ih m x (by omega) (by omega) (by omega), ih m y (by omega) (by omega) (by omega)]
section Nv
variable {K A B H : Nat → Int32} {nn j x y : Nat}
theorem nv_num (hk : K j = 0) : nv K A B H j = A j := by
  unfold nv
  rw [worth_s, if_pos (show pf K A B j 0 < 2 by show K j < 2; rw [hk]; decide), if_pos (show pf K A B j 0 = 0 from hk)]
  rfl
theorem nv_use {v : Nat} (hk : K j = 1) (hv : v < 2 ^ 31) (ha : A j = nI v) : nv K A B H j = H v := by
  unfold nv
  rw [worth_s, if_pos (show pf K A B j 0 < 2 by show K j < 2; rw [hk]; decide), if_neg (show ¬ pf K A B j 0 = 0 by show ¬ K j = 0; rw [hk]; decide)]
  show H (ofN (A j)) = _
  rw [ha, ofN_nI hv]
theorem nv_op (h : pgOk K A B nn) (hj : j < nn) (hx : x < j) (hy : y < j) (ha : A j = nI x) (hb : B j = nI y) (hk : K j = 2 ∨ K j = 3 ∨ K j = 4 ∨ K j = 5) : nv K A B H j = opV (if K j = 5 then 9 else K j) 0 (nv K A B H x) (nv K A B H y) 0 := by
  have h80 := h.1
  have g1 : (pf K A B j 1).toNatClampNeg = x := by show ofN (A j) = x; rw [ha, ofN_nI (by omega)]
  have g2 : (pf K A B j 2).toNatClampNeg = y := by show ofN (B j) = y; rw [hb, ofN_nI (by omega)]
  have e0 : pf K A B j 0 = K j := rfl
  show worth_ (pf K A B) H (j + 1) j = _
  rw [worth_s, g1, g2, worth_fuel h j (x + 1) x (by omega) (by omega) (by omega), worth_fuel h j (y + 1) y (by omega) (by omega) (by omega), e0]
  show _ = opV _ 0 (worth_ (pf K A B) H (x + 1) x) (worth_ (pf K A B) H (y + 1) y) 0
  generalize worth_ (pf K A B) H (x + 1) x = u
  generalize worth_ (pf K A B) H (y + 1) y = w
  rcases hk with e | e | e | e
  · rw [e]; rfl
  · rw [e]; rfl
  · rw [e]; rfl
  · rw [e]
    show 1 + 2 * w + 3 * u = 3 * u + 2 * w + 1
    rw [Int32.add_comm 1, Int32.add_assoc, Int32.add_comm 1, ← Int32.add_assoc, Int32.add_comm (2 * w)]
theorem nodesOk_pf (h : pgOk K A B nn) : nodesOk (pf K A B) nn := by
  intro j hj
  rcases h.2 j hj with (e | ⟨e, v, hv, ha⟩) | ⟨hk, x, y, hx, hy, ha, hb⟩
  · exact ⟨fun _ c => absurd e c, fun c => absurd (show K j < 2 by rw [e]; decide) c⟩
  · refine ⟨fun _ _ => ?_, fun c => absurd (show K j < 2 by rw [e]; decide) c⟩
    show vp_in (A j) 8
    rw [ha]
    exact vp_in_nI hv (by decide)
  · refine ⟨fun c => ?_, fun _ => ⟨⟨x, hx, ha⟩, y, hy, hb⟩⟩
    exact absurd (show K j < 2 from c) (by rcases hk with e | e | e | e <;> rw [e] <;> decide)
theorem szP_leaf (hk : K j < 2) : szP K A B j = 1 := szOf_leaf hk
theorem szP_op (h : pgOk K A B nn) (hj : j < nn) (hx : x < j) (hy : y < j) (ha : A j = nI x) (hb : B j = nI y) (hk : ¬ K j < 2) : szP K A B j = 1 + szP K A B x + szP K A B y := by
  have h80 := h.1
  have := szOf_node (nodesOk_pf h) (by omega) hj (show ¬ pf K A B j 0 < 2 from hk)
  have g1 : (pf K A B j 1).toNatClampNeg = x := by show ofN (A j) = x; rw [ha, ofN_nI (by omega)]
  have g2 : (pf K A B j 2).toNatClampNeg = y := by show ofN (B j) = y; rw [hb, ofN_nI (by omega)]
  rw [g1, g2] at this
  exact this
end Nv
/-- which reads an instruction of a kind has -/
def arOk (kd x y z : Int32) : Prop := (kd = 0 ∧ x = -1 ∧ y = -1 ∧ z = -1) ∨ (kd = 1 ∧ x ≠ -1 ∧ y = -1 ∧ z = -1) ∨ ((kd = 2 ∨ kd = 3 ∨ kd = 4 ∨ kd = 9) ∧ x ≠ -1 ∧ y ≠ -1 ∧ z = -1) ∨ (kd = 5 ∧ x ≠ -1 ∧ y = -1 ∧ z = -1) ∨ (kd = 6 ∧ x ≠ -1 ∧ y ≠ -1 ∧ z ≠ -1)
def psz (K A B : Nat → Int32) (x : Int32) : Nat := if x = -1 then 0 else szP K A B (ofN x)
/-- how many there are -/
def nrd (x y z : Int32) : Nat := (if x = -1 then 0 else 1) + (if y = -1 then 0 else 1) + (if z = -1 then 0 else 1)
/-- a cover of a node that is no USE -/
def CovF (K A B : Nat → Int32) (j : Nat) (cv : Nat → Int32) : Prop :=
  (arOk (cv 1) (cv 3) (cv 4) (cv 5) ∧ cv 1 ≠ 1) ∧ (∀ k, k < 3 → cv (6 + k) = -1 ∨ ∃ q, q < j ∧ cv (6 + k) = nI q) ∧ (∀ k, k < 3 → cv (3 + k) = -1 ∨ ∃ q, q < j ∧ cv (3 + k) = nI q ∧ ∃ i, i < 3 ∧ cv (6 + i) = nI q) ∧
  (∀ (H : Nat → Int32) (X : Nat → Int32), (∀ k q, k < 3 → q < j → cv (3 + k) = nI q → X k = nv K A B H q) → opV (cv 1) (cv 2) (X 0) (X 1) (X 2) = nv K A B H j) ∧
  (1 + psz K A B (cv 6) + psz K A B (cv 7) + psz K A B (cv 8) ≤ szP K A B j) ∧ (nrd (cv 3) (cv 4) (cv 5) ≤ nrd (cv 6) (cv 7) (cv 8))
theorem lt3 {P : Nat → Prop} (h0 : P 0) (h1 : P 1) (h2 : P 2) : ∀ k, k < 3 → P k := by
  intro k hk
  match k, hk with
  | 0, _ => exact h0
  | 1, _ => exact h1
  | 2, _ => exact h2
section CovF
variable {K A B C : Nat → Int32} {L : Int32 → Int32} {nn j x y : Nat} {cv : Nat → Int32}
theorem psz_nI {q : Nat} (hq : q < 2 ^ 31) : psz K A B (nI q) = szP K A B q := by
  unfold psz
  rw [if_neg (nI_m1 hq), ofN_nI hq]
theorem psz_m1 : psz K A B (-1) = 0 := if_pos rfl
theorem covPl_F (h : pgOk K A B nn) (hj : j < nn) (hx : x < j) (hy : y < j) (ha : A j = nI x) (hb : B j = nI y) (hk : ¬ K j < 2) : CovF K A B j (covPl L C (if K j = 5 then 9 else K j) x y) := by
  have h80 := h.1
  have hk2 : K j = 2 ∨ K j = 3 ∨ K j = 4 ∨ K j = 5 := by
    rcases h.2 j hj with (e | ⟨e, -⟩) | ⟨h1, -⟩
    · rw [e] at hk; exact absurd (by decide) hk
    · rw [e] at hk; exact absurd (by decide) hk
    · exact h1
  have mx := nI_m1 (show x < 2 ^ 31 by omega)
  have my := nI_m1 (show y < 2 ^ 31 by omega)
  refine ⟨⟨Or.inr (Or.inr (Or.inl ⟨?_, mx, my, rfl⟩)), ?_⟩, lt3 (Or.inr ⟨x, hx, rfl⟩) (Or.inr ⟨y, hy, rfl⟩) (Or.inl rfl), lt3 (Or.inr ⟨x, hx, rfl, 0, by decide, rfl⟩) (Or.inr ⟨y, hy, rfl, 1, by decide, rfl⟩) (Or.inl rfl), fun H X hX => ?_, ?_, Nat.le_refl _⟩
  · show (if K j = 5 then (9 : Int32) else K j) = 2 ∨ (if K j = 5 then (9 : Int32) else K j) = 3 ∨ (if K j = 5 then (9 : Int32) else K j) = 4 ∨ (if K j = 5 then (9 : Int32) else K j) = 9
    rcases hk2 with e | e | e | e <;> rw [e] <;> decide
  · show (if K j = 5 then (9 : Int32) else K j) ≠ 1
    rcases hk2 with e | e | e | e <;> rw [e] <;> decide
  · rw [nv_op h hj hx hy ha hb hk2, ← hX 0 x (by decide) hx rfl, ← hX 1 y (by decide) hy rfl]
    show opV (if K j = 5 then 9 else K j) 0 _ _ _ = _
    generalize X 0 = u
    generalize X 1 = w
    rcases hk2 with e | e | e | e <;> rw [e] <;> rfl
  · show 1 + psz K A B (nI x) + psz K A B (nI y) + psz K A B (-1) ≤ _
    rw [psz_nI (by omega), psz_nI (by omega), psz_m1, szP_op h hj hx hy ha hb hk]
    omega
theorem isSm_0 {sm : Int32} (h : isSm K A sm x = true) : K x = 0 := by
  unfold isSm at h
  split at h
  · cases h
  · next c => exact Classical.byContradiction fun e => c e
theorem sub_neg {a b : Int32} : a + -b = a - b := (Int32.sub_eq_add_neg a b).symm
theorem covSm_F {sm : Int32} (h : pgOk K A B nn) (hj : j < nn) (hx : x < j) (hy : y < j) (ha : A j = nI x) (hb : B j = nI y) (hk : ¬ K j < 2) (hc : CovF K A B j cv) : CovF K A B j (covSm K A sm L C (K j) x y cv) := by
  have h80 := h.1
  have mx := nI_m1 (show x < 2 ^ 31 by omega)
  have my := nI_m1 (show y < 2 ^ 31 by omega)
  have hs := szP_op h hj hx hy ha hb hk
  unfold covSm
  split
  · next c =>
    obtain ⟨c1, c2⟩ := c
    have c3 := isSm_0 c2
    unfold covSmBy
    split
    · exact hc
    · refine ⟨⟨Or.inr (Or.inr (Or.inr (Or.inl ⟨rfl, mx, rfl, rfl⟩))), show (5 : Int32) ≠ 1 by decide⟩, lt3 (Or.inr ⟨x, hx, rfl⟩) (Or.inl rfl) (Or.inl rfl), lt3 (Or.inr ⟨x, hx, rfl, 0, by decide, rfl⟩) (Or.inl rfl) (Or.inl rfl), fun H X hX => ?_, ?_, Nat.le_refl _⟩
      · have e := hX 0 x (by decide) hx rfl
        rw [nv_op h hj hx hy ha hb (by rcases c1 with c1 | c1 <;> simp [c1]), ← e, nv_num c3]
        show X 0 + (if K j = 3 then -A y else A y) = _
        rcases c1 with c1 | c1
        · rw [c1]; rfl
        · rw [c1]; exact sub_neg
      · show 1 + psz K A B (nI x) + psz K A B (-1) + psz K A B (-1) ≤ _
        rw [psz_nI (by omega), psz_m1, hs]
        omega
  · split
    · next c =>
      obtain ⟨c1, c2⟩ := c
      have c3 := isSm_0 c2
      unfold covSmBy
      split
      · exact hc
      · refine ⟨⟨Or.inr (Or.inr (Or.inr (Or.inl ⟨rfl, my, rfl, rfl⟩))), show (5 : Int32) ≠ 1 by decide⟩, lt3 (Or.inr ⟨y, hy, rfl⟩) (Or.inl rfl) (Or.inl rfl), lt3 (Or.inr ⟨y, hy, rfl, 0, by decide, rfl⟩) (Or.inl rfl) (Or.inl rfl), fun H X hX => ?_, ?_, Nat.le_refl _⟩
        · have e := hX 0 y (by decide) hy rfl
          rw [nv_op h hj hx hy ha hb (Or.inl c1), ← e, nv_num c3]
          show X 0 + (if K j = 3 then -A x else A x) = _
          rw [c1]
          exact Int32.add_comm _ _
        · show 1 + psz K A B (nI y) + psz K A B (-1) + psz K A B (-1) ≤ _
          rw [psz_nI (by omega), psz_m1, hs]
          omega
    · exact hc
theorem covFu_F {fu : Int32} (h : pgOk K A B nn) (hj : j < nn) (hx : x < j) (hy : y < j) (ha : A j = nI x) (hb : B j = nI y) (hk : ¬ K j < 2) (hc : CovF K A B j cv) : CovF K A B j (covFu K A B fu L C (K j) x y cv) := by
  have h80 := h.1
  have hs := szP_op h hj hx hy ha hb hk
  have k4 : ∀ j, K j = 4 → ¬ K j < 2 := fun j e => by rw [e]; decide
  unfold covFu
  split
  · exact hc
  · split
    · exact hc
    · next c1 =>
      have c1 : K j = 2 := Classical.byContradiction fun e => c1 e
      split
      · next c2 =>
        obtain ⟨u, w, hu, hw, e1, e2⟩ := pgOk_parts h (show x < nn by omega) (k4 _ c2)
        have hs2 := szP_op h (show x < nn by omega) hu hw e1 e2 (k4 _ c2)
        have mu := nI_m1 (show u < 2 ^ 31 by omega)
        have mw := nI_m1 (show w < 2 ^ 31 by omega)
        have my := nI_m1 (show y < 2 ^ 31 by omega)
        unfold covFuBy
        split
        · exact hc
        · rw [if_pos rfl, e1, e2]
          refine ⟨⟨Or.inr (Or.inr (Or.inr (Or.inr ⟨rfl, mu, mw, my⟩))), show (6 : Int32) ≠ 1 by decide⟩, lt3 (Or.inr ⟨u, by omega, rfl⟩) (Or.inr ⟨w, by omega, rfl⟩) (Or.inr ⟨y, hy, rfl⟩), lt3 (Or.inr ⟨u, by omega, rfl, 0, by decide, rfl⟩) (Or.inr ⟨w, by omega, rfl, 1, by decide, rfl⟩) (Or.inr ⟨y, hy, rfl, 2, by decide, rfl⟩), fun H X hX => ?_, ?_, Nat.le_refl _⟩
          · rw [nv_op h hj hx hy ha hb (Or.inl c1), nv_op h (show x < nn by omega) hu hw e1 e2 (Or.inr (Or.inr (Or.inl c2))), ← hX 0 u (by decide) (by omega) rfl, ← hX 1 w (by decide) (by omega) rfl, ← hX 2 y (by decide) hy rfl, c1, c2]
            rfl
          · show 1 + psz K A B (nI u) + psz K A B (nI w) + psz K A B (nI y) ≤ _
            rw [psz_nI (by omega), psz_nI (by omega), psz_nI (by omega), hs, hs2]
            omega
      · split
        · next c2 =>
          obtain ⟨u, w, hu, hw, e1, e2⟩ := pgOk_parts h (show y < nn by omega) (k4 _ c2)
          have hs2 := szP_op h (show y < nn by omega) hu hw e1 e2 (k4 _ c2)
          have mu := nI_m1 (show u < 2 ^ 31 by omega)
          have mw := nI_m1 (show w < 2 ^ 31 by omega)
          have mx := nI_m1 (show x < 2 ^ 31 by omega)
          unfold covFuBy
          split
          · exact hc
          · rw [if_neg (by decide), e1, e2]
            refine ⟨⟨Or.inr (Or.inr (Or.inr (Or.inr ⟨rfl, mu, mw, mx⟩))), show (6 : Int32) ≠ 1 by decide⟩, lt3 (Or.inr ⟨x, hx, rfl⟩) (Or.inr ⟨u, by omega, rfl⟩) (Or.inr ⟨w, by omega, rfl⟩), lt3 (Or.inr ⟨u, by omega, rfl, 1, by decide, rfl⟩) (Or.inr ⟨w, by omega, rfl, 2, by decide, rfl⟩) (Or.inr ⟨x, hx, rfl, 0, by decide, rfl⟩), fun H X hX => ?_, ?_, ?_⟩
            · rw [nv_op h hj hx hy ha hb (Or.inl c1), nv_op h (show y < nn by omega) hu hw e1 e2 (Or.inr (Or.inr (Or.inl c2))), ← hX 0 u (by decide) (by omega) rfl, ← hX 1 w (by decide) (by omega) rfl, ← hX 2 x (by decide) hx rfl, c1, c2]
              exact Int32.add_comm _ _
            · show 1 + psz K A B (nI x) + psz K A B (nI u) + psz K A B (nI w) ≤ _
              rw [psz_nI (by omega), psz_nI (by omega), psz_nI (by omega), hs, hs2]
              omega
            · show nrd (nI u) (nI w) (nI x) ≤ nrd (nI x) (nI u) (nI w)
              unfold nrd
              omega
        · exact hc
/-- what is known of all covers -/
theorem covNew_F {sm fu : Int32} (h : pgOk K A B nn) (hj : j < nn) : (K j = 1 ∧ (∃ v, v < 8 ∧ A j = nI v) ∧ covNew K A B L sm fu C j = cov_ 0 1 0 (-1) (-1) (-1) (-1) (-1) (-1)) ∨ (K j ≠ 1 ∧ CovF K A B j (covNew K A B L sm fu C j)) := by
  have h80 := h.1
  rcases h.2 j hj with (e | ⟨e, hv⟩) | ⟨hk, x, y, hx, hy, ha, hb⟩
  · refine Or.inr ⟨by rw [e]; decide, ?_⟩
    have e2 : covNew K A B L sm fu C j = cov_ (L 0) 0 (A j) (-1) (-1) (-1) (-1) (-1) (-1) := by
      unfold covNew covLeaf
      rw [if_pos (by rw [e]; decide), if_neg (by rw [e]; decide)]
    rw [e2]
    refine ⟨⟨Or.inl ⟨rfl, rfl, rfl, rfl⟩, show (0 : Int32) ≠ 1 by decide⟩, lt3 (Or.inl rfl) (Or.inl rfl) (Or.inl rfl), lt3 (Or.inl rfl) (Or.inl rfl) (Or.inl rfl), fun H X hX => (nv_num e).symm, ?_, Nat.le_refl _⟩
    show 1 + psz K A B (-1) + psz K A B (-1) + psz K A B (-1) ≤ _
    rw [psz_m1, szP_leaf (by rw [e]; decide)]
    omega
  · refine Or.inl ⟨e, hv, ?_⟩
    unfold covNew covLeaf
    rw [if_pos (by rw [e]; decide), if_pos e]
  · have k2 : ¬ K j < 2 := by rcases hk with e | e | e | e <;> rw [e] <;> decide
    refine Or.inr ⟨by rcases hk with e | e | e | e <;> rw [e] <;> decide, ?_⟩
    unfold covNew
    rw [if_neg k2, ha, hb, ofN_nI (by omega), ofN_nI (by omega)]
    exact covFu_F h hj hx hy ha hb k2 (covSm_F h hj hx hy ha hb k2 (covPl_F h hj hx hy ha hb k2))
end CovF
