/-! WHAT STANDS AFTER A BUILD: kinds of code, how long a RUN is -/
section Kinds
variable {I : im_I} {h : Nat} {two s : Int32}
def kdL (L : List CI) : Prop := ∀ x ∈ L, ∃ κ, κ ≤ 9 ∧ x 0 = nI κ
theorem kdL_app {L M : List CI} (h1 : kdL L) (h2 : kdL M) : kdL (L ++ M) := fun x hx => (List.mem_append.mp hx).elim (h1 x) (h2 x)
theorem kdL_nil : kdL [] := fun x hx => by simp at hx
theorem kdL_one {x : CI} (h : ∃ κ, κ ≤ 9 ∧ x 0 = nI κ) : kdL [x] := fun y hy => by
  rw [List.mem_singleton.mp hy]; exact h
theorem kdL_c {κ : Nat} {f s t u : Int32} (h : κ ≤ 9) : kdL [ci (nI κ) f s t u] := kdL_one ⟨κ, h, rfl⟩
theorem kdL_mv {d x : Int32} : kdL (mvL d x) := by
  unfold mvL
  split
  · exact kdL_nil
  · exact kdL_c (κ := 1) (by decide)
theorem kdL_op {kd d x y z n : Int32} (hk : ∃ κ, κ ≤ 9 ∧ kd = nI κ) : kdL (opL kd d x y z n) := by
  unfold opL
  split
  · exact kdL_c (κ := 5) (by decide)
  · exact kdL_one hk
theorem kdL_oper {kd d x y z n : Int32} (hk : ∃ κ, κ ≤ 9 ∧ kd = nI κ) : kdL (operL two s kd d x y z n) := by
  unfold operL
  split
  · exact kdL_op hk
  · split
    · exact kdL_app kdL_mv (kdL_op hk)
    · split
      · exact kdL_op hk
      · exact kdL_app (kdL_app kdL_mv (kdL_op hk)) kdL_mv
theorem kdL_ld {x d : Int32} : kdL (ldL I h x d) := by
  unfold ldL
  split
  · exact kdL_c (κ := 0) (by decide)
  · exact kdL_c (κ := 7) (by decide)
theorem kdL_br {x d : Int32} : kdL (brL I h x d) := by
  unfold brL
  split
  · exact kdL_ld
  · exact kdL_mv
theorem kdL_fe {x j : Int32} : kdL (feL I h s x j) := by
  unfold feL
  split
  · exact kdL_nil
  · split
    · exact kdL_nil
    · exact kdL_ld
theorem kdL_line {x : Ins} (ha : arOk (x 0) (x 2) (x 3) (x 4)) : kdL (lineL I h two s x) := by
  unfold lineL
  split
  · unfold callL
    refine kdL_app (kdL_app ?_ (kdL_c (κ := 9) (by decide))) ?_
    · unfold cmvL
      split
      · exact kdL_app (kdL_app kdL_mv kdL_mv) kdL_mv
      · split
        · exact kdL_app kdL_mv kdL_br
        · exact kdL_app kdL_br kdL_br
    · split
      · exact kdL_c (κ := 8) (by decide)
      · exact kdL_mv
  · split
    · exact kdL_nil
    · have hk : ∃ κ, κ ≤ 9 ∧ x 0 = nI κ := by
        rcases ha with ⟨e, -⟩ | ⟨e, -⟩ | ⟨e, -⟩ | ⟨e, -⟩ | ⟨e, -⟩
        · exact ⟨0, by decide, e.trans nI_0.symm⟩
        · exact ⟨1, by decide, e⟩
        · rcases e with e | e | e | e
          · exact ⟨2, by decide, e⟩
          · exact ⟨3, by decide, e⟩
          · exact ⟨4, by decide, e⟩
          · exact ⟨9, by decide, e⟩
        · exact ⟨5, by decide, e⟩
        · exact ⟨6, by decide, e⟩
      unfold oneL
      refine kdL_app (kdL_app (kdL_app (kdL_app kdL_fe kdL_fe) kdL_fe) ?_) ?_
      · unfold bodyL
        split
        · exact kdL_c (κ := 0) (by decide)
        · split
          · exact kdL_mv
          · split
            · exact kdL_oper ⟨5, by decide, rfl⟩
            · exact kdL_oper hk
      · unfold tailL
        split
        · exact kdL_c (κ := 8) (by decide)
        · exact kdL_nil
end Kinds
theorem KdOk_of {I K : im_I} {c h m r N : Nat} (hM : MkO I K c h m r N) (ha : ∀ q, q < N → arOk (insAt I r q 0) (insAt I r q 2) (insAt I r q 3) (insAt I r q 4)) : KdOk K c (cs I h m r N) := by
  intro k hk
  obtain ⟨q, i, q1, q2, q3⟩ := cs_find hk
  have hget : (LL I h m r q)[i]? = some (LL I h m r q)[i] := List.getElem?_eq_getElem q2
  have e1 := (hM.2.1 q i _ q1 hget).1
  obtain ⟨κ, κ1, κ2⟩ := kdL_line (I := I) (h := h) (two := I m 4) (s := scratch_ I m) (ha q q1) _ (List.getElem_mem q2)
  refine ⟨κ, κ1, ?_⟩
  rw [q3, ← κ2]
  exact congrFun e1 0
/-- how much code there is behind line a -/
theorem cs_wt {I : im_I} {h m r a : Nat} (n : Nat) (ha : ∀ q, a ≤ q → q < a + n → arOk (insAt I r q 0) (insAt I r q 2) (insAt I r q 3) (insAt I r q 4)) : cs I h m r (a + n) ≤ cs I h m r a + 2 * sumR (fun p => wt (insAt I r p)) a n := by
  induction n with
  | zero => exact Nat.le_refl _
  | succ n ih =>
    have h1 := ih (fun q h1 h2 => ha q h1 (by omega))
    have h2 := (lineL_len (I := I) (h := h) (two := I m 4) (s := scratch_ I m) (ha (a + n) (by omega) (by omega))).2
    show cs I h m r (a + n) + (LL I h m r (a + n)).length ≤ _
    have h3 : (LL I h m r (a + n)).length ≤ 2 * wt (insAt I r (a + n)) := h2
    rw [sumR_s]
    omega
theorem LatOk_fr {I J : im_I} {m : Nat} (h : LatOk I m) (e : J (m + 1) = I (m + 1)) : LatOk J m := by
  unfold LatOk
  rw [e]
  exact h
/-- how long the RUN of a plan's works is -/
theorem run_time {P : im_I} {p w m N R : Nat} {st tm : Nat → Nat} (hL : LnOk P p N st) (hV : LvOk P p N st) (hm : McOk P m R) (hl : LatOk P m) (ht : ∀ b, b < 4 → P 4 b = nI (tm b) ∧ tm b ≤ 3) (hpw : p + 26 < w) (hmw : m + 1 < w) (h12 : 12 < w) :
    ∃ n B, n ≤ 1008 ∧ TmI (worksBuild_ P w m p) (w + 12) n B := by
  obtain ⟨k1, k2, k3, k4⟩ := works_parts hL hV hm hpw hmw h12
  have fI : ∀ z, z < w + 1 → give_ P (w + 1) m (p + 10) (p + 17) z = P z := fun z hz => give_fr (Or.inl hz)
  unfold worksBuild_
  simp only
  generalize give_ P (w + 1) m (p + 10) (p + 17) = K1 at k1 k2 k3 k4 fI ⊢
  have f2 : ∀ z, z < w + 7 → make_ K1 (w + 7) m (p + 10) (w + 1) z = K1 z := fun z hz => make_fr (Or.inl hz)
  generalize make_ K1 (w + 7) m (p + 10) (w + 1) = K2 at k2 k4 f2 ⊢
  obtain ⟨s1, s2⟩ := st_le k1
  have har : ∀ q, q < N → arOk (insAt K1 (p + 10) q 0) (insAt K1 (p + 10) q 2) (insAt K1 (p + 10) q 3) (insAt K1 (p + 10) q 4) := fun q hq => (k1.1.2.1 q hq).1
  have hR := hm.2.2.1
  have g2 : ∀ z, z < w + 1 → K2 z = P z := fun z hz => (f2 z (by omega)).trans (fI z hz)
  obtain ⟨B, hB⟩ := go_time (K := K2) (a := w + 12) (m := m) (c := w + 7) (x := p + 26) (len := cs K1 (w + 1) m (p + 10) N) (R := R) (f := fun b => cs K1 (w + 1) m (p + 10) (st b)) (tm := tm) (e := 0) k3 (KdOk_of k2 har) (LatOk_fr hl (g2 _ (by omega))) (by rw [g2 m (by omega)]; exact hm.1) (by have := hm.2.1; omega) hR (Or.inl (by omega)) (Or.inl (by omega)) (Or.inl (by omega)) (by omega) k4 (fun b hb => cs_mono (s2 b hb)) (cs_mono (s1 4 (by decide))) (fun b hb => by rw [g2 4 (by omega)]; exact ⟨(ht b hb).1, by have := (ht b hb).2; omega⟩)
  refine ⟨_, B, ?_, hB⟩
  obtain ⟨⟨l1, l2, l3, l4, -⟩, -, -, -, -, -, -, l8, -⟩ := k1.1
  have e0 : cs K1 (w + 1) m (p + 10) (st 0) ≤ 6 * st 0 := cs_le fun q hq => har q (by have := s1 0 (by decide); omega)
  have s04 := s1 0 (by decide)
  have e1 := cs_wt (I := K1) (h := w + 1) (m := m) (r := p + 10) (a := st 0) (N - st 0) (fun q h1 h2 => har q (by omega))
  rw [show st 0 + (N - st 0) = N by omega] at e1
  have m0 := cs_mono (I := K1) (h := w + 1) (m := m) (r := p + 10) (s2 0 (by decide))
  have m1 := cs_mono (I := K1) (h := w + 1) (m := m) (r := p + 10) (s2 1 (by decide))
  have m2 := cs_mono (I := K1) (h := w + 1) (m := m) (r := p + 10) (s2 2 (by decide))
  have m3 := cs_mono (I := K1) (h := w + 1) (m := m) (r := p + 10) (s2 3 (by decide))
  have m4 : cs K1 (w + 1) m (p + 10) (st 4) = cs K1 (w + 1) m (p + 10) N := by rw [l4]
  have t0 := Nat.mul_le_mul_right (cs K1 (w + 1) m (p + 10) (st (0 + 1)) - cs K1 (w + 1) m (p + 10) (st 0)) (ht 0 (by decide)).2
  have t1 := Nat.mul_le_mul_right (cs K1 (w + 1) m (p + 10) (st (1 + 1)) - cs K1 (w + 1) m (p + 10) (st 1)) (ht 1 (by decide)).2
  have t2 := Nat.mul_le_mul_right (cs K1 (w + 1) m (p + 10) (st (2 + 1)) - cs K1 (w + 1) m (p + 10) (st 2)) (ht 2 (by decide)).2
  have t3 := Nat.mul_le_mul_right (cs K1 (w + 1) m (p + 10) (st (3 + 1)) - cs K1 (w + 1) m (p + 10) (st 3)) (ht 3 (by decide)).2
  show cs K1 (w + 1) m (p + 10) (st 0) + ((((0 + tm 0 * (cs K1 (w + 1) m (p + 10) (st (0 + 1)) - cs K1 (w + 1) m (p + 10) (st 0))) + tm 1 * (cs K1 (w + 1) m (p + 10) (st (1 + 1)) - cs K1 (w + 1) m (p + 10) (st 1))) + tm 2 * (cs K1 (w + 1) m (p + 10) (st (2 + 1)) - cs K1 (w + 1) m (p + 10) (st 2))) + tm 3 * (cs K1 (w + 1) m (p + 10) (st (3 + 1)) - cs K1 (w + 1) m (p + 10) (st 3))) ≤ 1008
  simp only [Nat.reduceAdd] at *
  omega
