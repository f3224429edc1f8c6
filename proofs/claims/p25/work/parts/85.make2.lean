theorem MkI_0 {I : im_I} {c h m r : Nat} : MkI I (im_up I c 0 0) c h m r 0 := ⟨by rw [im_up_same]; exact nI_0.symm, fun q k x hq => absurd hq (by omega), fun q hq => absurd hq (by omega), fun z hz => up_fr (by omega)⟩
/-- the code -/
def MkO (I J : im_I) (c h m r N : Nat) : Prop :=
  (J c 0 = nI (cs I h m r N)) ∧ (∀ q k x, q < N → (LL I h m r q)[k]? = some x → codeAt J c (cs I h m r q + k) = x ∧ J (c + 3) (cs I h m r q + k) = nI q) ∧ (∀ q, q ≤ N → J (c + 4) q = nI (cs I h m r q)) ∧ Same I J c
theorem make_M {I : im_I} {c h m r N : Nat} (hN : I r 0 = nI N) (h88 : N ≤ 88) (hr : r + 6 < c ∨ c + 4 < r) (hh : h + 5 < c ∨ c + 4 < h) (hm : m < c ∨ c + 4 < m) (ha : ∀ q, q < N → arOk (insAt I r q 0) (insAt I r q 2) (insAt I r q 3) (insAt I r q 4)) : MkO I (make_ I c m r h) c h m r N := by
  have key : MkI I (loopC 0 (I r 0) (makeStep_ c m r h) (im_up I c 0 0)) c h m r N := by
    rw [hN, loopC_nat0 (by omega)]
    exact itN_inv (f := fun p => makeStep_ c m r h (nI p)) (fun p J => MkI I J c h m r p) MkI_0 (fun p J hp hJ => MkI_step hJ (by omega) hr hh hm (fun q _ hq => ha q (by omega)))
  unfold make_
  simp only
  generalize loopC 0 (I r 0) (makeStep_ c m r h) (im_up I c 0 0) = J at key ⊢
  obtain ⟨k1, k2, k3, k4⟩ := key
  rw [k4 r (by omega), hN, put_nat (by omega) (by decide), k1]
  refine ⟨by rw [up_fr (by omega)]; exact k1, fun q k x hq hk => ?_, fun q hq => ?_, fun z hz => (up_fr (by omega)).trans (k4 z hz)⟩
  · have e : codeAt (im_up J (c + 4) N (nI (cs I h m r N))) c (cs I h m r q + k) = codeAt J c (cs I h m r q + k) := by
      unfold codeAt
      rw [up_fr (show c + 1 ≠ c + 4 by omega), up_fr (show c + 2 ≠ c + 4 by omega)]
    rw [e, up_fr (by omega)]
    exact k2 q k x hq hk
  · rw [up_row]
    by_cases d : q = N
    · rw [if_pos d, d]
    · rw [if_neg d]; exact k3 q (by omega)
/-- each place is some line's -/
theorem cs_find {I : im_I} {h m r : Nat} : ∀ {N k : Nat}, k < cs I h m r N → ∃ q i, q < N ∧ i < (LL I h m r q).length ∧ k = cs I h m r q + i
  | 0, k, hk => by
    have : cs I h m r 0 = 0 := rfl
    omega
  | N + 1, k, hk => by
    have e : cs I h m r (N + 1) = cs I h m r N + (LL I h m r N).length := rfl
    by_cases c : k < cs I h m r N
    · obtain ⟨q, i, h1, h2, h3⟩ := cs_find c
      exact ⟨q, i, by omega, h2, h3⟩
    · exact ⟨N, k - cs I h m r N, by omega, by omega, by omega⟩
theorem countOf_nat {J : im_I} {c n : Nat} {kd : Int32} (h : J c 0 = nI n) (hn : n ≤ 528) : countOf_ J c kd = nI (cntF (fun k => decide (J (c + 1) k = kd)) n) := by
  unfold countOf_
  rw [h, loopC_nat0 (by omega)]
  refine cnt_loop fun k c' hk => ?_
  have e : codeKindOf_ J c (nI k) = J (c + 1) k := by unfold codeKindOf_; exact at_nat (by omega) (by decide)
  rw [e]
  by_cases d : J (c + 1) k = kd
  · rw [if_pos d, if_pos (decide_eq_true d)]
  · rw [if_neg d, if_neg (by rw [decide_eq_false d]; decide)]
theorem cntF_3 {p q s : Nat → Bool} (h1 : ∀ k, p k = true → q k = false ∧ s k = false) (h2 : ∀ k, q k = true → s k = false) : ∀ n, cntF p n + (cntF q n + cntF s n) ≤ n
  | 0 => Nat.le_refl _
  | n + 1 => by
    have := cntF_3 h1 h2 n
    show (cntF p n + _) + ((cntF q n + _) + (cntF s n + _)) ≤ _
    by_cases c1 : p n = true
    · obtain ⟨e1, e2⟩ := h1 n c1
      rw [c1, e1, e2, if_pos rfl, if_neg (show ¬ (false = true) by decide)]
      omega
    · rw [if_neg c1]
      by_cases c2 : q n = true
      · rw [c2, h2 n c2, if_pos rfl, if_neg (show ¬ (false = true) by decide)]
        omega
      · rw [if_neg c2]
        split <;> omega
/-- moves, loads and stores are not more than all -/
theorem counts_le {J : im_I} {c n : Nat} (h : J c 0 = nI n) (hn : n ≤ 528) : countOf_ J c 1 + (countOf_ J c 7 + countOf_ J c 8) ≤ J c 0 ∧ ¬ J c 0 < countOf_ J c 1 + (countOf_ J c 7 + countOf_ J c 8) := by
  have key := cntF_3 (p := fun k => decide (J (c + 1) k = 1)) (q := fun k => decide (J (c + 1) k = 7)) (s := fun k => decide (J (c + 1) k = 8)) (fun k hk => by
    have e := of_decide_eq_true hk
    exact ⟨decide_eq_false (by rw [e]; decide), decide_eq_false (by rw [e]; decide)⟩) (fun k hk => by
    have e := of_decide_eq_true hk
    exact decide_eq_false (by rw [e]; decide)) n
  rw [countOf_nat h hn, countOf_nat h hn, countOf_nat h hn, nI_add, nI_add, h]
  exact ⟨nI_le key (by omega), nI_nlt key (by omega)⟩
theorem cntF_0 {p : Nat → Bool} : ∀ {n : Nat}, (∀ k, k < n → p k = false) → cntF p n = 0
  | 0, _ => rfl
  | n + 1, h => by
    show cntF p n + _ = 0
    rw [cntF_0 (fun k hk => h k (by omega)), h n (by omega), if_neg (by decide)]
section NoSlots
variable {I : im_I} {h : Nat} {two s : Int32}
/-- neither a LOAD nor a STORE -/
def noLS (L : List CI) : Prop := ∀ x ∈ L, x 0 ≠ 7 ∧ x 0 ≠ 8
theorem noLS_app {L M : List CI} (h1 : noLS L) (h2 : noLS M) : noLS (L ++ M) := fun x hx => (List.mem_append.mp hx).elim (h1 x) (h2 x)
theorem noLS_nil : noLS [] := fun x hx => by simp at hx
theorem noLS_one {x : CI} (h : x 0 ≠ 7 ∧ x 0 ≠ 8) : noLS [x] := fun y hy => by
  rw [List.mem_singleton.mp hy]; exact h
theorem noLS_mv {d x : Int32} : noLS (mvL d x) := by
  unfold mvL
  split
  · exact noLS_nil
  · exact noLS_one ⟨show (1 : Int32) ≠ 7 by decide, show (1 : Int32) ≠ 8 by decide⟩
theorem noLS_op {kd d x y z n : Int32} (hk : kd ≠ 7 ∧ kd ≠ 8) : noLS (opL kd d x y z n) := by
  unfold opL
  split
  · exact noLS_one ⟨show (5 : Int32) ≠ 7 by decide, show (5 : Int32) ≠ 8 by decide⟩
  · exact noLS_one hk
theorem noLS_oper {kd d x y z n : Int32} (hk : kd ≠ 7 ∧ kd ≠ 8) : noLS (operL two s kd d x y z n) := by
  unfold operL
  split
  · exact noLS_op hk
  · split
    · exact noLS_app noLS_mv (noLS_op hk)
    · split
      · exact noLS_op hk
      · exact noLS_app (noLS_app noLS_mv (noLS_op hk)) noLS_mv
theorem noLS_ld {x d : Int32} (hx : at_ (I (h + 3)) 88 x = 1) : noLS (ldL I h x d) := by
  unfold ldL
  rw [if_pos hx]
  exact noLS_one ⟨show (0 : Int32) ≠ 7 by decide, show (0 : Int32) ≠ 8 by decide⟩
/-- where what is spilled is made anew, no LOAD and no STORE is in a line's code -/
theorem noLS_line {x : Ins} (ha : arOk (x 0) (x 2) (x 3) (x 4)) (hr : ∀ i, i < 3 → x (2 + i) ≠ -1 → isSpilled_ I h (x (2 + i)) = true → at_ (I (h + 3)) 88 (x (2 + i)) = 1) (hw : isSpilled_ I h (x 1) = true → isRemade_ I h (x 1) = true ∧ x 0 ≠ 9) : noLS (lineL I h two s x) := by
  have hfe : ∀ i j, i < 3 → noLS (feL I h s (x (2 + i)) j) := fun i j hi => by
    unfold feL
    by_cases c1 : x (2 + i) = -1
    · rw [if_pos c1]; exact noLS_nil
    · rw [if_neg c1]
      by_cases c2 : isSpilled_ I h (x (2 + i)) = false
      · rw [if_pos c2]; exact noLS_nil
      · rw [if_neg c2]
        exact noLS_ld (hr i hi c1 (Bool.of_not_eq_false c2))
  have hbr : ∀ i d, i < 2 → x (2 + i) ≠ -1 → noLS (brL I h (x (2 + i)) d) := fun i d hi h1 => by
    unfold brL
    split
    · next c => exact noLS_ld (hr i (by omega) h1 c)
    · exact noLS_mv
  unfold lineL
  split
  · next c =>
    have h9 : x 2 ≠ -1 ∧ x 3 ≠ -1 := by
      rcases ha with ⟨e, -⟩ | ⟨e, -⟩ | ⟨-, a, b, -⟩ | ⟨e, -⟩ | ⟨e, -⟩
      · rw [c] at e; exact absurd e (by decide)
      · rw [c] at e; exact absurd e (by decide)
      · exact ⟨a, b⟩
      · rw [c] at e; exact absurd e (by decide)
      · rw [c] at e; exact absurd e (by decide)
    have hns : ¬ isSpilled_ I h (x 1) = true := fun e => (hw e).2 c
    unfold callL
    rw [if_neg hns]
    refine noLS_app (noLS_app ?_ (noLS_one ⟨show (9 : Int32) ≠ 7 by decide, show (9 : Int32) ≠ 8 by decide⟩)) noLS_mv
    unfold cmvL
    split
    · exact noLS_app (noLS_app noLS_mv noLS_mv) noLS_mv
    · split
      · exact noLS_app noLS_mv (hbr 0 0 (by decide) h9.1)
      · exact noLS_app (hbr 0 0 (by decide) h9.1) (hbr 1 1 (by decide) h9.2)
  · split
    · exact noLS_nil
    · next c1 c2 =>
      have hns : ¬ isSpilled_ I h (x 1) = true := fun e => c2 (hw e).1
      have hk : x 0 ≠ 7 ∧ x 0 ≠ 8 := by
        rcases ha with ⟨e, -⟩ | ⟨e, -⟩ | ⟨e, -⟩ | ⟨e, -⟩ | ⟨e, -⟩
        · rw [e]; decide
        · rw [e]; decide
        · rcases e with e | e | e | e <;> rw [e] <;> decide
        · rw [e]; decide
        · rw [e]; decide
      unfold oneL
      refine noLS_app (noLS_app (noLS_app (noLS_app (hfe 0 0 (by decide)) (hfe 1 1 (by decide))) (hfe 2 2 (by decide))) ?_) ?_
      · unfold bodyL
        split
        · exact noLS_one ⟨show (0 : Int32) ≠ 7 by decide, show (0 : Int32) ≠ 8 by decide⟩
        · split
          · exact noLS_mv
          · split
            · exact noLS_oper (by decide)
            · exact noLS_oper hk
      · unfold tailL
        rw [if_neg hns]
        exact noLS_nil
end NoSlots
