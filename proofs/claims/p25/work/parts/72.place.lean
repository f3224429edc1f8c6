/-! PURE THEORY, ORDER: a BLOCK's instructions placed -/
def need (R : Nat → Ins) (l : List Nat) (j : Nat) : Nat := (l.filter (fun i => decide (i < j ∧ dep (R j) (R i)))).length
def PlI (I0 J : im_I) (a f t c0 : Nat) (P Rm : List Nat) : Prop :=
  (J (a + 10) 0 = nI (c0 + P.length)) ∧ (∀ k j, P[k]? = some j → insAt J (a + 10) (c0 + k) = insAt I0 (a + 27) j) ∧ (∀ p, p < c0 → insAt J (a + 10) p = insAt I0 (a + 10) p) ∧
  (P ++ Rm).Perm (List.range' f (t - f)) ∧ Rm.Pairwise (· < ·) ∧ (∀ V : Env, exL (insAt I0 (a + 27)) (P ++ Rm) V = exL (insAt I0 (a + 27)) (List.range' f (t - f)) V) ∧
  (∀ k j, P[k]? = some j → ∀ i, f ≤ i → i < j → dep (insAt I0 (a + 27) j) (insAt I0 (a + 27) i) → i ∈ P.take k) ∧
  (∀ j, f ≤ j → j < t → J (a + 35) j = if j ∈ Rm then nI (need (insAt I0 (a + 27)) Rm j) else -1) ∧ (∀ z, z < a + 10 ∨ a + 16 < z → z ≠ a + 35 → J z = I0 z)
theorem i32_ne_of {n : Nat} (h : 0 < n) (h2 : n < 2 ^ 31) : nI n ≠ 0 := nI_ne0 h h2
/-- the best is ready, if one is -/
theorem highestReady_nat {J : im_I} {a f t : Nat} (ht : t ≤ 88) (h : ∃ j, f ≤ j ∧ j < t ∧ J (a + 35) j = 0) : ∃ b, highestReady_ J a (nI f) (nI t) = nI b ∧ f ≤ b ∧ b < t ∧ J (a + 35) b = 0 := by
  obtain ⟨j, hj1, hj2, hj3⟩ := h
  unfold highestReady_
  rw [loopC_nat (by omega) (by omega)]
  have key := itN_inv (f := fun i => (fun b => if ¬ at_ (J (a + 35)) 88 (nI (f + i)) = 0 then b else if b = -1 then nI (f + i) else if heightOf_ J (a + 27) (nI (f + i)) ≤ heightOf_ J (a + 27) b then b else nI (f + i))) (n := t - f) (s := (-1 : Int32))
    (fun i b => (b = -1 ∧ ∀ q, f ≤ q → q < f + i → ¬ J (a + 35) q = 0) ∨ ∃ q, b = nI q ∧ f ≤ q ∧ q < f + i ∧ J (a + 35) q = 0)
    (Or.inl ⟨rfl, fun q h1 h2 => absurd h2 (by omega)⟩) (fun i b hi hb => by
      simp only [at88 (show f + i < 88 by omega)]
      by_cases c : J (a + 35) (f + i) = 0
      · rw [if_neg (by simpa using c)]
        split
        · exact Or.inr ⟨f + i, rfl, by omega, by omega, c⟩
        · next cb =>
          rcases hb with ⟨e, -⟩ | ⟨q, e1, e2, e3, e4⟩
          · exact absurd e cb
          · split
            · exact Or.inr ⟨q, e1, e2, by omega, e4⟩
            · exact Or.inr ⟨f + i, rfl, by omega, by omega, c⟩
      · rw [if_pos c]
        rcases hb with ⟨e, e2⟩ | ⟨q, e1, e2, e3, e4⟩
        · refine Or.inl ⟨e, fun q h1 h2 => ?_⟩
          by_cases d : q = f + i
          · rw [d]; exact c
          · exact e2 q h1 (by omega)
        · exact Or.inr ⟨q, e1, e2, by omega, e4⟩)
  rcases key with ⟨-, e⟩ | ⟨q, e1, e2, e3, e4⟩
  · exact absurd hj3 (e j hj1 (by omega))
  · exact ⟨q, e1, e2, by omega, e4⟩
theorem lessLoop_nat {J : im_I} {a b t : Nat} (ht : t ≤ 88) (hb : b < t) : (∀ j, j < 88 → loopC (nI b + 1) (nI t) (lessOne_ a (nI b)) J (a + 35) j = if b < j ∧ j < t ∧ dep (insAt J (a + 27) j) (insAt J (a + 27) b) then J (a + 35) j - 1 else J (a + 35) j) ∧ (∀ z, z ≠ a + 35 → loopC (nI b + 1) (nI t) (lessOne_ a (nI b)) J z = J z) := by
  rw [← nI_succ, loopC_nat (by omega) (by omega)]
  have key := itN_inv (f := fun i => lessOne_ a (nI b) (nI (b + 1 + i))) (n := t - (b + 1)) (s := J) (fun i E => (∀ j, j < 88 → E (a + 35) j = if b < j ∧ j < b + 1 + i ∧ dep (insAt J (a + 27) j) (insAt J (a + 27) b) then J (a + 35) j - 1 else J (a + 35) j) ∧ (∀ z, z ≠ a + 35 → E z = J z))
    ⟨fun j hj => by rw [if_neg (by omega)], fun z hz => rfl⟩ (fun i E hi hE => by
      obtain ⟨h1, h2⟩ := hE
      have eR : ∀ p, insAt E (a + 27) p = insAt J (a + 27) p := fun p => insAt_fr fun z z1 z2 => h2 z (by omega)
      unfold lessOne_
      rw [isNeeding_nat (by omega) (by omega), eR, eR]
      by_cases c : dep (insAt J (a + 27) (b + 1 + i)) (insAt J (a + 27) b)
      · rw [if_neg (by rw [decide_eq_true c]; decide), at88 (by omega), put88 (by omega)]
        refine ⟨fun j hj => ?_, fun z hz => (up_fr hz).trans (h2 z hz)⟩
        rw [up_row]
        by_cases d : j = b + 1 + i
        · rw [if_pos d, h1 _ (by omega), if_neg (by omega), d, if_pos ⟨by omega, by omega, c⟩]
        · rw [if_neg d, h1 j hj]
          by_cases e : b < j ∧ j < b + 1 + i ∧ dep (insAt J (a + 27) j) (insAt J (a + 27) b)
          · rw [if_pos e, if_pos ⟨e.1, by omega, e.2.2⟩]
          · rw [if_neg e, if_neg (fun e2 => e ⟨e2.1, by omega, e2.2.2⟩)]
      · rw [if_pos (decide_eq_false c)]
        refine ⟨fun j hj => ?_, h2⟩
        rw [h1 j hj]
        by_cases d : j = b + 1 + i
        · rw [d, if_neg (by omega), if_neg (fun e => c e.2.2)]
        · by_cases e : b < j ∧ j < b + 1 + i ∧ dep (insAt J (a + 27) j) (insAt J (a + 27) b)
          · rw [if_pos e, if_pos ⟨e.1, by omega, e.2.2⟩]
          · rw [if_neg e, if_neg (fun e2 => e ⟨e2.1, by omega, e2.2.2⟩)])
  refine ⟨fun j hj => ?_, key.2⟩
  rw [key.1 j hj, show b + 1 + (t - (b + 1)) = t by omega]
section Pl
variable {I0 J : im_I} {a f t c0 : Nat} {P Rm : List Nat}
theorem need_first {R : Nat → Ins} {h : Nat} {l : List Nat} (hs : (h :: l).Pairwise (· < ·)) : need R (h :: l) h = 0 := by
  unfold need
  rw [List.length_eq_zero_iff, List.filter_eq_nil_iff]
  intro i hi
  rcases List.mem_cons.mp hi with e | e
  · subst e; simp
  · have := (List.pairwise_cons.mp hs).1 i e
    simp; omega
set_option maxHeartbeats 2000000 in
theorem PlI_step (h : PlI I0 J a f t c0 P Rm) (hR : Rm ≠ []) (hft : f ≤ t) (ht : t ≤ 88) (hc : c0 + (t - f) ≤ 88) (hok : ∀ j, f ≤ j → j < t → insOk (insAt I0 (a + 27) j)) :
    ∃ b, highestReady_ J a (nI f) (nI t) = nI b ∧ b < t ∧ PlI I0 (loopC (nI b + 1) (nI t) (lessOne_ a (nI b)) (put_ (addCopy_ J (a + 10) (a + 27) (nI b)) (a + 35) 88 (nI b) (-1))) a f t c0 (P ++ [b]) (Rm.erase b) ∧ b ∈ Rm := by
  obtain ⟨p1, p2, p3, p4, p5, p6, p7, p8, p9⟩ := h
  have hmem : ∀ j, j ∈ P ++ Rm ↔ f ≤ j ∧ j < t := fun j => by
    rw [p4.mem_iff, List.mem_range'_1]
    omega
  have hnd : (P ++ Rm).Nodup := p4.nodup_iff.mpr List.nodup_range'
  obtain ⟨nd1, nd2, nd3⟩ := List.nodup_append.mp hnd
  have hlen : P.length + Rm.length = t - f := by
    have := p4.length_eq
    rwa [List.length_append, List.length_range'] at this
  -- there is one that is ready
  have hex : ∃ j, f ≤ j ∧ j < t ∧ J (a + 35) j = 0 := by
    cases Rm with
    | nil => exact absurd rfl hR
    | cons q l =>
      have hq := (hmem q).mp (List.mem_append_right _ List.mem_cons_self)
      refine ⟨q, hq.1, hq.2, ?_⟩
      rw [p8 q hq.1 hq.2, if_pos List.mem_cons_self, need_first p5]
      exact nI_0
  obtain ⟨b, b1, b2, b3, b4⟩ := highestReady_nat ht hex
  have hbR : b ∈ Rm := by
    apply Classical.byContradiction
    intro hn
    rw [p8 b b2 b3, if_neg hn] at b4
    exact absurd b4 (by decide)
  have hneed : need (insAt I0 (a + 27)) Rm b = 0 := by
    rw [p8 b b2 b3, if_pos hbR] at b4
    apply Classical.byContradiction
    intro hn
    have hle : need (insAt I0 (a + 27)) Rm b ≤ Rm.length := List.length_filter_le _ _
    exact nI_ne0 (by omega) (by omega) b4
  have hno : ∀ i ∈ Rm, i < b → ¬ dep (insAt I0 (a + 27) b) (insAt I0 (a + 27) i) := fun i hi hib hd => by
    unfold need at hneed
    rw [List.length_eq_zero_iff, List.filter_eq_nil_iff] at hneed
    exact hneed i hi (by simp [hib, hd])
  have hbP : b ∉ P := fun hb => nd3 b hb b hbR rfl
  have hJR : ∀ p, insAt J (a + 27) p = insAt I0 (a + 27) p := fun p => insAt_fr fun z z1 z2 => p9 z (by omega) (by omega)
  have hlt : c0 + P.length < 88 := by
    have : 0 < Rm.length := List.length_pos_of_mem hbR
    omega
  refine ⟨b, b1, b3, ?_, hbR⟩
  have hA := addCopy_app (I := J) (a := a + 10) (b := a + 27) (n := c0 + P.length) (p := b) p1 hlt (by omega) (Or.inl (by omega))
  rw [hJR] at hA
  generalize addCopy_ J (a + 10) (a + 27) (nI b) = A at hA ⊢
  rw [put88 (show b < 88 by omega)]
  have hUR : ∀ p, insAt (im_up A (a + 35) b (-1)) (a + 27) p = insAt I0 (a + 27) p := fun p => (insAt_fr fun z z1 z2 => (up_fr (by omega)).trans (App_fr hA (by omega))).trans (hJR p)
  obtain ⟨l1, l2⟩ := lessLoop_nat (J := im_up A (a + 35) b (-1)) (a := a) (b := b) (t := t) ht b3
  generalize loopC (nI b + 1) (nI t) (lessOne_ a (nI b)) (im_up A (a + 35) b (-1)) = E at l1 l2 ⊢
  have hEl : ∀ p, insAt E (a + 10) p = insAt A (a + 10) p := fun p => insAt_fr fun z z1 z2 => (l2 z (by omega)).trans (up_fr (by omega))
  have hA35 : A (a + 35) = J (a + 35) := App_fr hA (by omega)
  have hmem2 : ∀ j, j ∈ Rm.erase b ↔ j ≠ b ∧ j ∈ Rm := fun j => nd2.mem_erase_iff
  have hperm : (P ++ [b] ++ Rm.erase b).Perm (P ++ Rm) := by
    rw [List.append_assoc]
    exact List.Perm.append_left P (List.perm_cons_erase hbR).symm
  refine ⟨?_, fun k j hk => ?_, fun p hp => ?_, hperm.trans p4, List.Pairwise.sublist List.erase_sublist p5, fun V => ?_, fun k j hk i hi hij hd => ?_, fun j hj1 hj2 => ?_, fun z z1 z2 => ?_⟩
  · rw [l2 _ (by omega), up_fr (by omega), App_row hA]
    simp [Nat.add_assoc]
  · rw [hEl]
    by_cases c : k < P.length
    · rw [List.getElem?_append_left c] at hk
      rw [App_old hA (by omega)]
      exact p2 k j hk
    · rw [List.getElem?_append_right (by omega)] at hk
      have c2 : k - P.length = 0 := by
        apply Classical.byContradiction
        intro hne
        rw [List.getElem?_eq_none (by simp; omega)] at hk
        cases hk
      rw [c2] at hk
      have e : b = j := by simpa using hk
      rw [show k = P.length by omega, App_at hA, e]
  · rw [hEl, App_old hA (by omega)]
    exact p3 p hp
  · rw [← p6 V, show P ++ [b] ++ Rm.erase b = P ++ (b :: Rm.erase b) by simp, exL_app, exL_app]
    exact (exL_front Rm _ hbR p5 (fun j hj => by
      have := (hmem j).mp (List.mem_append_right _ hj)
      exact hok j this.1 this.2) hno).symm
  · by_cases c : k < P.length
    · rw [List.getElem?_append_left c] at hk
      rw [List.take_append_of_le_length (by omega)]
      exact p7 k j hk i hi hij hd
    · rw [List.getElem?_append_right (by omega)] at hk
      have c2 : k - P.length = 0 := by
        apply Classical.byContradiction
        intro hne
        rw [List.getElem?_eq_none (by simp; omega)] at hk
        cases hk
      rw [c2] at hk
      have e : b = j := by simpa using hk
      subst e
      have : i ∈ P ++ Rm := (hmem i).mpr ⟨hi, by omega⟩
      rw [show k = P.length by omega, List.take_left]
      rcases List.mem_append.mp this with e | e
      · exact e
      · exact absurd hd (hno i e hij)
  · rw [l1 j (by omega), hUR, hUR, up_row, hA35]
    by_cases c : j = b
    · subst c
      rw [if_neg (by omega), if_pos rfl, if_neg (fun e => ((hmem2 j).mp e).1 rfl)]
    · rw [if_neg c]
      by_cases d : j ∈ Rm
      · rw [if_pos ((hmem2 j).mpr ⟨c, d⟩), p8 j hj1 hj2, if_pos d]
        have hf := filter_erase_len (p := fun i => decide (i < j ∧ dep (insAt I0 (a + 27) j) (insAt I0 (a + 27) i))) hbR
        have hn : need (insAt I0 (a + 27)) Rm j = need (insAt I0 (a + 27)) (Rm.erase b) j + (if decide (b < j ∧ dep (insAt I0 (a + 27) j) (insAt I0 (a + 27) b)) = true then 1 else 0) := hf.symm
        by_cases e : b < j ∧ dep (insAt I0 (a + 27) j) (insAt I0 (a + 27) b)
        · rw [if_pos ⟨e.1, hj2, e.2⟩, hn, if_pos (decide_eq_true e), nI_pred]
        · rw [if_neg (fun e2 => e ⟨e2.1, e2.2.2⟩), hn, if_neg (by simpa using e)]
          rfl
      · rw [if_neg (fun e => d ((hmem2 j).mp e).2), p8 j hj1 hj2, if_neg d]
        have hjP : j ∈ P := by
          rcases List.mem_append.mp ((hmem j).mpr ⟨hj1, hj2⟩) with e | e
          · exact e
          · exact absurd e d
        rw [if_neg]
        rintro ⟨e1, -, e3⟩
        obtain ⟨k, hk, hkj⟩ := List.mem_iff_getElem.mp hjP
        have := p7 k j (by rw [List.getElem?_eq_getElem hk, hkj]) b b2 e1 e3
        exact hbP (List.mem_of_mem_take this)
  · rw [l2 z z2, up_fr z2, App_fr hA (by omega)]
    exact p9 z z1 z2
theorem placeN_P (hft : f ≤ t) (ht : t ≤ 88) (hc : c0 + (t - f) ≤ 88) (hok : ∀ j, f ≤ j → j < t → insOk (insAt I0 (a + 27) j)) : ∀ (n : Nat) (i : Int32) (J : im_I) (P Rm : List Nat), PlI I0 J a f t c0 P Rm → Rm.length = n → ∃ P', PlI I0 (placeN_ a (nI f) (nI t) n i J) a f t c0 P' [] := by
  intro n
  induction n with
  | zero =>
    intro i J P Rm h hn
    rw [placeN_0]
    rw [List.length_eq_zero_iff] at hn
    subst hn
    exact ⟨P, h⟩
  | succ n ih =>
    intro i J P Rm h hn
    obtain ⟨b, e1, e2, e3, e4⟩ := PlI_step h (by intro e; rw [e] at hn; simp at hn) hft ht hc hok
    rw [placeN_s, e1, if_neg (nI_m1 (by omega))]
    exact ih _ _ _ _ e3 (by rw [List.length_erase_of_mem e4]; omega)
end Pl
