/-! PURE THEORY, THE RUN: what an instruction does to registers and slots -/
def putF (f : Nat → Int32) (n : Nat) (i v : Int32) : Nat → Int32 := if i < 0 then f else if Int32.ofNat n ≤ i then f else upd f i.toNatClampNeg v
theorem put_F {I : im_I} {x n : Nat} {i v : Int32} : put_ I x n i v x = putF (I x) n i v := by
  unfold put_ putF
  split
  · rfl
  · split
    · rfl
    · funext j
      rw [up_row]
      rfl
theorem putF_nI {f : Nat → Int32} {n j : Nat} {v : Int32} (h : j < n) (hn : n < 2 ^ 31) : putF f n (nI j) v = upd f j v := by
  unfold putF
  rw [ofNat_nI, if_neg (nI_pos (by omega)), if_neg (nI_ge h hn), nI_clamp (by omega)]
abbrev RS : Type := (Nat → Int32) × (Nat → Int32)
def resF (σ : RS) (kd s t u : Int32) : Int32 :=
  if kd = 0 then s else if kd = 1 then at_ σ.1 11 s else if kd = 2 then at_ σ.1 11 s + at_ σ.1 11 t else if kd = 3 then at_ σ.1 11 s - at_ σ.1 11 t else if kd = 4 then at_ σ.1 11 s * at_ σ.1 11 t else if kd = 5 then at_ σ.1 11 s + t
  else if kd = 6 then at_ σ.1 11 s * at_ σ.1 11 t + at_ σ.1 11 u else at_ σ.2 88 s
def callF (kept : Int32) (R : Nat) (G : Nat → Int32) : Nat → Int32 := fun j => if j = 0 then 3 * G 0 + 2 * G 1 + 1 else if j < R ∧ hb kept j = false then -77777 else G j
def exC (kept : Int32) (R : Nat) (x : CI) (σ : RS) : RS :=
  if x 0 = 8 then (σ.1, putF σ.2 88 (x 2) (at_ σ.1 11 (x 1))) else if x 0 = 9 then (callF kept R σ.1, σ.2) else (putF σ.1 11 (x 1) (resF σ (x 0) (x 2) (x 3) (x 4)), σ.2)
def exCL (kept : Int32) (R : Nat) (L : List CI) (σ : RS) : RS := L.foldl (fun τ x => exC kept R x τ) σ
theorem exCL_n {kept : Int32} {R : Nat} {σ : RS} : exCL kept R [] σ = σ := List.foldl_nil
theorem exCL_c {kept : Int32} {R : Nat} {x : CI} {t : List CI} {σ : RS} : exCL kept R (x :: t) σ = exCL kept R t (exC kept R x σ) := List.foldl_cons ..
theorem exCL_app {kept : Int32} {R : Nat} {l1 l2 : List CI} {σ : RS} : exCL kept R (l1 ++ l2) σ = exCL kept R l2 (exCL kept R l1 σ) := List.foldl_append
section Rn
variable {J : im_I} {a m c k R : Nat}
theorem codeKind_nat (hk : k < 528) : codeKindOf_ J c (nI k) = codeAt J c k 0 := by unfold codeKindOf_; exact at_nat hk (by decide)
theorem operand_nat (hk : k < 528) : operandOf_ J c (nI k) 1 = codeAt J c k 1 ∧ operandOf_ J c (nI k) 2 = codeAt J c k 2 ∧ operandOf_ J c (nI k) 3 = codeAt J c k 3 ∧ operandOf_ J c (nI k) 4 = codeAt J c k 4 := by
  unfold operandOf_
  rw [show (2 : Int32) = nI 2 by decide, show (3 : Int32) = nI 3 by decide]
  have e1 : (4 : Int32) * nI k + 1 - 1 = nI (4 * k) := by rw [show (4 : Int32) * nI k + 1 = nI (4 * k + 1) from nI_mul4 k 1, nI_pred]
  have e2 : (4 : Int32) * nI k + nI 2 - 1 = nI (4 * k + 1) := by rw [nI_mul4, nI_pred]
  have e3 : (4 : Int32) * nI k + nI 3 - 1 = nI (4 * k + 2) := by rw [nI_mul4, nI_pred]
  have e4 : (4 : Int32) * nI k + 4 - 1 = nI (4 * k + 3) := by rw [show (4 : Int32) * nI k + 4 = nI (4 * k + 4) from nI_mul4 k 4, nI_pred]
  rw [e1, e2, e3, e4, at_nat (by omega) (by decide), at_nat (by omega) (by decide), at_nat (by omega) (by decide), at_nat (by omega) (by decide)]
  exact ⟨rfl, rfl, rfl, rfl⟩
theorem resultOf_nat {kd s t u : Int32} : resultOf_ J a kd s t u = resF (J (a + 2), J (a + 3)) kd s t u := rfl
/-- the lost registers -/
theorem loseAll_nat (hR : J m 0 = nI R) (hR1 : 1 ≤ R) (hR11 : R ≤ 11) (hm : m < a ∨ a + 4 < m) :
    (∀ j, j < 11 → loopC 1 (J m 0) (loseOne_ a m) J (a + 2) j = if 1 ≤ j ∧ j < R ∧ hb (J m 1) j = false then -77777 else J (a + 2) j) ∧
    (∀ j, j < 11 → loopC 1 (J m 0) (loseOne_ a m) J (a + 4) j = if 1 ≤ j ∧ j < R ∧ hb (J m 1) j = false then J a 9 else J (a + 4) j) ∧
    (∀ j, 11 ≤ j → loopC 1 (J m 0) (loseOne_ a m) J (a + 2) j = J (a + 2) j) ∧ (∀ z, z ≠ a + 2 → z ≠ a + 4 → loopC 1 (J m 0) (loseOne_ a m) J z = J z) := by
  rw [hR, show (1 : Int32) = nI 1 by decide, loopC_nat (by decide) (by omega)]
  have key := itN_inv (f := fun i => loseOne_ a m (nI (1 + i))) (n := R - 1) (s := J) (fun i E => (∀ j, j < 11 → E (a + 2) j = if 1 ≤ j ∧ j < 1 + i ∧ hb (J m 1) j = false then -77777 else J (a + 2) j) ∧ (∀ j, j < 11 → E (a + 4) j = if 1 ≤ j ∧ j < 1 + i ∧ hb (J m 1) j = false then J a 9 else J (a + 4) j) ∧ (∀ j, 11 ≤ j → E (a + 2) j = J (a + 2) j) ∧ (∀ z, z ≠ a + 2 → z ≠ a + 4 → E z = J z))
    ⟨fun j hj => by rw [if_neg (by omega)], fun j hj => by rw [if_neg (by omega)], fun j hj => rfl, fun z _ _ => rfl⟩ (fun i E hi hE => by
      obtain ⟨e1, e2, e3, e4⟩ := hE
      unfold loseOne_
      rw [e4 m (by omega) (by omega), hasBit_nat (by omega)]
      by_cases c : hb (J m 1) (1 + i) = true
      · rw [if_pos c]
        refine ⟨fun j hj => ?_, fun j hj => ?_, e3, e4⟩
        · rw [e1 j hj]
          by_cases d : j = 1 + i
          · rw [if_neg (by omega), if_neg (by rw [d]; intro h; rw [c] at h; cases h.2.2)]
          · by_cases d2 : 1 ≤ j ∧ j < 1 + i ∧ hb (J m 1) j = false
            · rw [if_pos d2, if_pos ⟨d2.1, by omega, d2.2.2⟩]
            · rw [if_neg d2, if_neg (fun h => d2 ⟨h.1, by omega, h.2.2⟩)]
        · rw [e2 j hj]
          by_cases d : j = 1 + i
          · rw [if_neg (by omega), if_neg (by rw [d]; intro h; rw [c] at h; cases h.2.2)]
          · by_cases d2 : 1 ≤ j ∧ j < 1 + i ∧ hb (J m 1) j = false
            · rw [if_pos d2, if_pos ⟨d2.1, by omega, d2.2.2⟩]
            · rw [if_neg d2, if_neg (fun h => d2 ⟨h.1, by omega, h.2.2⟩)]
      · have c' : hb (J m 1) (1 + i) = false := by simpa using c
        rw [if_neg c]
        rw [put_nat (by omega) (by decide), put_nat (by omega) (by decide), up_fr (show a ≠ a + 2 by omega), e4 a (by omega) (by omega)]
        refine ⟨fun j hj => ?_, fun j hj => ?_, fun j hj => ?_, fun z z2 z4 => by rw [up_fr z4, up_fr z2]; exact e4 z z2 z4⟩
        · rw [up_fr (by omega), up_row, e1 j hj]
          by_cases d : j = 1 + i
          · rw [if_pos d, if_pos ⟨by omega, by omega, by rw [d]; exact c'⟩]
          · rw [if_neg d]
            by_cases d2 : 1 ≤ j ∧ j < 1 + i ∧ hb (J m 1) j = false
            · rw [if_pos d2, if_pos ⟨d2.1, by omega, d2.2.2⟩]
            · rw [if_neg d2, if_neg (fun h => d2 ⟨h.1, by omega, h.2.2⟩)]
        · rw [up_row, up_fr (by omega), e2 j hj]
          by_cases d : j = 1 + i
          · rw [if_pos d, if_pos ⟨by omega, by omega, by rw [d]; exact c'⟩]
          · rw [if_neg d]
            by_cases d2 : 1 ≤ j ∧ j < 1 + i ∧ hb (J m 1) j = false
            · rw [if_pos d2, if_pos ⟨d2.1, by omega, d2.2.2⟩]
            · rw [if_neg d2, if_neg (fun h => d2 ⟨h.1, by omega, h.2.2⟩)]
        · rw [up_fr (by omega), up_ne (by omega)]; exact e3 j hj)
  obtain ⟨k1, k2, k3, k4⟩ := key
  refine ⟨fun j hj => ?_, fun j hj => ?_, k3, k4⟩
  · rw [k1 j hj, show 1 + (R - 1) = R by omega]
  · rw [k2 j hj, show 1 + (R - 1) = R by omega]
theorem performCall_nat (hR : J m 0 = nI R) (hR1 : 1 ≤ R) (hR11 : R ≤ 11) (hm : m < a ∨ a + 4 < m) : performCall_ J a m (a + 2) = callF (J m 1) R (J (a + 2)) ∧ (∀ z, z ≠ a + 2 → z ≠ a + 4 → performCall_ J a m z = J z) ∧ (∀ j, j < 11 → performCall_ J a m (a + 4) j = if j = 0 then J a 1 else if j < R ∧ hb (J m 1) j = false then J a 9 else J (a + 4) j) := by
  obtain ⟨k1, k2, k3, k4⟩ := loseAll_nat hR hR1 hR11 hm
  unfold performCall_
  generalize loopC 1 (J m 0) (loseOne_ a m) J = E at k1 k2 k3 k4 ⊢
  have e0 : at_ (J (a + 2)) 11 0 = J (a + 2) 0 := by rw [show (0 : Int32) = nI 0 from nI_0.symm, at_nat (by decide) (by decide)]
  have e1 : at_ (J (a + 2)) 11 1 = J (a + 2) 1 := by rw [show (1 : Int32) = nI 1 by decide, at_nat (by decide) (by decide)]
  have p0 : ∀ (K : im_I) (x : Nat) (v : Int32), put_ K x 11 0 v = im_up K x 0 v := fun K x v => by rw [show (0 : Int32) = nI 0 from nI_0.symm, put_nat (by decide) (by decide)]
  rw [e0, e1, p0, p0]
  refine ⟨?_, fun z z2 z4 => by rw [up_fr z4, up_fr z2]; exact k4 z z2 z4, fun j hj => ?_⟩
  · funext j
    rw [up_fr (by omega), up_row]
    unfold callF
    by_cases d : j = 0
    · rw [if_pos d, if_pos d]
    · rw [if_neg d, if_neg d]
      by_cases d2 : j < 11
      · rw [k1 j d2]
        by_cases d3 : j < R ∧ hb (J m 1) j = false
        · rw [if_pos d3, if_pos ⟨by omega, d3⟩]
        · rw [if_neg d3, if_neg (fun h => d3 h.2)]
      · rw [k3 j (by omega), if_neg (by omega)]
  · rw [up_row]
    by_cases d : j = 0
    · rw [if_pos d, if_pos d, up_fr (by omega), k4 a (by omega) (by omega)]
    · rw [if_neg d, if_neg d, up_fr (by omega), k2 j hj]
      by_cases d3 : j < R ∧ hb (J m 1) j = false
      · rw [if_pos d3, if_pos ⟨by omega, d3⟩]
      · rw [if_neg d3, if_neg (fun h => d3 h.2)]
theorem step1_row (hk : k < 528) : (∀ z, z ≠ a → z ≠ a + 1 → step1_ a m c (nI k) J z = J z) := by
  intro z z0 z1
  unfold step1_
  split
  · rw [put_fr z1, up_fr z0, up_fr z0, up_fr z0, up_fr z0]
  · rw [up_fr z0, up_fr z0, up_fr z0, up_fr z0]
/-- one instruction: registers and slots -/
theorem runStep_rows (hk : k < 528) (hR : J m 0 = nI R) (hR1 : 1 ≤ R) (hR11 : R ≤ 11) (hm : m < a ∨ a + 4 < m) (hc : c + 4 < a ∨ a + 4 < c) :
    (runStep_ a m c (nI k) J (a + 2), runStep_ a m c (nI k) J (a + 3)) = exC (J m 1) R (codeAt J c k) (J (a + 2), J (a + 3)) := by
  obtain ⟨o1, o2, o3, o4⟩ := operand_nat (J := J) (c := c) hk
  have hs := step1_row (J := J) (a := a) (m := m) (c := c) hk
  unfold runStep_ exC perform_
  rw [codeKind_nat hk, o1, o2, o3, o4]
  generalize step1_ a m c (nI k) J = E at hs ⊢
  by_cases c8 : codeAt J c k 0 = 8
  · rw [if_pos c8, if_pos c8, put_F, put_fr (by omega), hs (a + 2) (by omega) (by omega), hs (a + 3) (by omega) (by omega)]
  · rw [if_neg c8, if_neg c8]
    by_cases c9 : codeAt J c k 0 = 9
    · rw [if_pos c9, if_pos c9]
      obtain ⟨q1, q2, -⟩ := performCall_nat (J := E) (a := a) (m := m) (R := R) (by rw [hs m (by omega) (by omega)]; exact hR) hR1 hR11 hm
      rw [q1, q2 (a + 3) (by omega) (by omega), hs m (by omega) (by omega), hs (a + 2) (by omega) (by omega), hs (a + 3) (by omega) (by omega)]
    · rw [if_neg c9, if_neg c9]
      simp only
      rw [put_fr (show a + 2 ≠ a + 4 by omega), put_F, put_fr (show a + 3 ≠ a + 4 by omega), put_fr (show a + 3 ≠ a + 2 by omega), resultOf_nat, hs (a + 2) (by omega) (by omega), hs (a + 3) (by omega) (by omega)]
theorem runStep_fr {z : Nat} {i : Int32} (hz : z < a ∨ a + 4 < z) : runStep_ a m c i J z = J z := (perform_fr hz).trans (step1_fr hz)
end Rn
/-- a stretch of code -/
theorem goThrough_rows {J : im_I} {a m c R f : Nat} {L : List CI} (hL : ∀ i x, L[i]? = some x → codeAt J c (f + i) = x) (hf : f + L.length ≤ 528) (hR : J m 0 = nI R) (hR1 : 1 ≤ R) (hR11 : R ≤ 11) (hm : m < a ∨ a + 4 < m) (hc : c + 4 < a ∨ a + 4 < c) :
    (goThrough_ J a m c (nI f) (nI (f + L.length)) (a + 2), goThrough_ J a m c (nI f) (nI (f + L.length)) (a + 3)) = exCL (J m 1) R L (J (a + 2), J (a + 3)) := by
  unfold goThrough_
  rw [loopC_nat (by omega) (by omega), show f + L.length - f = L.length by omega]
  have key : ∀ i, i ≤ L.length → (itN (fun j => runStep_ a m c (nI (f + j))) i J (a + 2), itN (fun j => runStep_ a m c (nI (f + j))) i J (a + 3)) = exCL (J m 1) R (L.take i) (J (a + 2), J (a + 3)) ∧ ∀ z, z < a ∨ a + 4 < z → itN (fun j => runStep_ a m c (nI (f + j))) i J z = J z := by
    intro i
    induction i with
    | zero =>
      intro _
      rw [List.take_zero, exCL_n]
      exact ⟨rfl, fun z hz => rfl⟩
    | succ i ih =>
      intro hi
      obtain ⟨h1, h2⟩ := ih (by omega)
      rw [itN_s]
      generalize itN (fun j => runStep_ a m c (nI (f + j))) i J = E at h1 h2 ⊢
      have hg : L[i]? = some L[i] := List.getElem?_eq_getElem (by omega)
      refine ⟨?_, fun z hz => (runStep_fr hz).trans (h2 z hz)⟩
      rw [runStep_rows (by omega) (by rw [h2 m hm]; exact hR) hR1 hR11 hm hc, h1, h2 m hm, List.take_add_one, hg, exCL_app, show (some L[i]).toList = [L[i]] from rfl, exCL_c, exCL_n]
      have e : codeAt E c (f + i) = L[i] := by
        rw [← hL i _ hg]
        unfold codeAt
        rw [h2 (c + 1) (by omega), h2 (c + 2) (by omega)]
      rw [e]
  have := (key L.length (Nat.le_refl _)).1
  rw [List.take_length] at this
  exact this
