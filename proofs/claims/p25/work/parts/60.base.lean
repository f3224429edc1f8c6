/-! PURE THEORY. Loops over natural numbers; rows by natural numbers -/
def itN {σ : Type} (f : Nat → σ → σ) : Nat → σ → σ
  | 0, s => s
  | n + 1, s => f n (itN f n s)
theorem itN_0 {σ : Type} {f : Nat → σ → σ} {s : σ} : itN f 0 s = s := rfl
theorem itN_s {σ : Type} {f : Nat → σ → σ} {n : Nat} {s : σ} : itN f (n + 1) s = f n (itN f n s) := rfl
theorem itN_front {σ : Type} (f : Nat → σ → σ) : ∀ (n : Nat) (s : σ), itN f (n + 1) s = itN (fun j => f (j + 1)) n (f 0 s)
  | 0, _ => rfl
  | n + 1, s => by
    show f (n + 1) (itN f (n + 1) s) = f (n + 1) (itN (fun j => f (j + 1)) n (f 0 s))
    rw [itN_front f n s]
theorem itN_congr {σ : Type} {f g : Nat → σ → σ} {n : Nat} {s : σ} (h : ∀ j t, j < n → f j t = g j t) : itN f n s = itN g n s := by
  induction n with
  | zero => rfl
  | succ n ih =>
    rw [itN_s, itN_s, ih (fun j t hj => h j t (by omega)), h n _ (by omega)]
theorem itN_inv {σ : Type} {f : Nat → σ → σ} {n : Nat} {s : σ} (P : Nat → σ → Prop) (h0 : P 0 s) (hs : ∀ j t, j < n → P j t → P (j + 1) (f j t)) : P n (itN f n s) := by
  induction n with
  | zero => exact h0
  | succ n ih => exact hs n _ (by omega) (ih (fun j t hj => hs j t (by omega)))
theorem itN_rel {σ τ : Type} {f : Nat → σ → σ} {g : Nat → τ → τ} {n : Nat} {s : σ} {t : τ} (R : Nat → σ → τ → Prop) (h0 : R 0 s t) (hs : ∀ j x y, j < n → R j x y → R (j + 1) (f j x) (g j y)) : R n (itN f n s) (itN g n t) := by
  induction n with
  | zero => exact h0
  | succ n ih => exact hs n _ _ (by omega) (ih (fun j x y hj => hs j x y (by omega)))
theorem itN_add {σ : Type} (f : Nat → σ → σ) (m : Nat) : ∀ (n : Nat) (s : σ), itN f (m + n) s = itN (fun j => f (m + j)) n (itN f m s)
  | 0, _ => rfl
  | n + 1, s => by
    show f (m + n) (itN f (m + n) s) = f (m + n) (itN (fun j => f (m + j)) n (itN f m s))
    rw [itN_add f m n s]
theorem loopN_it {σ : Type} {f : Int32 → σ → σ} : ∀ (n i : Nat) (s : σ), loopN n (nI i) f s = itN (fun j => f (nI (i + j))) n s
  | 0, _, _ => by rw [loopN_0]; rfl
  | n + 1, i, s => by
    rw [loopN_s, ← nI_succ, loopN_it n (i + 1) _, itN_front]
    exact itN_congr fun j t _ => by rw [show i + 1 + j = i + (j + 1) by omega]
theorem cnt_nat {m n : Nat} (hm : m < 2 ^ 31) (hn : n < 2 ^ 31) : cnt (nI m) (nI n) = n - m := by
  unfold cnt
  rw [nI_toInt hm, nI_toInt hn]
  omega
theorem loopC_nat {σ : Type} {f : Int32 → σ → σ} {m n : Nat} {s : σ} (hm : m < 2 ^ 31) (hn : n < 2 ^ 31) : loopC (nI m) (nI n) f s = itN (fun j => f (nI (m + j))) (n - m) s := by
  unfold loopC
  rw [cnt_nat hm hn, loopN_it]
theorem loopC_nat0 {σ : Type} {f : Int32 → σ → σ} {n : Nat} {s : σ} (hn : n < 2 ^ 31) : loopC 0 (nI n) f s = itN (fun j => f (nI j)) n s := by
  have h := loopC_nat (f := f) (m := 0) (s := s) (by decide) hn
  rw [nI_0] at h
  rw [h]
  exact itN_congr fun j t _ => by rw [Nat.zero_add]
theorem downN_it {σ : Type} {f : Int32 → σ → σ} : ∀ (n t : Nat) (s : σ), n ≤ t → downN n (nI t - 1) f s = itN (fun j => f (nI (t - 1 - j))) n s
  | 0, _, _, _ => by rw [downN_0]; rfl
  | n + 1, t, s, h => by
    obtain ⟨t, rfl⟩ : ∃ q, t = q + 1 := ⟨t - 1, by omega⟩
    rw [downN_s, nI_pred, i32_addneg, downN_it n t _ (by omega), itN_front]
    exact itN_congr fun j t' _ => by rw [show t + 1 - 1 - (j + 1) = t - 1 - j by omega]
theorem downC_nat {σ : Type} {f : Int32 → σ → σ} {t e : Nat} {s : σ} (ht : t < 2 ^ 30) (he : e < 2 ^ 30) : downC (nI t - 1) (nI e) f s = itN (fun j => f (nI (t - 1 - j))) (t - e) s := by
  have e1 : cntD (nI t - 1) (nI e) = t - e := by
    unfold cntD
    rw [show (1 : Int32) = nI 1 from rfl, pk_sub_toInt ht (by decide), nI_toInt (by omega)]
    omega
  unfold downC
  rw [e1, downN_it _ _ _ (by omega)]
theorem ofNat_nI {n : Nat} : Int32.ofNat n = nI n := rfl
theorem at_nat {f : Nat → Int32} {n j : Nat} (h : j < n) (hn : n < 2 ^ 31) : at_ f n (nI j) = f j := by
  unfold at_
  rw [ofNat_nI, if_neg (nI_pos (by omega)), if_neg (nI_ge h hn), nI_clamp (by omega)]
theorem at_m1 {f : Nat → Int32} {n : Nat} : at_ f n (-1) = -1 := by
  unfold at_
  rw [if_pos (by decide)]
theorem at_hi {f : Nat → Int32} {n j : Nat} (h : n ≤ j) (hj : j < 2 ^ 31) : at_ f n (nI j) = -1 := by
  unfold at_
  rw [ofNat_nI, if_neg (nI_pos hj), if_pos (nI_le h hj)]
theorem put_nat {J : im_I} {x n j : Nat} {v : Int32} (h : j < n) (hn : n < 2 ^ 31) : put_ J x n (nI j) v = im_up J x j v := by
  unfold put_
  rw [ofNat_nI, if_neg (nI_pos (by omega)), if_neg (nI_ge h hn), nI_clamp (by omega)]
theorem put_m1 {J : im_I} {x n : Nat} {v : Int32} : put_ J x n (-1) v = J := by
  unfold put_
  rw [if_pos (by decide)]
theorem up_at {I : im_I} {a j b i : Nat} {x : Int32} : im_up I a j x b i = if b = a ∧ i = j then x else I b i := rfl
theorem up_row {I : im_I} {a j i : Nat} {x : Int32} : im_up I a j x a i = if i = j then x else I a i := by
  rw [up_at]
  simp
theorem upd_at {f : Nat → Int32} {k j : Nat} {x : Int32} : upd f k x j = if j = k then x else f j := rfl
theorem fillL_row {I : im_I} {x n j : Nat} {v : Int32} (hn : n < 2 ^ 31) (hj : j < n) : fillL_ I x n v x j = v := by
  unfold fillL_
  rw [show Int32.ofNat n = nI n from rfl, loopC_nat0 hn]
  have key : ∀ m, m ≤ n → j < m → itN (fun j J => im_up J x (nI j).toNatClampNeg v) m I x j = v := by
    intro m
    induction m with
    | zero => intro _ h; omega
    | succ m ih =>
      intro h1 h2
      rw [itN_s, nI_clamp (by omega), up_row]
      split
      · rfl
      · exact ih (by omega) (by omega)
  exact key n (Nat.le_refl _) hj
theorem nI_inj {a b : Nat} (ha : a < 2 ^ 31) (hb : b < 2 ^ 31) (h : nI a = nI b) : a = b := (nI_eq ha hb).mp h
theorem nI_m1 {a : Nat} (ha : a < 2 ^ 31) : nI a ≠ -1 := by
  intro h
  have := congrArg Int32.toInt h
  rw [nI_toInt ha, show (-1 : Int32).toInt = -1 by decide] at this
  omega
theorem isBelow_nat {j n : Nat} (hj : j < 2 ^ 31) (hn : n < 2 ^ 31) : isBelow_ (nI j) (nI n) = decide (j < n) := by
  unfold isBelow_
  rw [if_neg (nI_pos hj)]
  by_cases h : j < n
  · rw [if_neg (nI_ge h hn)]; simp [h]
  · rw [if_pos (nI_le (by omega) hj)]; simp [h]
theorem nI_mul3 (j q : Nat) : 3 * nI j + nI q = nI (3 * j + q) := by
  rw [show (3 : Int32) = nI 3 from rfl, pk_mul, nI_add]
theorem nI_mul30 (j : Nat) : 3 * nI j = nI (3 * j) := by
  rw [show (3 : Int32) = nI 3 from rfl, pk_mul]
theorem nI_mul4 (j q : Nat) : 4 * nI j + nI q = nI (4 * j + q) := by
  rw [show (4 : Int32) = nI 4 from rfl, pk_mul, nI_add]
theorem nI_mul40 (j : Nat) : 4 * nI j = nI (4 * j) := by
  rw [show (4 : Int32) = nI 4 from rfl, pk_mul]
/-- bits of a set of few -/
def hb (s : Int32) (k : Nat) : Bool := decide (s >>> (nI k &&& 31) &&& 1 = 1)
theorem hasBit_nat {s : Int32} {k : Nat} (h : k < 32) : hasBit_ s (nI k) = hb s k := by
  unfold hasBit_ hb
  rw [if_neg (nI_pos (by omega)), if_neg (by rw [show (32 : Int32) = nI 32 from rfl]; exact nI_ge h (by decide))]
theorem hasBit_m1 {s : Int32} : hasBit_ s (-1) = false := by
  unfold hasBit_
  rw [if_pos (by decide)]
theorem nI_31 : ∀ k, k < 32 → nI k &&& 31 = nI k := by decide
theorem bv_and1 {x : BitVec 32} : x &&& 1#32 = 1#32 ↔ x.getLsbD 0 = true := by
  constructor
  · intro e
    have e3 := congrArg (fun b => b.getLsbD 0) e
    simpa using e3
  · intro e
    apply BitVec.eq_of_getLsbD_eq
    intro i hi
    by_cases c : i = 0
    · subst c
      simpa using e
    · simp [c]
theorem smod_k : ∀ k, k < 32 → ((nI k).toBitVec.smod 32).toNat = k := by decide
theorem hb_bit {s : Int32} {k : Nat} (h : k < 32) : hb s k = s.toBitVec.getLsbD k := by
  unfold hb
  rw [nI_31 k h]
  have e1 : (s >>> nI k &&& 1 = 1) ↔ s.toBitVec.getLsbD k = true := by
    rw [← Int32.toBitVec_inj, Int32.toBitVec_and, Int32.toBitVec_shiftRight]
    show s.toBitVec.sshiftRight ((nI k).toBitVec.smod 32).toNat &&& 1#32 = 1#32 ↔ _
    rw [smod_k k h, bv_and1, BitVec.getLsbD_sshiftRight]
    simp [h]
  by_cases c : s.toBitVec.getLsbD k = true
  · rw [c]; exact decide_eq_true (e1.mpr c)
  · rw [Bool.eq_false_iff.mpr c]; exact decide_eq_false (fun e => c (e1.mp e))
theorem hb_or {s t : Int32} {k : Nat} (h : k < 32) : hb (s ||| t) k = (hb s k || hb t k) := by
  rw [hb_bit h, hb_bit h, hb_bit h, Int32.toBitVec_or, BitVec.getLsbD_or]
theorem hb_and {s t : Int32} {k : Nat} (h : k < 32) : hb (s &&& t) k = (hb s k && hb t k) := by
  rw [hb_bit h, hb_bit h, hb_bit h, Int32.toBitVec_and, BitVec.getLsbD_and]
theorem hb_not {s : Int32} {k : Nat} (h : k < 32) : hb (s ^^^ -1) k = !hb s k := by
  rw [hb_bit h, hb_bit h, Int32.toBitVec_xor, BitVec.getLsbD_xor]
  have e : ∀ k, k < 32 → (-1 : Int32).toBitVec.getLsbD k = true := by decide
  rw [e k h, Bool.xor_true]
theorem hb_0 {k : Nat} (h : k < 32) : hb 0 k = false := by
  rw [hb_bit h]
  have e : ∀ k, k < 32 → (0 : Int32).toBitVec.getLsbD k = false := by decide
  exact e k h
theorem hb_one {g k : Nat} (hg : g < 32) (h : k < 32) : hb (bit_ (nI g)) k = decide (g = k) := by
  have e : ∀ g, g < 32 → ∀ k, k < 32 → hb (bit_ (nI g)) k = decide (g = k) := by decide +kernel
  exact e g hg k h
theorem bit_m1 : bit_ (-1) = 0 := by decide
