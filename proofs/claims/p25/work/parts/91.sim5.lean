section S5
variable {I : im_I} {a h m N R : Nat} {st : Nat → Nat}
/-- all blocks before b, in their rounds -/
def exAll (I : im_I) (h m r R : Nat) (st tm : Nat → Nat) (b : Nat) (σ : RS) : RS := itN (fun i τ => exBk I h m r R st i (tm i) τ) b σ
def enAll (I : im_I) (r : Nat) (st tm : Nat → Nat) (b : Nat) (V : Env) : Env := itN (fun i W => enBk I r st i (tm i) W) b V
theorem sim_all (hk : WkOk I a h m N R st) {V : Env} {σ : RS} {tm : Nat → Nat} (ht : ∀ b, b < 4 → I 4 b = nI (tm b) ∧ 1 ≤ tm b ∧ tm b ≤ 9) (H : SimI I a h N (ClB I a N st 0) V σ (st 0)) : ∀ b, b < 4 → SimI I a h N (ClB I a N st b) (enAll I (a + 10) st tm (b + 1) V) (exAll I h m (a + 10) R st tm (b + 1) σ) (st (b + 1)) := by
  obtain ⟨s1, s2⟩ := st_le hk
  intro b
  induction b with
  | zero =>
    intro _
    obtain ⟨t1, t2, t3⟩ := ht 0 (by decide)
    have := sim_block hk (by decide) t1 (by omega) H (tm 0 - 1) (by omega)
    rw [show tm 0 - 1 + 1 = tm 0 by omega] at this
    exact this
  | succ b ih =>
    intro hb
    have h1 := ih (by omega)
    obtain ⟨t1, t2, t3⟩ := ht (b + 1) hb
    have h2 : SimI I a h N (ClB I a N st (b + 1)) (enAll I (a + 10) st tm (b + 1) V) (exAll I h m (a + 10) R st tm (b + 1) σ) (st (b + 1)) := fun w hw hf hl hc => by
      refine h1 w hw hf hl ?_
      rcases hc with ⟨q, q1, q2, q3⟩ | c
      · exact Or.inl ⟨q, by have := s2 b (by omega); omega, q2, q3⟩
      · exact Or.inr c
    have := sim_block hk hb t1 (by omega) h2 (tm (b + 1) - 1) (by omega)
    rw [show tm (b + 1) - 1 + 1 = tm (b + 1) by omega] at this
    exact this
/-- after the ENTRY -/
theorem sim_entry (hk : WkOk I a h m N R st) {V : Env} {σ : RS} : SimI I a h N (ClB I a N st 0) (exR (insAt I (a + 10)) 0 (st 0) V) (exLn I h m (a + 10) R 0 (st 0) σ) (st 0) := by
  have h0 : SimI I a h N (fun _ => True) V σ 0 := fun w hw hf => absurd hf (by omega)
  have h1 := sim_range hk h0 (st 0) (by have := (st_le hk).1 0 (by decide); omega) (fun q w h1 h2 hr hw => trivial)
  rw [Nat.zero_add] at h1
  exact fun w hw hf hl _ => h1 w hw hf hl trivial
/-- at the end -/
theorem sim_end (hk : WkOk I a h m N R st) {V : Env} {σ : RS} {tm : Nat → Nat} (ht : ∀ b, b < 4 → I 4 b = nI (tm b) ∧ 1 ≤ tm b ∧ tm b ≤ 9) {v : Nat} (hv : v < 8) (hq : hb (I 3 2) v = true) :
    bornN I a N v ∧ homeV I h (exAll I h m (a + 10) R st tm 4 (exLn I h m (a + 10) R 0 (st 0) σ)) v = enAll I (a + 10) st tm 4 (exR (insAt I (a + 10)) 0 (st 0) V) v := by
  obtain ⟨q, q1, q2⟩ := hk.1.2.2.2.2.2.2.1 v hv hq
  have hb : bornN I a N v := ⟨by omega, q, q1, q2⟩
  have h1 := sim_all hk ht (sim_entry (V := V) (σ := σ) hk) 3 (by decide)
  obtain ⟨-, -, k3, -, -, -, k7, -⟩ := Wk_life hk hb
  have h4 : st (3 + 1) = N := hk.1.1.2.2.2.1
  rw [h4] at h1
  exact ⟨hb, h1 v hb k3 (by rw [k7 hv hq]; exact Nat.le_refl _) (Or.inr ⟨hv, hq⟩)⟩
/-- what the trees mean -/
theorem stm_congr {nn : Nat} (hp : pgOk (I 5) (I 6) (I 7) nn) (hs : stOk I nn) {b : Nat} (hb : b < 4) {V W : Env} (h : ∀ y, y < 8 → V y = W y) : ∀ k, k ≤ ctN I b → ∀ y, y < 8 → stm I b k V y = stm I b k W y := by
  intro k
  induction k with
  | zero => intro _ y hy; exact h y hy
  | succ k ih =>
    intro hk y hy
    have e : ∀ U : Env, stm I b (k + 1) U = upd (stm I b k U) (vaN I b k) (nv (I 5) (I 6) (I 7) (stm I b k U) (roN I b k)) := fun U => itN_s
    rw [e, e, upd_at, upd_at]
    split
    · exact nv_congr hp (fun z hz => ih (by omega) z hz) (roN I b k + 1) _ (by omega) (((hs.1 b hb).2.2 k (by omega)).2.2.2)
    · exact ih (by omega) y hy
def mnBk (I : im_I) (b t : Nat) (V : Env) : Env := itN (fun _ W => stm I b (ctN I b) W) t V
def mnAll (I : im_I) (tm : Nat → Nat) (b : Nat) (V : Env) : Env := itN (fun i W => mnBk I i (tm i) W) b V
theorem enAll_mn (hk : WkOk I a h m N R st) {nn : Nat} (hp : pgOk (I 5) (I 6) (I 7) nn) (hs : stOk I nn) {tm : Nat → Nat} {V W : Env} (hV : ∀ y, y < 8 → V y = W y) : ∀ b, b ≤ 4 → ∀ y, y < 8 → enAll I (a + 10) st tm b V y = mnAll I tm b W y := by
  intro b
  induction b with
  | zero => intro _ y hy; exact hV y hy
  | succ b ih =>
    intro hb
    have h1 := ih (by omega)
    have e1 : enAll I (a + 10) st tm (b + 1) V = enBk I (a + 10) st b (tm b) (enAll I (a + 10) st tm b V) := itN_s
    have e2 : mnAll I tm (b + 1) W = mnBk I b (tm b) (mnAll I tm b W) := itN_s
    rw [e1, e2]
    generalize enAll I (a + 10) st tm b V = V1 at h1 ⊢
    generalize mnAll I tm b W = W1 at h1 ⊢
    generalize tm b = t
    induction t with
    | zero => exact h1
    | succ t iht =>
      intro y hy
      have e3 : enBk I (a + 10) st b (t + 1) V1 = exR (insAt I (a + 10)) (st b) (st (b + 1) - st b) (enBk I (a + 10) st b t V1) := itN_s
      have e4 : mnBk I b (t + 1) W1 = stm I b (ctN I b) (mnBk I b t W1) := itN_s
      rw [e3, e4, hk.1.2.2.2.2.2.2.2.2 b (by omega) _ y hy]
      exact stm_congr hp hs (by omega) iht _ (Nat.le_refl _) y hy
theorem entry_0 (hk : WkOk I a h m N R st) : ∀ n, n ≤ st 0 → ∀ y, exR (insAt I (a + 10)) 0 n (fun _ => 0) y = 0 := by
  intro n
  induction n with
  | zero => intro _ y; rfl
  | succ n ih =>
    intro hn y
    rw [exR_s, Nat.zero_add]
    obtain ⟨v, v8, hv⟩ := hk.1.2.2.1 n (by omega)
    rw [eqI_ex hv]
    generalize exR (insAt I (a + 10)) 0 n (fun _ => 0) = V at ih ⊢
    unfold exI
    rw [upd_at]
    split
    · exact opV_0
    · exact ih (by omega) y
end S5
