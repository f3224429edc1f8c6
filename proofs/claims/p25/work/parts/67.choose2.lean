theorem arOk_map {kd x y z x' y' z' : Int32} (h : arOk kd x y z) (h0 : x = -1 ↔ x' = -1) (h1 : y = -1 ↔ y' = -1) (h2 : z = -1 ↔ z' = -1) : arOk kd x' y' z' := by
  unfold arOk at h ⊢
  simp only [ne_eq] at h ⊢
  rw [h0, h1, h2] at h
  exact h
theorem nrd_map {x y z x' y' z' : Int32} (h0 : x = -1 ↔ x' = -1) (h1 : y = -1 ↔ y' = -1) (h2 : z = -1 ↔ z' = -1) : nrd x y z = nrd x' y' z' := by
  unfold nrd
  simp only [h0, h1, h2]
theorem sumR_s {g : Nat → Nat} {a n : Nat} : sumR g a (n + 1) = sumR g a n + g (a + n) := rfl
theorem sumR_congr {g h : Nat → Nat} {a n : Nat} (e : ∀ p, a ≤ p → p < a + n → g p = h p) : sumR g a n = sumR h a n := sumTo_congr fun j hj => e (a + j) (by omega) (by omega)
section Ch
variable {I0 I : im_I} {c r nn n0 x0 n i m : Nat} {b : Int32} {D : List Nat}
/-- a read of a cover, as a value -/
theorem vr_ok {J : im_I} {x : Int32} {P : Nat → Nat → Prop} (h : x = -1 ∨ ∃ q y, q < 80 ∧ y < 2 ^ 31 ∧ x = nI q ∧ J (c + 6) q = nI y ∧ P q y) : (x = -1 ↔ vr J c x = -1) ∧ (vr J c x = -1 ∨ ∃ q y, x = nI q ∧ q < 80 ∧ vr J c x = nI y ∧ P q y) := by
  unfold vr
  rcases h with e | ⟨q, y, h1, h2, h3, h4, h5⟩
  · rw [if_pos e]; exact ⟨by simp [e], Or.inl rfl⟩
  · have m1 := nI_m1 (show q < 2 ^ 31 by omega)
    rw [h3, if_neg m1, ofN_nI (by omega), h4]
    exact ⟨⟨fun e => absurd e m1, fun e => absurd e (nI_m1 h2)⟩, Or.inr ⟨q, y, rfl, h1, rfl, h5⟩⟩
theorem Cs_I0 (h : Cs I0 I c r b n0 x0 n D) (hr : c + 8 < r) (h7 : 11 < c) {q : Nat} (hq : q < c) : I q = I0 q := h.2.2.2.2.2 q (by omega) (by omega) (by omega)
/-- what emit lays, when the parts are done -/
theorem emIns_ok (hC : ChOk I0 c nn) (h : Cs I0 I c r b n0 x0 n D) (hr : c + 8 < r) (h7 : 11 < c) (hm : m < nn) (hk : I0 5 m ≠ 1) (hD : ∀ k q, k < 3 → ptAt I0 c m k = nI q → q < nn → q ∈ D) (hx : 8 ≤ x0) (hn : x0 + (n - n0) < 2 ^ 31) {J : im_I} (hJ : ∀ q, q ≠ c + 6 → J q = I q) (hJ6 : ∀ q, q ≠ m → J (c + 6) q = I (c + 6) q) (v : Int32) :
    covAt J c m 1 ≠ 1 ∧ emIns J c m v b 1 = v ∧ emIns J c m v b 0 ≠ 1 ∧ EntOk (emIns J c m v b) b x0 (x0 + (n - n0)) ∧ wt (emIns J c m v b) ≤ npt I0 c m ∧ ∀ V : Env, opV (emIns J c m v b 0) (emIns J c m v b 5) (exR (insAt I r) n0 (n - n0) V (ofN (emIns J c m v b 2))) (exR (insAt I r) n0 (n - n0) V (ofN (emIns J c m v b 3))) (exR (insAt I r) n0 (n - n0) V (ofN (emIns J c m v b 4))) = nv (I0 5) (I0 6) (I0 7) V m := by
  have h80 := hC.1.1
  have hcv : covAt J c m = covAt I0 c m := by
    have e : ∀ q, c + 1 ≤ q → q ≤ c + 5 → J q = I0 q := fun q h1 h2 => (hJ q (by omega)).trans (h.2.2.2.2.2 q (by omega) (by omega) (by omega))
    unfold covAt
    rw [e (c + 1) (by omega) (by omega), e (c + 2) (by omega) (by omega), e (c + 3) (by omega) (by omega), e (c + 4) (by omega) (by omega), e (c + 5) (by omega) (by omega)]
  rcases hC.2 m hm with ⟨e, -⟩ | ⟨-, hF⟩
  · exact absurd e hk
  · obtain ⟨⟨F1, F1'⟩, F2, F3, F4, F5, F6⟩ := hF
    have key : ∀ k, k < 3 → covAt I0 c m (3 + k) = -1 ∨ ∃ q y, q < 80 ∧ y < 2 ^ 31 ∧ covAt I0 c m (3 + k) = nI q ∧ J (c + 6) q = nI y ∧ (q < m ∧ (y < 8 ∨ x0 ≤ y ∧ y < x0 + (n - n0)) ∧ ∀ V : Env, exR (insAt I r) n0 (n - n0) V y = nv (I0 5) (I0 6) (I0 7) V q) := by
      intro k hk
      rcases F3 k hk with e | ⟨q, hq, e, i, hi, e2⟩
      · exact Or.inl e
      · have hqD := hD i q hi ((ptAt_cov i hi).trans e2) (by omega)
        obtain ⟨y, y1, y2, y3⟩ := h.2.2.1 q hqD
        refine Or.inr ⟨q, y, by omega, ?_, e, (hJ6 q (by omega)).trans y1, hq, ?_, ?_⟩
        · rcases y2 with ⟨-, y2⟩ | y2 <;> omega
        · rcases y2 with ⟨-, y2⟩ | y2
          · exact Or.inl y2
          · exact Or.inr y2
        · rw [Cs_I0 h hr h7 (show 5 < c by omega), Cs_I0 h hr h7 (show 6 < c by omega), Cs_I0 h hr h7 (show 7 < c by omega)] at y3
          exact y3
    obtain ⟨a0, r0⟩ := vr_ok (key 0 (by decide))
    obtain ⟨a1, r1⟩ := vr_ok (key 1 (by decide))
    obtain ⟨a2, r2⟩ := vr_ok (key 2 (by decide))
    have eI : emIns J c m v b = ins_ (covAt I0 c m 1) v (vr J c (covAt I0 c m 3)) (vr J c (covAt I0 c m 4)) (vr J c (covAt I0 c m 5)) (covAt I0 c m 2) b 0 := by
      unfold emIns
      rw [hcv, if_neg F1']
    have hrd : ∀ {x : Int32}, (vr J c x = -1 ∨ ∃ q y, x = nI q ∧ q < 80 ∧ vr J c x = nI y ∧ (q < m ∧ (y < 8 ∨ x0 ≤ y ∧ y < x0 + (n - n0)) ∧ ∀ V : Env, exR (insAt I r) n0 (n - n0) V y = nv (I0 5) (I0 6) (I0 7) V q)) → vr J c x = -1 ∨ ∃ y, vr J c x = nI y ∧ (y < 8 ∨ x0 ≤ y ∧ y < x0 + (n - n0)) := by
      rintro x (e | ⟨q, y, -, -, e, -, e2, -⟩)
      · exact Or.inl e
      · exact Or.inr ⟨y, e, e2⟩
    refine ⟨by rw [hcv]; exact F1', by rw [eI]; rfl, by rw [eI]; exact F1', ?_, ?_, fun V => ?_⟩
    · rw [eI]
      exact ⟨rfl, rfl, arOk_map F1 a0 a1 a2, lt3 (hrd r0) (hrd r1) (hrd r2)⟩
    · rw [eI]
      show 1 + nrd (vr J c (covAt I0 c m 3)) (vr J c (covAt I0 c m 4)) (vr J c (covAt I0 c m 5)) ≤ _
      rw [← nrd_map a0 a1 a2]
      unfold npt
      rw [ptAt_cov 0 (by decide), ptAt_cov 1 (by decide), ptAt_cov 2 (by decide)]
      exact Nat.add_le_add_left F6 1
    · rw [eI]
      refine F4 V (fun k => exR (insAt I r) n0 (n - n0) V (ofN (vr J c (covAt I0 c m (3 + k))))) (fun k q hk hq e => ?_)
      have h0 : ∀ x : Int32, (vr J c x = -1 ∨ ∃ q y, x = nI q ∧ q < 80 ∧ vr J c x = nI y ∧ (q < m ∧ (y < 8 ∨ x0 ≤ y ∧ y < x0 + (n - n0)) ∧ ∀ V : Env, exR (insAt I r) n0 (n - n0) V y = nv (I0 5) (I0 6) (I0 7) V q)) → (x = -1 ↔ vr J c x = -1) → x = nI q → exR (insAt I r) n0 (n - n0) V (ofN (vr J c x)) = nv (I0 5) (I0 6) (I0 7) V q := by
        intro x hh ha hx
        rcases hh with e2 | ⟨q2, y, e2, h2, e3, -, e5, e6⟩
        · exact absurd (ha.mpr e2) (by rw [hx]; exact nI_m1 (by omega))
        · have : q2 = q := nI_inj (by omega) (by omega) (e2.symm.trans hx)
          subst this
          rw [e3, ofN_nI (by omega)]
          exact e6 V
      exact lt3 (P := fun k => covAt I0 c m (3 + k) = nI q → exR (insAt I r) n0 (n - n0) V (ofN (vr J c (covAt I0 c m (3 + k)))) = nv (I0 5) (I0 6) (I0 7) V q) (h0 _ r0 a0) (h0 _ r1 a1) (h0 _ r2 a2) k hk e
theorem Cs_step (hC : ChOk I0 c nn) (h : Cs I0 I c r b n0 x0 n D) (hr : c + 8 < r) (h7 : 11 < c) (hm : m < nn) (hi : i < 80) (hs : I (c + 8) i = nI m) (hD : ∀ k q, k < 3 → ptAt I0 c m k = nI q → q < nn → q ∈ D) (hx : 8 ≤ x0) (hx2 : x0 < 1000) (hn : n < 88) :
    ∃ n', n' ≤ n + 1 ∧ Cs I0 (chooseOne_ c r b (nI i) I) c r b n0 x0 n' (m :: D) := by
  have h80 := hC.1.1
  have e5 := Cs_I0 h hr h7 (show 5 < c by omega)
  have e6 := Cs_I0 h hr h7 (show 6 < c by omega)
  have e7 := Cs_I0 h hr h7 (show 7 < c by omega)
  obtain ⟨⟨g1, g2, g3, g4⟩, gE, gV, gW, gO, gF⟩ := id h
  have hnd : at_ (I (c + 8)) 80 (nI i) = nI m := by rw [at80 hi]; exact hs
  have hwr : ∀ p, n0 ≤ p → p < n0 + (n - n0) → ofN (insAt I r p 1) = x0 + (p - n0) := fun p h1 h2 => by
    rw [(gE p h1 (by omega)).1, ofN_nI (by omega)]
  unfold chooseOne_
  simp only [hnd, show 3 + 2 = 5 from rfl, show 3 + 3 = 6 from rfl, at80 (show m < 80 by omega), put80' (show m < 80 by omega)]
  rcases hC.2 m hm with ⟨k1, ⟨v, hv, hA⟩, hcv⟩ | ⟨k1, hF⟩
  · rw [if_pos (by rw [e5]; exact k1)]
    have eR : ∀ p, insAt (im_up I (c + 6) m (I 6 m)) r p = insAt I r p := fun p => insAt_fr fun b h1 h2 => up_fr (by omega)
    have eR' : insAt (im_up I (c + 6) m (I 6 m)) r = insAt I r := funext eR
    refine ⟨n, by omega, ⟨?_, ?_, g3, by simp; omega⟩, fun p h1 h2 => by rw [eR]; exact gE p h1 h2, fun d hd => ?_, ?_, fun p hp => by rw [eR]; exact gO p hp, fun q hq hqc hq6 => (up_fr hq6).trans (gF q hq hqc hq6)⟩
    · rw [up_fr (by omega)]; exact g1
    · rw [up_fr (by omega)]; exact g2
    · rw [eR', up_fr (show 5 ≠ c + 6 by omega), up_fr (show 6 ≠ c + 6 by omega), up_fr (show 7 ≠ c + 6 by omega)]
      by_cases q : d = m
      · subst q
        refine ⟨v, by rw [im_up_same, e6]; exact hA, Or.inl ⟨by rw [e5]; exact k1, hv⟩, fun V => ?_⟩
        rw [exR_old (fun p h1 h2 => by rw [hwr p h1 h2]; omega), e5, e6, e7, nv_use k1 (by omega) hA]
      · have hdD : d ∈ D := by
          rcases List.mem_cons.mp hd with e | e
          · exact absurd e q
          · exact e
        obtain ⟨y, y1, y2, y3⟩ := gV d hdD
        exact ⟨y, by rw [up_ne q]; exact y1, y2, y3⟩
    · rw [eR']
      show _ ≤ npt I0 c m + wtL I0 c D
      omega
  · rw [if_neg (by rw [e5]; exact k1)]
    have ej : ∀ q, q ≠ c + 6 → im_up I (c + 6) m (I c 11) q = I q := fun q hq => up_fr hq
    have ec : im_up I (c + 6) m (I c 11) c = I c := ej c (by omega)
    rw [ec]
    obtain ⟨m1, m2, m3, m4, m5, m6⟩ := emIns_ok hC h hr h7 hm k1 hD hx (by omega) (J := im_up I (c + 6) m (I c 11)) ej (fun q hq => up_ne hq) (I c 11)
    have hcR : ∀ k, k < 3 → covAt (im_up I (c + 6) m (I c 11)) c m (3 + k) = -1 ∨ ∃ q, q < 80 ∧ covAt (im_up I (c + 6) m (I c 11)) c m (3 + k) = nI q := by
      have e : covAt (im_up I (c + 6) m (I c 11)) c m = covAt I0 c m := by
        have e : ∀ q, c + 1 ≤ q → q ≤ c + 5 → im_up I (c + 6) m (I c 11) q = I0 q := fun q h1 h2 => (ej q (by omega)).trans (gF q (by omega) (by omega) (by omega))
        unfold covAt
        rw [e (c + 1) (by omega) (by omega), e (c + 2) (by omega) (by omega), e (c + 3) (by omega) (by omega), e (c + 4) (by omega) (by omega), e (c + 5) (by omega) (by omega)]
      rw [e]
      intro k hk
      rcases hF.2.2.1 k hk with e2 | ⟨q, hq, e2, -⟩
      · exact Or.inl e2
      · exact Or.inr ⟨q, by omega, e2⟩
    have hA := emit_app (I := im_up I (c + 6) m (I c 11)) (c := c) (r := r) (m := m) (n := n) (v := I c 11) (b := b) hr (by omega) (by rw [ej r (by omega)]; exact g1) hn (by omega) hcR
    generalize emit_ (im_up I (c + 6) m (I c 11)) c r (nI m) (I c 11) b = E at hA ⊢
    have eR : ∀ p, insAt (im_up E c 11 (E c 11 + 1)) r p = insAt E r p := fun p => insAt_fr fun b h1 h2 => up_fr (by omega)
    have eo : ∀ p, p < n → insAt E r p = insAt I r p := fun p hp => (App_old hA hp).trans (insAt_fr fun b h1 h2 => ej b (by omega))
    have en : insAt E r n = emIns (im_up I (c + 6) m (I c 11)) c m (I c 11) b := App_at hA
    have eRo : ∀ p, p < n → insAt (im_up E c 11 (E c 11 + 1)) r p = insAt I r p := fun p hp => (eR p).trans (eo p hp)
    have eRn : insAt (im_up E c 11 (E c 11 + 1)) r n = emIns (im_up I (c + 6) m (I c 11)) c m (I c 11) b := (eR n).trans en
    have ef : ∀ q, q < r ∨ r + 6 < q → E q = im_up I (c + 6) m (I c 11) q := fun q hq => App_fr hA hq
    have eE : E c 11 = I c 11 := by rw [ef c (by omega), ec]
    have hxr : ∀ V : Env, exR (insAt (im_up E c 11 (E c 11 + 1)) r) n0 (n - n0) V = exR (insAt I r) n0 (n - n0) V := fun V => exR_congr fun p h1 h2 => eRo p (by omega)
    refine ⟨n + 1, by omega, ⟨?_, ?_, by omega, by simp; omega⟩, fun p h1 h2 => ?_, fun d hd => ?_, ?_, fun p hp => ?_, fun q hq hqc hq6 => ?_⟩
    · rw [up_fr (by omega)]; exact App_row hA
    · rw [im_up_same, eE, g2, ← nI_succ, show x0 + (n - n0) + 1 = x0 + (n + 1 - n0) by omega]
    · by_cases q : p = n
      · subst q
        rw [eRn]
        exact ⟨m2.trans g2, m3, m4⟩
      · rw [eRo p (by omega)]
        exact gE p h1 (by omega)
    · have hEc : ∀ q, q ≠ c → q < r ∨ r + 6 < q → im_up E c 11 (E c 11 + 1) q = im_up I (c + 6) m (I c 11) q := fun q h1 h2 => (up_fr h1).trans (ef q h2)
      rw [hEc 5 (by omega) (by omega), hEc 6 (by omega) (by omega), hEc 7 (by omega) (by omega), hEc (c + 6) (by omega) (by omega), ej 5 (by omega), ej 6 (by omega), ej 7 (by omega)]
      have hlast : n0 + (n - n0) = n := by omega
      by_cases q : d = m
      · subst q
        refine ⟨x0 + (n - n0), by rw [im_up_same]; exact g2, Or.inr ⟨by omega, by omega⟩, fun V => ?_⟩
        rw [show n + 1 - n0 = (n - n0) + 1 by omega, exR_s, hxr, hlast, eRn]
        unfold exI
        rw [m2, g2, ofN_nI (by omega), upd_at, if_pos rfl, e5, e6, e7]
        have := m6 V
        rw [g2] at this
        exact this
      · have hdD : d ∈ D := by
          rcases List.mem_cons.mp hd with e | e
          · exact absurd e q
          · exact e
        obtain ⟨y, y1, y2, y3⟩ := gV d hdD
        have hy : y < x0 + (n - n0) := by rcases y2 with ⟨-, y2⟩ | y2 <;> omega
        refine ⟨y, by rw [up_ne q]; exact y1, ?_, fun V => ?_⟩
        · rcases y2 with y2 | y2
          · exact Or.inl y2
          · exact Or.inr ⟨y2.1, by omega⟩
        · rw [show n + 1 - n0 = (n - n0) + 1 by omega, exR_s, hxr, hlast, eRn]
          unfold exI
          rw [m2, g2, ofN_nI (by omega), upd_at, if_neg (by omega)]
          exact y3 V
    · rw [show n + 1 - n0 = (n - n0) + 1 by omega, sumR_s, show n0 + (n - n0) = n by omega, eRn]
      rw [sumR_congr (h := fun p => wt (insAt I r p)) (fun p h1 h2 => by rw [eRo p (by omega)])]
      show _ ≤ npt I0 c m + wtL I0 c D
      omega
    · rw [eRo p (by omega)]; exact gO p hp
    · rw [up_fr hqc, ef q hq, ej q hq6]; exact gF q hq hqc hq6
end Ch
