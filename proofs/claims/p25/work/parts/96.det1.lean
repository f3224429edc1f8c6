/-! PURE THEORY, DETERMINATION: two memories that tell the same program come to the same plan, wherever it lies and whatever was there; covers, STATEMENTS -/
/-- the program's rows are the same -/
def PgE (I J : im_I) : Prop := ∀ z, 3 ≤ z → z ≤ 11 → J z = I z
/-- two machines are the same for a plan -/
def MpE (I J : im_I) (m m' : Nat) : Prop := cyclesOf_ J m' = cyclesOf_ I m ∧ J m' 2 = I m 2 ∧ J m' 3 = I m 3
theorem cov_det {I J : im_I} {c c' m m' nn : Nat} (h0 : I 3 0 = nI nn) (hp : pgOk (I 5) (I 6) (I 7) nn) (hP : PgE I J) (hM : MpE I J m m') (hc : 7 < c) (hm : m + 1 < c) (hc' : 7 < c') (hm' : m' + 1 < c') : ∀ j, j < nn → covAt (coverAll_ J c' m') c' j = covAt (coverAll_ I c m) c j := by
  obtain ⟨A1, -, -⟩ := coverAll_to (I := I) h0 hp hc (Or.inl hm)
  obtain ⟨B1, -, -⟩ := coverAll_to (I := J) (c := c') (m := m') (nn := nn) (by rw [hP 3 (by decide) (by decide)]; exact h0) (by rw [hP 5 (by decide) (by decide), hP 6 (by decide) (by decide), hP 7 (by decide) (by decide)]; exact hp) hc' (Or.inl hm')
  rw [hP 5 (by decide) (by decide), hP 6 (by decide) (by decide), hP 7 (by decide) (by decide), hM.1, hM.2.1, hM.2.2] at B1
  intro j
  induction j using Nat.strongRecOn with
  | ind j ih =>
    intro hj
    rw [A1 j hj, B1 j hj]
    exact covNew_congr hp hj fun i hi => congrFun (ih i hi (by omega)) 0
theorem rpO_congr {P Q : Nat → Nat → Int32} {nn : Nat} (hp : ptOk P nn) (h2 : nn < 1000) (h : ∀ j, j < nn → ∀ k, k < 3 → Q j k = P j k) : ∀ (n j : Nat), j < n → j < nn → rpO Q j = rpO P j := by
  have hq : ptOk Q nn := fun j hj k hk => by rw [h j hj k hk]; exact hp j hj k hk
  intro n
  induction n with
  | zero => intro j hj; omega
  | succ n ih =>
    intro j hj hjn
    have key : ∀ k, k < 3 → rq Q (P j k) = rq P (P j k) := fun k hk => by
      unfold rq
      split
      · rfl
      · next cc =>
        have := ptOk_of hp h2 hjn hk cc
        exact ih _ (by omega) (by omega)
    rw [rpO_s hq h2 hjn, rpO_s hp h2 hjn, h j hjn 0 (by decide), h j hjn 1 (by decide), h j hjn 2 (by decide), key 0 (by decide), key 1 (by decide), key 2 (by decide)]
theorem covAt_fr {I J : im_I} {c j : Nat} (h : ∀ z, c + 1 ≤ z → z ≤ c + 5 → J z = I z) : covAt J c j = covAt I c j := by
  unfold covAt
  rw [h (c + 1) (by omega) (by omega), h (c + 2) (by omega) (by omega), h (c + 3) (by omega) (by omega), h (c + 4) (by omega) (by omega), h (c + 5) (by omega) (by omega)]
/-- what a cover reads are parts -/
theorem ChOk_rd {I : im_I} {c nn : Nat} (h : ChOk I c nn) {m k : Nat} (hm : m < nn) (hk : k < 3) : covAt I c m (3 + k) = -1 ∨ ∃ q, q < m ∧ covAt I c m (3 + k) = nI q ∧ ∃ i, i < 3 ∧ ptAt I c m i = nI q := by
  rcases h.2 m hm with ⟨-, -, e⟩ | ⟨-, hF⟩
  · rw [e]
    exact Or.inl (lt3 (P := fun k => cov_ 0 1 0 (-1) (-1) (-1) (-1) (-1) (-1) (3 + k) = -1) rfl rfl rfl k hk)
  · rcases hF.2.2.1 k hk with e | ⟨q, hq, e, i, hi, e2⟩
    · exact Or.inl e
    · exact Or.inr ⟨q, hq, e, i, hi, (ptAt_cov i hi).trans e2⟩
theorem chooseOne_cases {I : im_I} {c r n i m : Nat} {b : Int32} (hr : c + 8 < r) (h7 : 11 < c) (hi : i < 80) (hm : m < 80) (hs : I (c + 8) i = nI m) (hn : I r 0 = nI n) (hn88 : n < 88) (hcR : ∀ k, k < 3 → covAt I c m (3 + k) = -1 ∨ ∃ q, q < 80 ∧ covAt I c m (3 + k) = nI q) :
    (I 5 m = 1 → chooseOne_ c r b (nI i) I = im_up I (c + 6) m (I 6 m)) ∧ (I 5 m ≠ 1 → ∃ E, chooseOne_ c r b (nI i) I = im_up E c 11 (I c 11 + 1) ∧ App (im_up I (c + 6) m (I c 11)) E r n (emIns (im_up I (c + 6) m (I c 11)) c m (I c 11) b)) := by
  have hnd : at_ (I (c + 8)) 80 (nI i) = nI m := by rw [at80 hi]; exact hs
  unfold chooseOne_
  simp only [hnd, show 3 + 2 = 5 from rfl, show 3 + 3 = 6 from rfl, at80 hm, put80' hm]
  refine ⟨fun k1 => if_pos k1, fun k1 => ?_⟩
  rw [if_neg k1]
  have ej : ∀ q, q ≠ c + 6 → im_up I (c + 6) m (I c 11) q = I q := fun q hq => up_fr hq
  have ec : im_up I (c + 6) m (I c 11) c = I c := ej c (by omega)
  rw [ec]
  have hA := emit_app (I := im_up I (c + 6) m (I c 11)) (c := c) (r := r) (m := m) (n := n) (v := I c 11) (b := b) hr (by omega) (by rw [ej r (by omega)]; exact hn) hn88 hm (by rw [covAt_fr fun z z1 z2 => ej z (by omega)]; exact hcR)
  refine ⟨_, ?_, hA⟩
  rw [App_fr hA (Or.inl (by omega)), ec]
theorem emIns_E {A B : im_I} {c c' m : Nat} {v b : Int32} (hcv : covAt B c' m = covAt A c m) (h6 : B 6 m = A 6 m) (hrd : ∀ k, k < 3 → covAt A c m (3 + k) = -1 ∨ ∃ q, q < 80 ∧ covAt A c m (3 + k) = nI q ∧ B (c' + 6) q = A (c + 6) q) : emIns B c' m v b = emIns A c m v b := by
  have key : ∀ k, k < 3 → vr B c' (covAt A c m (3 + k)) = vr A c (covAt A c m (3 + k)) := fun k hk => by
    unfold vr
    rcases hrd k hk with e | ⟨q, q1, e, q2⟩
    · rw [if_pos e, if_pos e]
    · rw [e, ofN_nI (by omega), q2]
  have k0 : vr B c' (covAt A c m 3) = vr A c (covAt A c m 3) := key 0 (by decide)
  have k1 : vr B c' (covAt A c m 4) = vr A c (covAt A c m 4) := key 1 (by decide)
  have k2 : vr B c' (covAt A c m 5) = vr A c (covAt A c m 5) := key 2 (by decide)
  unfold emIns
  rw [hcv, h6, k0, k1, k2]
/-- the two runs between a STATEMENT's instructions: nodes D are done -/
def CsE (G H A B : im_I) (c r c' r' n : Nat) (D : List Nat) : Prop :=
  (A r 0 = nI n ∧ B r' 0 = nI n ∧ B c' 11 = A c 11) ∧ (∀ x, x ∈ D → B (c' + 6) x = A (c + 6) x) ∧ (∀ p, p < n → insAt B r' p = insAt A r p) ∧
  (∀ z, z < r ∨ r + 6 < z → z ≠ c → z ≠ c + 6 → A z = G z) ∧ (∀ z, z < r' ∨ r' + 6 < z → z ≠ c' → z ≠ c' + 6 → B z = H z)
theorem CsE_step {G H A B : im_I} {c r c' r' nn n i m : Nat} {b : Int32} {D : List Nat} (h : CsE G H A B c r c' r' n D) (hC : ChOk G c nn) (hC' : ChOk H c' nn) (h5 : H 5 = G 5) (h6 : H 6 = G 6) (hcov : ∀ j, j < nn → covAt H c' j = covAt G c j) (hr : c + 8 < r) (h7 : 11 < c) (hr' : c' + 8 < r') (h7' : 11 < c')
    (hm : m < nn) (hi : i < 80) (hs : G (c + 8) i = nI m) (hs' : H (c' + 8) i = nI m) (hD : ∀ k q, k < 3 → ptAt G c m k = nI q → q < nn → q ∈ D) (hn : n < 88) :
    ∃ n', n' ≤ n + 1 ∧ CsE G H (chooseOne_ c r b (nI i) A) (chooseOne_ c' r' b (nI i) B) c r c' r' n' (m :: D) := by
  obtain ⟨⟨g1, g2, g3⟩, gV, gR, gA, gB⟩ := h
  have h80 := hC.1.1
  have aC : ∀ j, covAt A c j = covAt G c j := fun j => covAt_fr fun z z1 z2 => gA z (by omega) (by omega) (by omega)
  have bC : ∀ j, covAt B c' j = covAt H c' j := fun j => covAt_fr fun z z1 z2 => gB z (by omega) (by omega) (by omega)
  have a5 := gA 5 (by omega) (by omega) (by omega)
  have a6 := gA 6 (by omega) (by omega) (by omega)
  have b5 := (gB 5 (by omega) (by omega) (by omega)).trans h5
  have b6 := (gB 6 (by omega) (by omega) (by omega)).trans h6
  have rdA : ∀ k, k < 3 → covAt A c m (3 + k) = -1 ∨ ∃ q, q < 80 ∧ covAt A c m (3 + k) = nI q := fun k hk => by
    rw [aC]
    rcases ChOk_rd hC hm hk with e | ⟨q, q1, e, -⟩
    · exact Or.inl e
    · exact Or.inr ⟨q, by omega, e⟩
  have rdB : ∀ k, k < 3 → covAt B c' m (3 + k) = -1 ∨ ∃ q, q < 80 ∧ covAt B c' m (3 + k) = nI q := fun k hk => by
    rw [bC]
    rcases ChOk_rd hC' hm hk with e | ⟨q, q1, e, -⟩
    · exact Or.inl e
    · exact Or.inr ⟨q, by omega, e⟩
  obtain ⟨p1, p2⟩ := chooseOne_cases (I := A) (c := c) (r := r) (n := n) (i := i) (m := m) (b := b) hr h7 hi (by omega) (by rw [gA _ (by omega) (by omega) (by omega)]; exact hs) g1 hn rdA
  obtain ⟨q1, q2⟩ := chooseOne_cases (I := B) (c := c') (r := r') (n := n) (i := i) (m := m) (b := b) hr' h7' hi (by omega) (by rw [gB _ (by omega) (by omega) (by omega)]; exact hs') g2 hn rdB
  by_cases k1 : A 5 m = 1
  · rw [p1 k1, q1 (by rw [b5, ← a5]; exact k1)]
    refine ⟨n, by omega, ⟨?_, ?_, ?_⟩, fun x hx => ?_, fun p hp => ?_, fun z z1 z2 z3 => (up_fr z3).trans (gA z z1 z2 z3), fun z z1 z2 z3 => (up_fr z3).trans (gB z z1 z2 z3)⟩
    · rw [up_fr (by omega)]; exact g1
    · rw [up_fr (by omega)]; exact g2
    · rw [up_fr (by omega), up_fr (by omega)]; exact g3
    · rw [up_row, up_row]
      by_cases d : x = m
      · rw [if_pos d, if_pos d, b6, a6]
      · rw [if_neg d, if_neg d]
        rcases List.mem_cons.mp hx with e | e
        · exact absurd e d
        · exact gV x e
    · rw [insAt_fr (I := B) fun z z1 z2 => up_fr (by omega), insAt_fr (I := A) fun z z1 z2 => up_fr (by omega)]
      exact gR p hp
  · obtain ⟨E, e1, e2⟩ := p2 k1
    obtain ⟨F, f1, f2⟩ := q2 (by rw [b5, ← a5]; exact k1)
    rw [e1, f1]
    have eI : emIns (im_up B (c' + 6) m (B c' 11)) c' m (B c' 11) b = emIns (im_up A (c + 6) m (A c 11)) c m (A c 11) b := by
      rw [g3]
      refine emIns_E ?_ ?_ fun k hk => ?_
      · rw [covAt_fr (I := B) fun z z1 z2 => up_fr (by omega), covAt_fr (I := A) fun z z1 z2 => up_fr (by omega), bC, aC, hcov m hm]
      · rw [up_fr (by omega), up_fr (by omega), b6, a6]
      · rw [covAt_fr (I := A) fun z z1 z2 => up_fr (by omega), aC]
        rcases ChOk_rd hC hm hk with e | ⟨q, q1, e, i2, i3, e3⟩
        · exact Or.inl e
        · refine Or.inr ⟨q, by omega, e, ?_⟩
          rw [up_ne (by omega), up_ne (by omega)]
          exact gV q (hD i2 q i3 e3 (by omega))
    have fE : ∀ z, z < r ∨ r + 6 < z → z ≠ c + 6 → E z = A z := fun z z1 z2 => (App_fr e2 z1).trans (up_fr z2)
    have fF : ∀ z, z < r' ∨ r' + 6 < z → z ≠ c' + 6 → F z = B z := fun z z1 z2 => (App_fr f2 z1).trans (up_fr z2)
    refine ⟨n + 1, Nat.le_refl _, ⟨?_, ?_, ?_⟩, fun x hx => ?_, fun p hp => ?_, fun z z1 z2 z3 => (up_fr z2).trans ((fE z z1 z3).trans (gA z z1 z2 z3)), fun z z1 z2 z3 => (up_fr z2).trans ((fF z z1 z3).trans (gB z z1 z2 z3))⟩
    · rw [up_fr (by omega)]; exact App_row e2
    · rw [up_fr (by omega)]; exact App_row f2
    · rw [im_up_same, im_up_same, g3]
    · rw [up_fr (by omega), up_fr (by omega), App_fr e2 (by omega), App_fr f2 (by omega), up_row, up_row]
      by_cases d : x = m
      · rw [if_pos d, if_pos d, g3]
      · rw [if_neg d, if_neg d]
        rcases List.mem_cons.mp hx with e | e
        · exact absurd e d
        · exact gV x e
    · rw [insAt_fr (I := F) fun z z1 z2 => up_fr (by omega), insAt_fr (I := E) fun z z1 z2 => up_fr (by omega)]
      by_cases d : p = n
      · rw [d, App_at e2, App_at f2, eI]
      · rw [App_old e2 (by omega), App_old f2 (by omega), insAt_fr (I := B) fun z z1 z2 => up_fr (by omega), insAt_fr (I := A) fun z z1 z2 => up_fr (by omega)]
        exact gR p (by omega)
set_option maxHeartbeats 1000000 in
theorem chooseStatement_E {I J : im_I} {c r c' r' nn n0 blk j q var : Nat} (hC : ChOk I c nn) (hC' : ChOk J c' nn) (h5 : J 5 = I 5) (h6 : J 6 = I 6) (hcov : ∀ j, j < nn → covAt J c' j = covAt I c j) (hr : c + 8 < r) (h7 : 11 < c) (hr' : c' + 8 < r') (h7' : 11 < c')
    (hq : q < nn) (hroot : rootOf_ I 3 (nI blk) (nI j) = nI q) (hroot' : rootOf_ J 3 (nI blk) (nI j) = nI q) (hvar : variableOf_ I 3 (nI blk) (nI j) = nI var) (hvar' : variableOf_ J 3 (nI blk) (nI j) = nI var)
    (hn : I r 0 = nI n0) (hn' : J r' 0 = nI n0) (hx : J c' 11 = I c 11) (hroom : n0 + szP (I 5) (I 6) (I 7) q ≤ 80) (h7r : J 7 = I 7) (hR : ∀ p, p < n0 → insAt J r' p = insAt I r p) :
    ∃ n1, n1 ≤ 88 ∧ chooseStatement_ I c r (nI blk) (nI j) r 0 = nI n1 ∧ chooseStatement_ J c' r' (nI blk) (nI j) r' 0 = nI n1 ∧ chooseStatement_ J c' r' (nI blk) (nI j) c' 11 = chooseStatement_ I c r (nI blk) (nI j) c 11 ∧ ∀ p, p < n1 → insAt (chooseStatement_ J c' r' (nI blk) (nI j)) r' p = insAt (chooseStatement_ I c r (nI blk) (nI j)) r p := by
  have h80 := hC.1.1
  have hlen := ChOk_len hC hq
  have hlen' := ChOk_len hC' hq
  rw [h5, h6, h7r] at hlen'
  have hpt := ChOk_pt hC
  have hpt' := ChOk_pt hC'
  obtain ⟨G1, G2⟩ := gather_G hpt h80 hq (by omega)
  obtain ⟨H1, H2⟩ := gather_G hpt' h80 hq (by omega)
  have eL : rpO (ptAt J c') q = rpO (ptAt I c) q := rpO_congr hpt (by omega) (fun j hj k hk => by rw [ptAt_cov k hk, ptAt_cov k hk, hcov j hj]) (q + 1) q (by omega) hq
  have hcl := rpO_clo hpt (by omega) (q + 1) q (by omega) hq
  have hlt := rpO_lt hpt (by omega) (q + 1) q (by omega) hq
  have hL0 := rpO_s hpt (by omega) hq
  rw [eL] at H1 H2
  unfold chooseStatement_
  simp only [hroot, hroot', G1, H1]
  generalize (gather_ I c (nI q)).2 = G at G2 ⊢
  generalize (gather_ J c' (nI q)).2 = H at H2 ⊢
  obtain ⟨-, -, G3, G4, G5⟩ := G2
  obtain ⟨-, -, H3, H4, H5⟩ := H2
  have eP : ptAt G c = ptAt I c := by funext a b; unfold ptAt; rw [G4 (c + 5) (by omega) (by omega) (by omega)]
  have hCG : ChOk G c nn := ChOk_fr hC fun b hb => G4 b (by omega) (by omega) (by omega)
  have hCH : ChOk H c' nn := ChOk_fr hC' fun b hb => H4 b (by omega) (by omega) (by omega)
  have e5 : H 5 = G 5 := by rw [H4 5 (by omega) (by omega) (by omega), G4 5 (by omega) (by omega) (by omega), h5]
  have e6 : H 6 = G 6 := by rw [H4 6 (by omega) (by omega) (by omega), G4 6 (by omega) (by omega) (by omega), h6]
  have ecv : ∀ j, j < nn → covAt H c' j = covAt G c j := fun j hj => by
    rw [covAt_fr (I := J) fun z z1 z2 => H4 z (by omega) (by omega) (by omega), covAt_fr (I := I) fun z z1 z2 => G4 z (by omega) (by omega) (by omega), hcov j hj]
  generalize hL : rpO (ptAt I c) q = L at *
  have hl1 : 1 ≤ L.length := by rw [hL0]; simp
  have hdn : ∀ (c r : Nat) (G : im_I), downC (nI L.length - 1) 1 (chooseOne_ c r (nI blk)) G = itN (fun t => chooseOne_ c r (nI blk) (nI (L.length - 1 - t))) (L.length - 1) G := fun c r G => downC_nat (e := 1) (by omega) (by decide)
  rw [hdn, hdn]
  have key := itN_rel (f := fun t => chooseOne_ c r (nI blk) (nI (L.length - 1 - t))) (g := fun t => chooseOne_ c' r' (nI blk) (nI (L.length - 1 - t))) (n := L.length - 1) (s := G) (t := H) (fun t A B => ∃ n, n ≤ n0 + t ∧ CsE G H A B c r c' r' n (L.drop (L.length - t)))
    ⟨n0, by omega, ⟨(by rw [G4 r (by omega) (by omega) (by omega)]; exact hn), (by rw [H4 r' (by omega) (by omega) (by omega)]; exact hn'), by rw [H5 11 (by omega), G5 11 (by omega)]; exact hx⟩, fun x hx => absurd hx (by simp), fun p hp => by rw [insAt_fr (I := J) fun z z1 z2 => H4 z (by omega) (by omega) (by omega), insAt_fr (I := I) fun z z1 z2 => G4 z (by omega) (by omega) (by omega)]; exact hR p hp, fun z _ _ _ => rfl, fun z _ _ _ => rfl⟩
    (fun t A B ht hAB => by
      obtain ⟨n, hnt, hAB⟩ := hAB
      have hi : L.length - 1 - t < L.length := by omega
      have hget : L[L.length - 1 - t]? = some L[L.length - 1 - t] := List.getElem?_eq_getElem hi
      have hdr : L.drop (L.length - (t + 1)) = L[L.length - 1 - t] :: L.drop (L.length - t) := by
        rw [show L.length - (t + 1) = L.length - 1 - t by omega, List.drop_eq_getElem_cons hi, show L.length - 1 - t + 1 = L.length - t by omega]
      have hm : L[L.length - 1 - t] < nn := hlt _ (List.getElem_mem hi)
      obtain ⟨n', h1, h2⟩ := CsE_step (i := L.length - 1 - t) (m := L[L.length - 1 - t]) (b := nI blk) hAB hCG hCH e5 e6 ecv hr h7 hr' h7' hm (by omega) (G3 _ _ hget) (H3 _ _ hget) (fun k x hk hx hxn => by
        rw [eP] at hx
        have := hcl _ _ hget k x hk hx hxn
        rw [show L.length - t = L.length - 1 - t + 1 by omega]
        exact this) (by omega)
      exact ⟨n', by omega, by rw [hdr]; exact h2⟩)
  generalize itN (fun t => chooseOne_ c r (nI blk) (nI (L.length - 1 - t))) (L.length - 1) G = A at key ⊢
  generalize itN (fun t => chooseOne_ c' r' (nI blk) (nI (L.length - 1 - t))) (L.length - 1) H = B at key ⊢
  obtain ⟨n, hnt, ⟨g1, g2, g3⟩, gV, gR, gA, gB⟩ := key
  have hd1 : L.length - (L.length - 1) = 1 := by omega
  rw [hd1] at gV
  have hge0 : L[0]? = some q := by rw [hL0]; rfl
  have e8 : at_ (A (c + 8)) 80 0 = nI q := by
    rw [show (0 : Int32) = nI 0 from nI_0.symm, at80 (by decide), gA (c + 8) (by omega) (by omega) (by omega)]
    exact G3 0 q hge0
  have e8' : at_ (B (c' + 8)) 80 0 = nI q := by
    rw [show (0 : Int32) = nI 0 from nI_0.symm, at80 (by decide), gB (c' + 8) (by omega) (by omega) (by omega)]
    exact H3 0 q hge0
  have ev : variableOf_ A 3 (nI blk) (nI j) = nI var := by
    rw [← hvar]
    unfold variableOf_
    rw [show A (3 + 7) = I (3 + 7) from (gA (3 + 7) (by omega) (by omega) (by omega)).trans (G4 (3 + 7) (by omega) (by omega) (by omega))]
  have ev' : variableOf_ B 3 (nI blk) (nI j) = nI var := by
    rw [← hvar']
    unfold variableOf_
    rw [show B (3 + 7) = J (3 + 7) from (gB (3 + 7) (by omega) (by omega) (by omega)).trans (H4 (3 + 7) (by omega) (by omega) (by omega))]
  rw [e8, ev, e8', ev']
  have aC : covAt A c q = covAt G c q := covAt_fr fun z z1 z2 => gA z (by omega) (by omega) (by omega)
  have bC : covAt B c' q = covAt H c' q := covAt_fr fun z z1 z2 => gB z (by omega) (by omega) (by omega)
  have eI : emIns B c' q (nI var) (nI blk) = emIns A c q (nI var) (nI blk) := by
    refine emIns_E (by rw [bC, aC, ecv q hq]) (by rw [gB 6 (by omega) (by omega) (by omega), gA 6 (by omega) (by omega) (by omega), e6]) fun k hk => ?_
    rw [aC]
    rcases ChOk_rd hCG hq hk with e | ⟨x, x1, e, i2, i3, e3⟩
    · exact Or.inl e
    · refine Or.inr ⟨x, by omega, e, gV x ?_⟩
      rw [eP] at e3
      exact hcl 0 q hge0 i2 x i3 e3 (by omega)
  have hA := emit_app (I := A) (c := c) (r := r) (m := q) (n := n) (v := nI var) (b := nI blk) hr (by omega) g1 (by omega) (by omega) (fun k hk => by
    rw [aC]
    rcases ChOk_rd hCG hq hk with e | ⟨x, x1, e, -⟩
    · exact Or.inl e
    · exact Or.inr ⟨x, by omega, e⟩)
  have hB := emit_app (I := B) (c := c') (r := r') (m := q) (n := n) (v := nI var) (b := nI blk) hr' (by omega) g2 (by omega) (by omega) (fun k hk => by
    rw [bC]
    rcases ChOk_rd hCH hq hk with e | ⟨x, x1, e, -⟩
    · exact Or.inl e
    · exact Or.inr ⟨x, by omega, e⟩)
  refine ⟨n + 1, by omega, App_row hA, App_row hB, ?_, fun p hp => ?_⟩
  · rw [App_fr hA (by omega), App_fr hB (by omega), g3]
  · by_cases d : p = n
    · rw [d, App_at hA, App_at hB, eI]
    · rw [App_old hA (by omega), App_old hB (by omega)]
      exact gR p (by omega)
