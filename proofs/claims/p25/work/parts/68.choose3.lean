/-- each one's parts come behind it -/
def clo (P : Nat → Nat → Int32) (nn : Nat) (l : List Nat) : Prop := ∀ i m, l[i]? = some m → ∀ k x, k < 3 → P m k = nI x → x < nn → x ∈ l.drop (i + 1)
section Clo
variable {P : Nat → Nat → Int32} {nn : Nat}
theorem clo_nil : clo P nn [] := by
  intro i m h
  simp at h
theorem clo_app {l1 l2 : List Nat} (h1 : clo P nn l1) (h2 : clo P nn l2) : clo P nn (l1 ++ l2) := by
  intro i m h k x hk hx hn
  by_cases c : i < l1.length
  · rw [List.getElem?_append_left c] at h
    have := h1 i m h k x hk hx hn
    rw [List.drop_append]
    exact List.mem_append_left _ this
  · rw [List.getElem?_append_right (by omega)] at h
    have := h2 (i - l1.length) m h k x hk hx hn
    rw [List.drop_append]
    refine List.mem_append_right _ ?_
    rw [show i + 1 - l1.length = i - l1.length + 1 by omega]
    exact this
theorem clo_cons {q : Nat} {l : List Nat} (h1 : clo P nn l) (h2 : ∀ k x, k < 3 → P q k = nI x → x < nn → x ∈ l) : clo P nn (q :: l) := by
  intro i m h k x hk hx hn
  cases i with
  | zero =>
    simp at h
    subst h
    simpa using h2 k x hk hx hn
  | succ i =>
    simp at h
    simpa using h1 i m h k x hk hx hn
theorem rpO_head (j : Nat) : j ∈ rpO P j := by
  unfold rpO
  rw [rp_s]
  simp
theorem rpO_clo (hp : ptOk P nn) (h2 : nn < 1000) : ∀ (n j : Nat), j < n → j < nn → clo P nn (rpO P j) := by
  intro n
  induction n with
  | zero => intro j h; omega
  | succ n ih =>
    intro j hj hjn
    have key : ∀ k, k < 3 → clo P nn (rq P (P j k)) := by
      intro k hk
      unfold rq
      split
      · exact clo_nil
      · next c =>
        have := ptOk_of hp h2 hjn hk c
        exact ih _ (by omega) (by omega)
    rw [rpO_s hp h2 hjn]
    refine clo_cons (clo_app (key 2 (by decide)) (clo_app (key 1 (by decide)) (key 0 (by decide)))) ?_
    intro k x hk hx hn
    have hq : x ∈ rq P (P j k) := by
      rw [hx, rq_nI (by omega)]
      exact rpO_head x
    match k, hk with
    | 0, _ => exact List.mem_append_right _ (List.mem_append_right _ hq)
    | 1, _ => exact List.mem_append_right _ (List.mem_append_left _ hq)
    | 2, _ => exact List.mem_append_left _ hq
theorem rpO_lt (hp : ptOk P nn) (h2 : nn < 1000) : ∀ (n j : Nat), j < n → j < nn → ∀ x ∈ rpO P j, x < nn := by
  intro n
  induction n with
  | zero => intro j h; omega
  | succ n ih =>
    intro j hj hjn x hx
    have key : ∀ k, k < 3 → ∀ x ∈ rq P (P j k), x < nn := by
      intro k hk
      unfold rq
      split
      · intro x hx; simp at hx
      · next c =>
        have := ptOk_of hp h2 hjn hk c
        exact ih _ (by omega) (by omega)
    rw [rpO_s hp h2 hjn] at hx
    rcases List.mem_cons.mp hx with e | e
    · omega
    · rcases List.mem_append.mp e with e | e
      · exact key 2 (by decide) x e
      · rcases List.mem_append.mp e with e | e
        · exact key 1 (by decide) x e
        · exact key 0 (by decide) x e
end Clo
theorem wtL_app {I : im_I} {c : Nat} : ∀ {l1 l2 : List Nat}, wtL I c (l1 ++ l2) = wtL I c l1 + wtL I c l2
  | [], l2 => by simp [wtL]
  | m :: t, l2 => by
    show npt I c m + wtL I c (t ++ l2) = npt I c m + wtL I c t + wtL I c l2
    rw [wtL_app]
    omega
theorem wtL_rpO {I : im_I} {c nn : Nat} (hp : ptOk (ptAt I c) nn) (h2 : nn < 1000) : ∀ (n j : Nat), j < n → j < nn → wtL I c (rpO (ptAt I c) j) + 1 = 2 * (rpO (ptAt I c) j).length := by
  intro n
  induction n with
  | zero => intro j h; omega
  | succ n ih =>
    intro j hj hjn
    have key : ∀ k, k < 3 → wtL I c (rq (ptAt I c) (ptAt I c j k)) + (if ptAt I c j k = -1 then 0 else 1) = 2 * (rq (ptAt I c) (ptAt I c j k)).length := by
      intro k hk
      unfold rq
      split
      · simp [wtL]
      · next cc =>
        have := ptOk_of hp h2 hjn hk cc
        exact ih _ (by omega) (by omega)
    have k0 := key 0 (by decide)
    have k1 := key 1 (by decide)
    have k2 := key 2 (by decide)
    rw [rpO_s hp h2 hjn]
    show npt I c j + wtL I c (_ ++ (_ ++ _)) + 1 = _
    rw [wtL_app, wtL_app]
    simp only [List.length_cons, List.length_append]
    unfold npt nrd
    omega
/-- a STATEMENT's instructions, as they lie in J: the lines n0 to n1, values from x0 to x1 its own -/
def StR (I J : im_I) (c r : Nat) (b : Int32) (n0 x0 n1 x1 var q : Nat) : Prop :=
  (J r 0 = nI n1 ∧ J c 11 = nI x1 ∧ n0 < n1 ∧ x1 = x0 + (n1 - 1 - n0) ∧ n1 ≤ n0 + szP (I 5) (I 6) (I 7) q) ∧
  (∀ p, n0 ≤ p → p + 1 < n1 → insAt J r p 1 = nI (x0 + (p - n0)) ∧ insAt J r p 0 ≠ 1 ∧ EntOk (insAt J r p) b x0 (x0 + (p - n0))) ∧
  (insAt J r (n1 - 1) 1 = nI var ∧ EntOk (insAt J r (n1 - 1)) b x0 (x0 + (n1 - 1 - n0))) ∧
  (∀ V : Env, exR (insAt J r) n0 (n1 - n0) V var = nv (I 5) (I 6) (I 7) V q ∧ ∀ y, y < x0 → y ≠ var → exR (insAt J r) n0 (n1 - n0) V y = V y) ∧
  (sumR (fun p => wt (insAt J r p)) n0 (n1 - n0) ≤ 2 * szP (I 5) (I 6) (I 7) q) ∧
  (∀ p, p < n0 → insAt J r p = insAt I r p) ∧ (∀ z, z < r ∨ r + 6 < z → z ≠ c → z ≠ c + 6 → z ≠ c + 7 → z ≠ c + 8 → J z = I z)
theorem ofN_m1 : ofN (-1) = 0 := by decide
section St
variable {I : im_I} {c r nn n0 x0 blk j q var : Nat}
set_option maxHeartbeats 2000000 in
theorem chooseStatement_R (hC : ChOk I c nn) (hr : c + 8 < r) (h7 : 11 < c) (hq : q < nn) (hroot : rootOf_ I 3 (nI blk) (nI j) = nI q) (hvar : variableOf_ I 3 (nI blk) (nI j) = nI var) (hv8 : var < 8)
    (hn : I r 0 = nI n0) (hx : I c 11 = nI x0) (hx8 : 8 ≤ x0) (hx2 : x0 < 1000) (hroom : n0 + szP (I 5) (I 6) (I 7) q ≤ 80) :
    ∃ n1, StR I (chooseStatement_ I c r (nI blk) (nI j)) c r (nI blk) n0 x0 n1 (x0 + (n1 - 1 - n0)) var q := by
  have h80 := hC.1.1
  have hlen := ChOk_len hC hq
  have hpt := ChOk_pt hC
  obtain ⟨G1, G2⟩ := gather_G hpt h80 hq (by omega)
  have hcl := rpO_clo hpt (by omega) (q + 1) q (by omega) hq
  have hlt := rpO_lt hpt (by omega) (q + 1) q (by omega) hq
  have hwL := wtL_rpO hpt (by omega) (q + 1) q (by omega) hq
  have hL0 := rpO_s hpt (by omega) hq
  unfold chooseStatement_
  simp only [hroot, G1]
  generalize (gather_ I c (nI q)).2 = G at G2 ⊢
  obtain ⟨-, -, G3, G4, G5⟩ := G2
  have eP : ptAt G c = ptAt I c := by funext a b; unfold ptAt; rw [G4 (c + 5) (by omega) (by omega) (by omega)]
  have hCG : ChOk G c nn := ChOk_fr hC fun b hb => G4 b (by omega) (by omega) (by omega)
  have ewL : ∀ l, wtL G c l = wtL I c l := by
    intro l
    induction l with
    | nil => rfl
    | cons a t ih =>
      show npt G c a + wtL G c t = npt I c a + wtL I c t
      rw [ih]
      unfold npt
      rw [eP]
  generalize hL : rpO (ptAt I c) q = L at *
  have hl1 : 1 ≤ L.length := by rw [hL0]; simp
  have hdn : downC (nI L.length - 1) 1 (chooseOne_ c r (nI blk)) G = itN (fun t => chooseOne_ c r (nI blk) (nI (L.length - 1 - t))) (L.length - 1) G := downC_nat (e := 1) (by omega) (by decide)
  rw [hdn]
  have key := itN_inv (f := fun t => chooseOne_ c r (nI blk) (nI (L.length - 1 - t))) (n := L.length - 1) (s := G) (fun t J => ∃ n, n ≤ n0 + t ∧ Cs G J c r (nI blk) n0 x0 n (L.drop (L.length - t)))
    ⟨n0, by omega, ⟨(by rw [G4 r (by omega) (by omega) (by omega)]; exact hn), (by rw [Nat.sub_self, G5 11 (by omega)]; exact hx), Nat.le_refl _, by omega⟩, fun p h1 h2 => absurd h2 (by omega), fun m hm => absurd hm (by simp), by rw [Nat.sub_self]; exact Nat.zero_le _, fun p hp => rfl, fun z hz hc hc6 => rfl⟩
    (fun t J ht hJ => by
      obtain ⟨n, hnt, hJ⟩ := hJ
      have hi : L.length - 1 - t < L.length := by omega
      have hget : L[L.length - 1 - t]? = some L[L.length - 1 - t] := List.getElem?_eq_getElem hi
      have hdr : L.drop (L.length - (t + 1)) = L[L.length - 1 - t] :: L.drop (L.length - t) := by
        rw [show L.length - (t + 1) = L.length - 1 - t by omega, List.drop_eq_getElem_cons hi, show L.length - 1 - t + 1 = L.length - t by omega]
      have hm : L[L.length - 1 - t] < nn := hlt _ (List.getElem_mem hi)
      obtain ⟨n', h1, h2⟩ := Cs_step (i := L.length - 1 - t) (m := L[L.length - 1 - t]) hCG hJ hr h7 hm (by omega) (by
        rw [hJ.2.2.2.2.2 (c + 8) (by omega) (by omega) (by omega)]
        exact G3 _ _ hget) (fun k x hk hx hxn => by
        rw [eP] at hx
        have := hcl _ _ hget k x hk hx hxn
        rw [show L.length - t = L.length - 1 - t + 1 by omega]
        exact this) hx8 hx2 (by omega)
      exact ⟨n', by omega, by rw [hdr]; exact h2⟩)
  generalize itN (fun t => chooseOne_ c r (nI blk) (nI (L.length - 1 - t))) (L.length - 1) G = J at key ⊢
  obtain ⟨n, hnt, hJ⟩ := key
  have hd1 : L.length - (L.length - 1) = 1 := by omega
  rw [hd1] at hJ
  have hge0 : L[0]? = some q := by rw [hL0]; rfl
  have e8 : at_ (J (c + 8)) 80 0 = nI q := by
    rw [show (0 : Int32) = nI 0 from nI_0.symm, at80 (by decide), hJ.2.2.2.2.2 (c + 8) (by omega) (by omega) (by omega)]
    exact G3 0 q hge0
  have ev : variableOf_ J 3 (nI blk) (nI j) = nI var := by
    rw [← hvar]
    unfold variableOf_
    rw [show J (3 + 7) = I (3 + 7) from (hJ.2.2.2.2.2 (3 + 7) (by omega) (by omega) (by omega)).trans (G4 (3 + 7) (by omega) (by omega) (by omega))]
  rw [e8, ev]
  have hcv : covAt J c q = covAt I c q := by
    have e : ∀ z, c + 1 ≤ z → z ≤ c + 5 → J z = I z := fun z h1 h2 => (hJ.2.2.2.2.2 z (by omega) (by omega) (by omega)).trans (G4 z (by omega) (by omega) (by omega))
    unfold covAt
    rw [e (c + 1) (by omega) (by omega), e (c + 2) (by omega) (by omega), e (c + 3) (by omega) (by omega), e (c + 4) (by omega) (by omega), e (c + 5) (by omega) (by omega)]
  have hn1 : n + 1 ≤ n0 + szP (I 5) (I 6) (I 7) q := by omega
  have hcR : ∀ k, k < 3 → covAt J c q (3 + k) = -1 ∨ ∃ x, x < 80 ∧ covAt J c q (3 + k) = nI x := by
    rw [hcv]
    intro k hk
    rcases hC.2 q hq with ⟨-, -, e⟩ | ⟨-, hF⟩
    · rw [e]
      exact Or.inl (lt3 (P := fun k => cov_ 0 1 0 (-1) (-1) (-1) (-1) (-1) (-1) (3 + k) = -1) rfl rfl rfl k hk)
    · rcases hF.2.2.1 k hk with e | ⟨x, hx, e, -⟩
      · exact Or.inl e
      · exact Or.inr ⟨x, by omega, e⟩
  have hA := emit_app (I := J) (c := c) (r := r) (m := q) (n := n) (v := nI var) (b := nI blk) hr (by omega) hJ.1.1 (by omega) (by omega) hcR
  have e5 := (Cs_I0 hJ hr h7 (show 5 < c by omega)).trans (G4 5 (by omega) (by omega) (by omega))
  have e6 := (Cs_I0 hJ hr h7 (show 6 < c by omega)).trans (G4 6 (by omega) (by omega) (by omega))
  have e7 := (Cs_I0 hJ hr h7 (show 7 < c by omega)).trans (G4 7 (by omega) (by omega) (by omega))
  have f5 := G4 5 (by omega) (by omega) (by omega)
  have f6 := G4 6 (by omega) (by omega) (by omega)
  have f7 := G4 7 (by omega) (by omega) (by omega)
  -- the last one
  have hlast : emIns J c q (nI var) (nI blk) 1 = nI var ∧ EntOk (emIns J c q (nI var) (nI blk)) (nI blk) x0 (x0 + (n - n0)) ∧ (wtL G c (L.drop 1) + wt (emIns J c q (nI var) (nI blk)) ≤ 2 * szP (I 5) (I 6) (I 7) q) ∧ ∀ V : Env, opV (emIns J c q (nI var) (nI blk) 0) (emIns J c q (nI var) (nI blk) 5) (exR (insAt J r) n0 (n - n0) V (ofN (emIns J c q (nI var) (nI blk) 2))) (exR (insAt J r) n0 (n - n0) V (ofN (emIns J c q (nI var) (nI blk) 3))) (exR (insAt J r) n0 (n - n0) V (ofN (emIns J c q (nI var) (nI blk) 4))) = nv (I 5) (I 6) (I 7) V q := by
    have hwd : wtL G c L = npt G c q + wtL G c (L.drop 1) := by rw [hL0]; rfl
    rw [ewL L] at hwd
    by_cases k1 : I 5 q = 1
    · rcases hC.2 q hq with ⟨-, ⟨v, hv, hA6⟩, e⟩ | ⟨k2, -⟩
      · have eI : emIns J c q (nI var) (nI blk) = ins_ 1 (nI var) (nI v) (-1) (-1) 0 (nI blk) 0 := by
          unfold emIns
          rw [hcv, e, if_pos (show cov_ 0 1 0 (-1) (-1) (-1) (-1) (-1) (-1) 1 = 1 from rfl), e6, hA6]
          rfl
        have mv := nI_m1 (show v < 2 ^ 31 by omega)
        have hC0 : covAt G c q = covAt I c q := by
          have e : ∀ z, c + 1 ≤ z → z ≤ c + 5 → G z = I z := fun z h1 h2 => G4 z (by omega) (by omega) (by omega)
          unfold covAt
          rw [e (c + 1) (by omega) (by omega), e (c + 2) (by omega) (by omega), e (c + 3) (by omega) (by omega), e (c + 4) (by omega) (by omega), e (c + 5) (by omega) (by omega)]
        have e0 : npt G c q = 1 := by
          unfold npt
          rw [ptAt_cov 0 (by decide), ptAt_cov 1 (by decide), ptAt_cov 2 (by decide), hC0, e]
          rfl
        rw [eI]
        refine ⟨rfl, ⟨rfl, rfl, Or.inr (Or.inl ⟨rfl, mv, rfl, rfl⟩), lt3 (Or.inr ⟨v, rfl, Or.inl hv⟩) (Or.inl rfl) (Or.inl rfl)⟩, ?_, fun V => ?_⟩
        · have : wt (ins_ 1 (nI var) (nI v) (-1) (-1) 0 (nI blk) 0) = 2 := by
            show 1 + nrd (nI v) (-1) (-1) = 2
            unfold nrd
            rw [if_neg mv, if_pos rfl]
          omega
        · show exR (insAt J r) n0 (n - n0) V (ofN (nI v)) = _
          rw [ofN_nI (by omega), exR_old (fun p h1 h2 => by rw [(hJ.2.1 p h1 (by omega)).1, ofN_nI (by omega)]; omega), nv_use k1 (by omega) hA6]
      · exact absurd k1 k2
    · obtain ⟨-, m2, -, m4, m5, m6⟩ := emIns_ok (m := q) hCG hJ hr h7 hq (by rw [f5]; exact k1) (fun k x hk hx hxn => by
        rw [eP] at hx
        exact hcl 0 q hge0 k x hk hx hxn) hx8 (by omega) (J := J) (fun z hz => rfl) (fun z hz => rfl) (nI var)
      refine ⟨m2, m4, by omega, fun V => ?_⟩
      rw [m6 V, f5, f6, f7]
  obtain ⟨l1, l2, l3, l4⟩ := hlast
  generalize emit_ J c r (nI q) (nI var) (nI blk) = E at hA ⊢
  have eo : ∀ p, p < n → insAt E r p = insAt J r p := fun p hp => App_old hA hp
  have en : insAt E r n = emIns J c q (nI var) (nI blk) := App_at hA
  have hxr : ∀ V : Env, exR (insAt E r) n0 (n - n0) V = exR (insAt J r) n0 (n - n0) V := fun V => exR_congr fun p h1 h2 => eo p (by omega)
  obtain ⟨⟨j1, j2, j3, j4⟩, jE, jV, jW, jO, jF⟩ := hJ
  refine ⟨n + 1, ⟨App_row hA, ?_, by omega, rfl, hn1⟩, fun p h1 h2 => ?_, ?_, fun V => ?_, ?_, fun p hp => ?_, fun z hz hc hc6 hc7 hc8 => ?_⟩
  · rw [App_fr hA (by omega), j2]
    rfl
  · rw [eo p (by omega)]
    exact jE p h1 (by omega)
  · rw [show n + 1 - 1 = n from rfl, en]
    exact ⟨l1, l2⟩
  · rw [show n + 1 - n0 = (n - n0) + 1 by omega, exR_s, hxr, show n0 + (n - n0) = n by omega, en]
    unfold exI
    rw [l1, ofN_nI (by omega)]
    refine ⟨?_, fun y hy hyv => ?_⟩
    · rw [upd_at, if_pos rfl]; exact l4 V
    · rw [upd_at, if_neg hyv]
      exact exR_old fun p h1 h2 => by rw [(jE p h1 (by omega)).1, ofN_nI (by omega)]; omega
  · rw [show n + 1 - n0 = (n - n0) + 1 by omega, sumR_s, show n0 + (n - n0) = n by omega, en, sumR_congr (h := fun p => wt (insAt J r p)) (fun p h1 h2 => by rw [eo p (by omega)])]
    omega
  · rw [eo p (by omega), jO p hp]
    exact insAt_fr fun z h1 h2 => G4 z (by omega) (by omega) (by omega)
  · rw [App_fr hA hz, jF z hz hc hc6]
    exact G4 z hc hc7 hc8
end St
