/-! the law's write: all rounds of its loop -/
def wrL (k : im_K) (p : Int32) (mm i : Nat) : List (Option Value) := [some (.ref 2), some (.ref 125), some (.ref 0), some (.int p), some (.int (Int32.ofNat mm)), some (.int (Int32.ofNat i)), none, none, none, none, none, none, none, none, none]
/-- what writing leaves as it is -/
def WrF (S : im_S) (I : im_I) (nn ns : Nat) (S' : im_S) (I' : im_I) (nn' ns' : Nat) : Prop :=
  (im_n S ≤ im_n S' ∧ im_z S ≤ im_z S' ∧ nn ≤ nn' ∧ ns ≤ ns') ∧ (im_n S' ≤ im_n S + 2 * (nn' - nn) + 2 * (ns' - ns) ∧ im_z S' ≤ im_z S + 90 * (nn' - nn) + 30 * (ns' - ns)) ∧
  (∀ c, c < im_n S + 2 → c ≠ 2 → c ≠ 3 → c < 5 ∨ 11 < c → I' c = I c) ∧ (∀ q, q ≠ 0 → q ≠ 1 → I' 3 q = I 3 q)
theorem WrF_rf {S : im_S} {I : im_I} {nn ns : Nat} : WrF S I nn ns S I nn ns := ⟨⟨by omega, by omega, by omega, by omega⟩, ⟨by omega, by omega⟩, fun _ _ _ _ _ => rfl, fun _ _ _ => rfl⟩
theorem WrF_tr {S S1 S2 : im_S} {I I1 I2 : im_I} {n n1 n2 s s1 s2 : Nat} (h : WrF S I n s S1 I1 n1 s1) (g : WrF S1 I1 n1 s1 S2 I2 n2 s2) : WrF S I n s S2 I2 n2 s2 := by
  obtain ⟨⟨a1, a2, a3, a4⟩, ⟨b1, b2⟩, c, d⟩ := h
  obtain ⟨⟨p1, p2, p3, p4⟩, ⟨q1, q2⟩, r, t⟩ := g
  exact ⟨⟨by omega, by omega, by omega, by omega⟩, ⟨by omega, by omega⟩, fun x hx x2 x3 x4 => (r x (by omega) x2 x3 x4).trans (c x hx x2 x3 x4), fun q hq hq1 => (t q hq hq1).trans (d q hq hq1)⟩
theorem WrF_step {S S1 : im_S} {I I1 : im_I} {n n1 ns : Nat} (h : Step S I n S1 I1 n1) : WrF S I n ns S1 I1 n1 ns := by
  obtain ⟨⟨a1, a2, a3⟩, ⟨b1, b2⟩, c, d, -, -⟩ := h
  exact ⟨⟨a1, a2, a3, Nat.le_refl _⟩, ⟨by omega, by omega⟩, fun x hx x2 x3 x4 => c x hx ⟨x2, x3, by omega, by omega, by omega, by omega⟩, fun q hq _ => d q hq⟩
theorem i32_lt1000 {x : Int32} {q : Nat} (e : x = Int32.ofNat q) (h : q < 1000) : x < 1000 := by
  rw [e, show (1000 : Int32) = nI 1000 by decide]
  exact nI_lt h (by decide)
set_option maxHeartbeats 1000000 in
theorem wr_loop {l : Launch} {k : im_K} {pn mm : Nat} (hkL : kL k < 2 ^ 31) (hpn : pn < 4) (hmm : mm ≤ 12) : ∀ (r i : Nat), i + r = mm → ∀ (S : im_S) (I : im_I) (rn nn rs ns : Nat), Lw S I rn nn rs ns → ns ≤ i → (∀ j, I 11 j < 1000) →
    ∃ S' I' rn' nn' rs' ns', Lw S' I' rn' nn' rs' ns' ∧ (∀ j, I' 11 j < 1000) ∧ WrF S I nn ns S' I' nn' ns' ∧ ns' ≤ mm ∧
      ∀ X : im_X, xl X = l → im_Ok X k mL_write 9 → ∀ Q : State → Prop, im_n S' - xn X ≤ (xR X).cells ∧ im_z S' - xz X ≤ (xR X).slots → im_E X k Q 17 (wrL k (nI pn) mm mm) [] S' I' → im_E X k Q 17 (wrL k (nI pn) mm i) [] S I := by
  intro r
  induction r with
  | zero =>
    intro i hi S I rn nn rs ns h hns hRt
    have e : i = mm := by omega
    subst e
    exact ⟨S, I, rn, nn, rs, ns, h, hRt, WrF_rf, hns, fun X _ _ Q _ hE => hE⟩
  | succ r ih =>
    intro i hi S I rn nn rs ns h hns hRt
    have hb0 : 125 < im_n S + 2 := Lw_lt rfl (o_X12_k (Lw_own h)) (by decide)
    have ex : 11 * Int32.ofNat i + nI pn = nI (11 * i + pn) := by
      rw [show Int32.ofNat i = nI i from rfl, show (11 : Int32) = nI 11 from rfl, pk_mul, nI_add]
    obtain ⟨S1, I1, rn1, nn1, v, hr, g1, st1, kp1, pv⟩ := sp_L_tree (l := l) (k := k) (rs := rs) (ns := ns) hkL 3 (by decide) S I rn nn (nI (11 * i + pn)) h (nI_pos (by omega)) (by rw [nI_toInt (by omega)]; omega)
    rw [← ex] at hr
    have hF1 : WrF S I nn ns S1 I1 nn1 ns := WrF_step st1
    have hip : ¬ Int32.ofNat i + nI pn < 0 := by
      rw [show Int32.ofNat i = nI i from rfl, nI_add]
      exact nI_pos (by omega)
    have hlt : ¬ Int32.ofNat mm ≤ Int32.ofNat i := nI_ge (show i < mm by omega) (by omega)
    have hmm0 : ¬ Int32.ofNat mm = 0 := nI_ne0 (show 0 < mm by omega) (by omega)
    have hR1 : ∀ j, I1 11 j < 1000 := fun j => by rw [st1.2.2.1 11 (by omega) (by decide)]; exact hRt j
    rcases pv with rfl | ⟨j, rfl, jn, jn1, j0⟩
    · obtain ⟨S', I', rn', nn', rs', ns', q1, q2, q3, q4, q5⟩ := ih (i + 1) (by omega) S1 I1 rn1 nn1 rs ns g1 (by omega) hR1
      refine ⟨S', I', rn', nn', rs', ns', q1, q2, WrF_tr hF1 q3, q4, fun X hl hX Q hroom hE => ?_⟩
      subst hl
      obtain ⟨r1, r2⟩ := hroom
      have w1 := q3.1.1
      have w2 := q3.1.2.1
      exact wr_pre hX (by decide) (old_o (Lw_old h)) (Lw_own h) hkL hip hlt hmm0 hr ⟨by omega, by omega⟩ (wr_skip hX (by omega) (q5 X rfl hX Q ⟨r1, r2⟩ hE))
    · obtain ⟨bl, hbl, ebl⟩ := wr_block (k := k) (p := nI pn) (m := mm) (i := i) (by omega) (by omega)
      have hn24 : ns < 24 := by omega
      have n80 := Lw_n80 g1
      have hvr := below_range (v := wrX_ k (nI pn) (Int32.ofNat i) >>> ((3 : Int32) &&& 31)) (n := 6) (by decide)
      rw [show (6 : Int32).toInt = 6 by decide] at hvr
      have hv8 : vp_in (wrV_ k (nI pn) (Int32.ofNat i)) 8 := by
        rw [vp_in_iff]
        exact ⟨hvr.1, by have := hvr.2; show (below_ _ 6).toInt < 8; omega⟩
      have g2 := Lw_stmt (v := wrV_ k (nI pn) (Int32.ofNat i)) g1 hn24 hbl hv8 jn1 j0 (b := im_n S1 + 2) rfl
      have low := fun (c : Nat) (h1 : c ≠ im_n S1 + 2) (h2 : c ≠ im_n S1 + 2 + 1) => stmtI_low (v := wrV_ k (nI pn) (Int32.ofNat i)) (b := im_n S1 + 2) g1 hn24 hbl jn1 h1 h2
      have hb1 : im_n S ≤ im_n S1 := st1.1.1
      have sn : im_n (stmtS_ S1 125 rs ns (im_n S1 + 2)) = im_n S1 + 2 := rfl
      have sz : im_z (stmtS_ S1 125 rs ns (im_n S1 + 2)) = im_z S1 + 3 + (ns + 1) := rfl
      have hF2 : WrF S1 I1 nn1 ns (stmtS_ S1 125 rs ns (im_n S1 + 2)) (stmtI_ I1 (im_n S1 + 2) bl j (wrV_ k (nI pn) (Int32.ofNat i))) nn1 (ns + 1) := by
        refine ⟨⟨by rw [sn]; omega, by rw [sz]; omega, Nat.le_refl _, by omega⟩, ⟨by rw [sn]; omega, by rw [sz]; omega⟩, fun c hc c2 c3 c5 => stmtI_old g1 hn24 hbl jn1 (by omega) (by omega) ⟨c2, c3, by omega, by omega, by omega, by omega⟩, fun q q0 q1 => ?_⟩
        rw [low 3 (by omega) (by omega)]
        simp [im_up, forget_, q1]
      have hR2 : ∀ z, stmtI_ I1 (im_n S1 + 2) bl j (wrV_ k (nI pn) (Int32.ofNat i)) 11 z < 1000 := fun z => by
        have e : stmtI_ I1 (im_n S1 + 2) bl j (wrV_ k (nI pn) (Int32.ofNat i)) 11 z = if z = 24 * bl + inBlock (rowAt S1 I1 rs) (Int32.ofNat bl) ns then Int32.ofNat j else I1 11 z := by
          rw [low 11 (by omega) (by omega)]; simp [im_up, forget_]
        rw [e]
        split
        · exact i32_lt1000 rfl (by omega)
        · exact hR1 z
      obtain ⟨S', I', rn', nn', rs', ns', q1, q2, q3, q4, q5⟩ := ih (i + 1) (by omega) _ _ rn1 nn1 (im_n S1 + 2 + 1) (ns + 1) g2 (by omega) hR2
      refine ⟨S', I', rn', nn', rs', ns', q1, q2, WrF_tr hF1 (WrF_tr hF2 q3), q4, fun X hl hX Q hroom hE => ?_⟩
      subst hl
      obtain ⟨r1, r2⟩ := hroom
      have w1 := q3.1.1
      have w2 := q3.1.2.1
      rw [sn] at w1
      rw [sz] at w2
      have hst : statementsIn_ (forget_ I1 2) 3 (Int32.ofNat bl) + 1 = loopN (cnt 0 (Int32.ofNat ns)) 0 (there_ S1 I1 rs (Int32.ofNat bl)) 1 := by
        have e1 : statementsIn_ (forget_ I1 2) 3 (Int32.ofNat bl) = Int32.ofNat (inBlock (rowAt S1 I1 rs) (Int32.ofNat bl) ns) := by
          unfold statementsIn_
          rw [show Int32.ofNat bl = nI bl from rfl, at_nat hbl (by decide), forget_fr (by decide)]
          exact Lw_cnts g1 bl hbl
        rw [e1]
        exact (there_all (S := S1) (I := I1) (rs := rs) (bl := Int32.ofNat bl) (by omega)).symm
      refine wr_pre hX (by decide) (old_o (Lw_old h)) (Lw_own h) hkL hip hlt hmm0 hr ⟨by omega, by omega⟩ ?_
      rw [ebl]
      refine wr_main hX (by decide) (old_o (Lw_old g1)) (Lw_own g1) (Lw_rowsS g1) (by omega) (nI_pos (show j < 2 ^ 31 by omega)) (isBelow_t ?_) (isBelow_t ?_) ?_ (loose_t (Lw_c0 g1) n80 jn1 j0) ?_ hst ?_
      · rw [ofNat_int (by omega), show (4 : Int32).toInt = 4 by decide]; omega
      · rw [show (8 : Int32).toInt = 8 by decide]
        exact ⟨hvr.1, by have := hvr.2; show (below_ _ 6).toInt < 8; omega⟩
      · rw [Lw_c0 g1]
        exact isBelow_t (by rw [ofNat_int (by omega), ofNat_int (by omega)]; omega)
      · rw [Lw_c1 g1, Int32.lt_iff_toInt_lt, ofNat_int (by omega), show (24 : Int32).toInt = 24 by decide]; omega
      · exact wr_tail hX (by decide) (by omega) (Lw_own g1) (Lw_rowsS g1) (by omega) rfl ⟨by omega, by omega⟩ (q5 X rfl hX Q ⟨r1, r2⟩ hE)
