/-! WHAT THE TREES MEAN: the class's Meaning and the law's Own say the same -/
theorem mn_congr {I : im_I} {nn : Nat} (hp : pgOk (I 5) (I 6) (I 7) nn) (hs : stOk I nn) {tm : Nat → Nat} {V W : Env} (h : ∀ y, y < 8 → V y = W y) : ∀ b, b ≤ 4 → ∀ y, y < 8 → mnAll I tm b V y = mnAll I tm b W y := by
  intro b
  induction b with
  | zero => intro _ y hy; exact h y hy
  | succ b ih =>
    intro hb
    have h1 := ih (by omega)
    have e2 : ∀ W, mnAll I tm (b + 1) W = mnBk I b (tm b) (mnAll I tm b W) := fun W => itN_s
    rw [e2, e2]
    generalize mnAll I tm b V = V1 at h1 ⊢
    generalize mnAll I tm b W = W1 at h1 ⊢
    generalize tm b = t
    induction t with
    | zero => exact h1
    | succ t iht =>
      intro y hy
      have e4 : ∀ W1, mnBk I b (t + 1) W1 = stm I b (ctN I b) (mnBk I b t W1) := fun W1 => itN_s
      rw [e4, e4]
      exact stm_congr hp hs (by omega) iht _ (Nat.le_refl _) y hy
section Work
variable {I J : im_I} {nn : Nat}
theorem valueOf_nat {V : Env} {i : Nat} (hp : pgOk (I 5) (I 6) (I 7) nn) (hi : i < nn) (h5 : J 5 = I 5) (h6 : J 6 = I 6) (h7 : J 7 = I 7) (hV : J 13 = V) (hN : ∀ j, j < i → J 14 j = nv (I 5) (I 6) (I 7) V j) : valueOf_ J 12 (nI i) = nv (I 5) (I 6) (I 7) V i := by
  have h80 := hp.1
  have i80 : i < 80 := by omega
  have eK : at_ (J (3 + 2)) 80 (nI i) = I 5 i := by rw [at80 i80]; exact congrFun h5 i
  have eA : at_ (J (3 + 3)) 80 (nI i) = I 6 i := by rw [at80 i80]; exact congrFun h6 i
  have eB : at_ (J (3 + 4)) 80 (nI i) = I 7 i := by rw [at80 i80]; exact congrFun h7 i
  unfold valueOf_
  simp only [eK, eA, eB]
  rcases hp.2 i hi with (e | ⟨e, v, v8, ev⟩) | ⟨hk, x, y, hx, hy, ex, ey⟩
  · rw [if_pos e, nv_num e]
  · rw [if_neg (by rw [e]; decide), if_pos e, ev, show J (12 + 1) = V from hV, at_nat v8 (by decide), nv_use e (by omega) ev]
  · rw [nv_op hp hi hx hy ex ey hk, ex, ey, show J (12 + 2) = J 14 from rfl, at80 (by omega), at80 (by omega), hN x hx, hN y hy]
    rcases hk with e | e | e | e <;> rw [e] <;> simp [opV]
theorem workNodes_nat {V : Env} {q : Nat} (hp : pgOk (I 5) (I 6) (I 7) nn) (hq : q < nn) (h5 : J 5 = I 5) (h6 : J 6 = I 6) (h7 : J 7 = I 7) (hV : J 13 = V) : workNodes_ J 12 (nI q) 14 q = nv (I 5) (I 6) (I 7) V q ∧ ∀ z, z ≠ 14 → workNodes_ J 12 (nI q) z = J z := by
  have h80 := hp.1
  unfold workNodes_
  rw [← nI_succ, loopC_nat0 (by omega)]
  have key := itN_inv (f := fun i J => put_ J (12 + 2) 80 (nI i) (valueOf_ J 12 (nI i))) (n := q + 1) (s := J) (fun i K => (∀ j, j < i → K 14 j = nv (I 5) (I 6) (I 7) V j) ∧ ∀ z, z ≠ 14 → K z = J z) ⟨fun j hj => absurd hj (by omega), fun z _ => rfl⟩ (fun i K hi hK => by
    obtain ⟨k1, k2⟩ := hK
    rw [valueOf_nat hp (by omega) ((k2 5 (by decide)).trans h5) ((k2 6 (by decide)).trans h6) ((k2 7 (by decide)).trans h7) ((k2 13 (by decide)).trans hV) k1, put80' (by omega)]
    refine ⟨fun j hj => ?_, fun z hz => (up_fr hz).trans (k2 z hz)⟩
    show im_up K 14 i _ 14 j = _
    rw [up_row]
    by_cases c : j = i
    · rw [if_pos c, c]
    · rw [if_neg c]; exact k1 j (by omega))
  exact ⟨key.1 q (by omega), key.2⟩
/-- the rows of the program stay -/
def WkF (I J : im_I) : Prop := ∀ z, z ≠ 13 → z ≠ 14 → J z = I z
theorem workOne_nat {b k : Nat} (hp : pgOk (I 5) (I 6) (I 7) nn) (hs : stOk I nn) (hb : b < 4) (hk : k < ctN I b) (hF : WkF I J) : workOne_ 12 (nI b) (nI k) J 13 = upd (J 13) (vaN I b k) (nv (I 5) (I 6) (I 7) (J 13) (roN I b k)) ∧ WkF I (workOne_ 12 (nI b) (nI k) J) := by
  obtain ⟨c1, c2, c3⟩ := hs.1 b hb
  obtain ⟨v1, v2, v3, v4⟩ := c3 k hk
  have h80 := hp.1
  have hpl : placeOf_ (nI b) (nI k) = nI (24 * b + k) := by
    unfold placeOf_
    rw [show (24 : Int32) = nI 24 from rfl, pk_mul, nI_add, Nat.mul_comm]
  have hro : rootOf_ J 3 (nI b) (nI k) = nI (roN I b k) := by
    unfold rootOf_
    rw [hpl, at_nat (by omega) (by decide), hF (3 + 8) (by decide) (by decide)]
    exact v3
  obtain ⟨w1, w2⟩ := workNodes_nat (J := J) (V := J 13) hp v4 (hF 5 (by decide) (by decide)) (hF 6 (by decide) (by decide)) (hF 7 (by decide) (by decide)) rfl
  unfold workOne_
  simp only [hro]
  generalize workNodes_ J 12 (nI (roN I b k)) = E at w1 w2 ⊢
  have hva : variableOf_ E 3 (nI b) (nI k) = nI (vaN I b k) := by
    unfold variableOf_
    rw [hpl, at_nat (by omega) (by decide), w2 (3 + 7) (by decide), hF (3 + 7) (by decide) (by decide)]
    exact v1
  have ev : at_ (E (12 + 2)) 80 (nI (roN I b k)) = nv (I 5) (I 6) (I 7) (J 13) (roN I b k) := by
    rw [at80 (by omega)]; exact w1
  rw [hva, ev, put_nat v2 (by decide)]
  refine ⟨?_, fun z z1 z2 => (up_fr z1).trans ((w2 z z2).trans (hF z z1 z2))⟩
  show im_up E 13 _ _ 13 = _
  rw [im_up_upd, w2 13 (by decide)]
theorem workBlock_nat {b : Nat} (hp : pgOk (I 5) (I 6) (I 7) nn) (hs : stOk I nn) (hb : b < 4) (hF : WkF I J) : workBlock_ J 12 (nI b) 13 = stm I b (ctN I b) (J 13) ∧ WkF I (workBlock_ J 12 (nI b)) := by
  obtain ⟨c1, c2, c3⟩ := hs.1 b hb
  have e9 : statementsIn_ J 3 (nI b) = nI (ctN I b) := by
    unfold statementsIn_
    rw [at_nat hb (by decide), hF (3 + 6) (by decide) (by decide)]
    exact c1
  unfold workBlock_
  rw [e9, loopC_nat0 (by omega)]
  exact itN_inv (f := fun k J => workOne_ 12 (nI b) (nI k) J) (n := ctN I b) (s := J) (fun k K => K 13 = stm I b k (J 13) ∧ WkF I K) ⟨rfl, hF⟩ (fun k K hk hK => by
    obtain ⟨k1, k2⟩ := hK
    obtain ⟨q1, q2⟩ := workOne_nat hp hs hb hk k2
    refine ⟨?_, q2⟩
    rw [q1, k1]
    rfl)
theorem work_nat {tm : Nat → Nat} (h : PgOk I nn) (ht : ∀ b, b < 4 → I 4 b = nI (tm b) ∧ tm b ≤ 9) : ∀ y, y < 8 → work_ I 12 13 y = mnAll I tm 4 (fun _ => 0) y := by
  obtain ⟨-, hp, hs⟩ := h
  unfold work_
  have hF0 : WkF I (fillL_ I (12 + 1) 8 0) := fun z z1 _ => fillL_fr z1
  have h0 : ∀ y, y < 8 → fillL_ I (12 + 1) 8 0 13 y = 0 := fun y hy => fillL_row (by decide) hy
  generalize fillL_ I (12 + 1) 8 0 = E at hF0 h0
  rw [show (4 : Int32) = nI 4 by decide, loopC_nat0 (by decide)]
  have key := itN_inv (f := fun b J => workRounds_ 12 (nI b) J) (n := 4) (s := E) (fun b K => K 13 = mnAll I tm b (E 13) ∧ WkF I K) ⟨rfl, hF0⟩ (fun b K hb hK => by
    obtain ⟨k1, k2⟩ := hK
    have t9 := (ht b hb).2
    have er : roundsOf_ K 3 (nI b) = nI (tm b) := by
      unfold roundsOf_
      rw [if_neg (nI_m1 (by omega)), at_nat hb (by decide), k2 (3 + 1) (by decide) (by decide)]
      exact (ht b hb).1
    unfold workRounds_
    rw [er, loopC_nat0 (by omega)]
    have e2 : mnAll I tm (b + 1) (E 13) = mnBk I b (tm b) (mnAll I tm b (E 13)) := itN_s
    rw [e2, ← k1]
    exact itN_inv (f := fun _ J => workBlock_ J 12 (nI b)) (n := tm b) (s := K) (fun n L => L 13 = mnBk I b n (K 13) ∧ WkF I L) ⟨rfl, k2⟩ (fun n L hn hL => by
      obtain ⟨l1, l2⟩ := hL
      obtain ⟨q1, q2⟩ := workBlock_nat hp hs hb l2
      refine ⟨?_, q2⟩
      rw [q1, l1]
      exact itN_s.symm))
  intro y hy
  rw [key.1]
  exact mn_congr hp hs h0 4 (Nat.le_refl _) y hy
end Work
theorem worth_congr3 {f g : Nat → Nat → Int32} {H : Nat → Int32} {nn : Nat} (h : nodesOk f nn) (hn : nn ≤ 1000) (he : ∀ j, j < nn → g j 0 = f j 0 ∧ g j 1 = f j 1 ∧ g j 2 = f j 2) : ∀ (n j : Nat), j < nn → worth_ g H n j = worth_ f H n j := by
  intro n
  induction n with
  | zero => intro j _; rw [worth_, worth_]
  | succ n ih =>
    intro j hj
    obtain ⟨e0, e1, e2⟩ := he j hj
    rw [worth_s, worth_s, e0, e1, e2]
    split
    · rfl
    · next c =>
      obtain ⟨p1, p2⟩ := nodesOk_part h hn hj c
      rw [ih _ (by omega), ih _ (by omega)]
section OwnM
variable {S : im_S} {I J : im_I} {rn nn rs ns b : Nat}
theorem own_rowN (h : Lw S I rn nn rs ns) (hb : im_n S + 2 = b) (hJ : ∀ z, z < b → J z = I z) {j : Nat} (hj : j < nn) : rowAt (im_alS S b 20 8) J rn j = rowAt S I rn j := by
  have hr := Lw_lt hb (o_X12_a0 (Lw_own h)) (show 21 < 99 by decide)
  rw [rowAt_al (by omega)]
  obtain ⟨h1, h2⟩ := Lw_rowsN h j hj
  have hc := Lw_lt hb h2 (by decide)
  funext q
  show J (im_r S rn j - 1) q = I (im_r S rn j - 1) q
  rw [hJ _ hc]
theorem own_rowS (h : Lw S I rn nn rs ns) (hb : im_n S + 2 = b) (hJ : ∀ z, z < b → J z = I z) {j : Nat} (hj : j < ns) : rowAt (im_alS S b 20 8) J rs j = rowAt S I rs j := by
  have hr := Lw_lt hb (o_X12_a1 (Lw_own h)) (show 21 < 99 by decide)
  rw [rowAt_al (by omega)]
  obtain ⟨h1, h2⟩ := Lw_rowsS h j hj
  have hc := Lw_lt hb h2 (by decide)
  funext q
  show J (im_r S rs j - 1) q = I (im_r S rs j - 1) q
  rw [hJ _ hc]
theorem ownSts_nat (h : Lw S I rn nn rs ns) (hb : im_n S + 2 = b) (hJ : ∀ z, z < b → J z = I z) {bl : Nat} (hbl : bl < 4) : ownSts_ (im_alS S b 20 8) rn nn rs ns b (nI bl) J b = stm I bl (ctN I bl) (J b) ∧ ∀ z, z ≠ b → ownSts_ (im_alS S b 20 8) rn nn rs ns b (nI bl) J z = J z := by
  have n80 := Lw_n80 h
  have s24 := Lw_s24 h
  have hpg := Lw_pgOk h
  unfold ownSts_
  rw [show Int32.ofNat ns = nI ns from rfl, loopC_nat0 (by omega), (Lw_ct h hbl).1]
  refine itN_inv (f := fun t J => ownStep_ (im_alS S b 20 8) rn nn rs b (nI bl) (nI t) J) (n := ns) (s := J) (fun t K => K b = stm I bl (inBlock (rowAt S I rs) (Int32.ofNat bl) t) (J b) ∧ ∀ z, z ≠ b → K z = J z) ⟨rfl, fun z _ => rfl⟩ (fun t K ht hK => ?_)
  obtain ⟨k1, k2⟩ := hK
  have hK : ∀ z, z < b → K z = I z := fun z hz => (k2 z (by omega)).trans (hJ z hz)
  unfold ownStep_
  rw [nI_clamp (by omega), own_rowS h hb hK ht]
  have eB : ∀ c : Bool, inBlock (rowAt S I rs) (Int32.ofNat bl) (t + 1) = inBlock (rowAt S I rs) (Int32.ofNat bl) t + if rowAt S I rs t 0 = Int32.ofNat bl then 1 else 0 := fun _ => rfl
  rw [eB true]
  by_cases c : rowAt S I rs t 0 = Int32.ofNat bl
  · rw [if_pos (show rowAt S I rs t 0 = nI bl from c), if_pos c]
    obtain ⟨⟨v1, v2⟩, r1, r2⟩ := Lw_place h ht hbl c
    rw [v1, r1, nI_clamp (by omega), nI_clamp (by omega)]
    refine ⟨?_, fun z hz => (up_fr hz).trans (k2 z hz)⟩
    have ew : worth_ (rowAt (im_alS S b 20 8) K rn) (K b) nn (roN I bl (inBlock (rowAt S I rs) (Int32.ofNat bl) t)) = nv (I 5) (I 6) (I 7) (K b) (roN I bl (inBlock (rowAt S I rs) (Int32.ofNat bl) t)) := by
      unfold nv
      rw [worth_congr3 (f := pf (I 5) (I 6) (I 7)) (nodesOk_pf hpg) (by omega) (fun j hj => by
        rw [own_rowN h hb hK hj]
        exact ⟨(Lw_n5 h j hj).symm, (Lw_n6 h j hj).symm, (Lw_n7 h j hj).symm⟩) _ _ r2]
      exact worth_fuel hpg _ _ _ r2 r2 (Nat.lt_succ_self _)
    rw [ew, im_up_upd, k1]
    rfl
  · rw [if_neg (show ¬ rowAt S I rs t 0 = nI bl from c), if_neg c]
    exact ⟨k1, k2⟩
/-- Own's meant -/
theorem ownAll_nat (h : Lw S I rn nn rs ns) (hb : im_n S + 2 = b) {tm : Nat → Nat} (ht : ∀ bl, bl < 4 → I (125 + 3) bl = nI (tm bl) ∧ tm bl ≤ 9) (h128 : 128 < b) : ownAll_ (im_alS S b 20 8) 125 rn nn rs ns b (im_alI I b) b = mnAll I tm 4 (fun _ => 0) := by
  unfold ownAll_
  rw [show (4 : Int32) = nI 4 by decide, loopC_nat0 (by decide)]
  have key := itN_inv (f := fun bl J => ownBlock_ (im_alS S b 20 8) 125 rn nn rs ns b (nI bl) J) (n := 4) (s := im_alI I b) (fun bl K => K b = mnAll I tm bl (fun _ => 0) ∧ ∀ z, z < b → K z = I z) ⟨funext fun q => if_pos rfl, fun z hz => funext fun q => if_neg (by omega)⟩ (fun bl K hbl hK => by
    obtain ⟨k1, k2⟩ := hK
    have t9 := (ht bl hbl).2
    unfold ownBlock_
    rw [nI_clamp (by omega), k2 (125 + 3) h128, (ht bl hbl).1, loopC_nat0 (by omega)]
    have e2 : mnAll I tm (bl + 1) (fun _ => 0) = mnBk I bl (tm bl) (mnAll I tm bl (fun _ => 0)) := itN_s
    rw [e2, ← k1]
    exact itN_inv (f := fun _ K => ownSts_ (im_alS S b 20 8) rn nn rs ns b (nI bl) K) (n := tm bl) (s := K) (fun n L => L b = mnBk I bl n (K b) ∧ ∀ z, z < b → L z = I z) ⟨rfl, k2⟩ (fun n L hn hL => by
      obtain ⟨l1, l2⟩ := hL
      obtain ⟨q1, q2⟩ := ownSts_nat h hb l2 hbl
      refine ⟨?_, fun z hz => (q2 z (by omega)).trans (l2 z hz)⟩
      rw [q1, l1]
      exact itN_s.symm))
  exact key.1
end OwnM
