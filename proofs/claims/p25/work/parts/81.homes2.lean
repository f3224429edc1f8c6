/-! PURE THEORY, HOMES: slots -/
section Slots
variable {I J K : im_I} {h m r v N vc R p : Nat} {fi la : Nat → Nat} {born : Nat → Prop} {kept : Int32}
/-- the slots that are taken at a point -/
theorem markAll_nat (hv : J v 0 = nI vc) (h88 : vc ≤ 88) (hvh : v + 8 < h ∨ h + 5 < v) (hs : ∀ w, w < 88 → J (h + 2) w = -1 ∨ ∃ s, J (h + 2) w = nI s ∧ s < 88) (pt : Int32) :
    (∀ s, s < 88 → (markAll_ J h v pt (h + 5) s = 1 ↔ ∃ w, w < vc ∧ J (h + 2) w = nI s ∧ ¬ J (v + 2) w < pt)) ∧ (∀ z, z ≠ h + 5 → markAll_ J h v pt z = J z) := by
  unfold markAll_
  rw [hv, loopC_nat0 (by omega)]
  refine itN_inv (f := fun i E => markOne_ h v pt (nI i) E) (n := vc) (s := fillL_ J (h + 5) 88 0) (fun i E => (∀ s, s < 88 → (E (h + 5) s = 1 ↔ ∃ w, w < i ∧ J (h + 2) w = nI s ∧ ¬ J (v + 2) w < pt)) ∧ (∀ z, z ≠ h + 5 → E z = J z))
    ⟨fun s hs => ⟨fun e => absurd e (by rw [fillL_row (by decide) hs]; decide), fun ⟨w, hw, _⟩ => absurd hw (by omega)⟩, fun z hz => fillL_fr hz⟩ (fun i E hi hE => ?_)
  obtain ⟨e1, e2⟩ := hE
  unfold markOne_
  have hl : lastOf_ E v (nI i) = J (v + 2) i := by unfold lastOf_; rw [at88 (by omega), e2 _ (by omega)]
  rw [hl, at88 (by omega), e2 (h + 2) (by omega)]
  rcases hs i (by omega) with e | ⟨s0, e, hs0⟩
  · rw [if_pos e]
    refine ⟨fun s hs88 => ?_, e2⟩
    rw [e1 s hs88]
    constructor
    · rintro ⟨w, w1, w2⟩; exact ⟨w, by omega, w2⟩
    · rintro ⟨w, w1, w2, w3⟩
      by_cases c : w = i
      · subst c; exact absurd (w2.symm.trans e) (nI_m1 (by omega))
      · exact ⟨w, by omega, w2, w3⟩
  · rw [if_neg (by rw [e]; exact nI_m1 (by omega))]
    by_cases c : J (v + 2) i < pt
    · rw [if_pos c]
      refine ⟨fun s hs88 => ?_, e2⟩
      rw [e1 s hs88]
      constructor
      · rintro ⟨w, w1, w2⟩; exact ⟨w, by omega, w2⟩
      · rintro ⟨w, w1, w2, w3⟩
        by_cases d : w = i
        · subst d; exact absurd c w3
        · exact ⟨w, by omega, w2, w3⟩
    · rw [if_neg c, e, put88 hs0]
      refine ⟨fun s hs88 => ?_, fun z hz => (up_fr hz).trans (e2 z hz)⟩
      rw [up_row]
      by_cases d : s = s0
      · rw [if_pos d]
        exact ⟨fun _ => ⟨i, by omega, by rw [e, d], c⟩, fun _ => rfl⟩
      · rw [if_neg d, e1 s hs88]
        constructor
        · rintro ⟨w, w1, w2⟩; exact ⟨w, by omega, w2⟩
        · rintro ⟨w, w1, w2, w3⟩
          by_cases d2 : w = i
          · subst d2; exact absurd (nI_inj (by omega) (by omega) (w2.symm.trans e)) d
          · exact ⟨w, by omega, w2, w3⟩
theorem freeN_nat {k0 : Nat} (hk0 : k0 < 88) (hf : ¬ J (h + 5) k0 = 1) : ∃ s, s ≤ k0 ∧ freeN_ J h (cnt 0 88) 0 = nI s ∧ ¬ J (h + 5) s = 1 := by
  rw [show cnt 0 88 = 88 by decide]
  have key : ∀ (n k : Nat), k + n = 88 → k ≤ k0 → ∃ s, s ≤ k0 ∧ freeN_ J h n (nI k) = nI s ∧ ¬ J (h + 5) s = 1 := by
    intro n
    induction n with
    | zero => intro k h1 h2; omega
    | succ n ih =>
      intro k h1 h2
      rw [freeN_s, at88 (by omega)]
      by_cases c : J (h + 5) k = 1
      · rw [if_pos c, ← nI_succ]
        refine ih (k + 1) (by omega) ?_
        apply Nat.lt_of_le_of_ne h2
        intro e; subst e; exact hf c
      · rw [if_neg c]
        exact ⟨k, h2, rfl, c⟩
  have := key 88 0 (by omega) (by omega)
  rwa [nI_0] at this
def HsI (I J : im_I) (h v r : Nat) (fi la : Nat → Nat) (born : Nat → Prop) (i : Nat) : Prop :=
  (∃ k, k ≤ i ∧ J h 0 = nI k ∧ (k = 0 ↔ ∀ w, w < 88 → born w → fi w < i → J (h + 1) w ≠ -1)) ∧
  (∃ sc, sc ≤ i ∧ J h 2 = nI sc ∧ ∀ w, w < 88 → J (h + 2) w = -1 ∨ ∃ s, J (h + 2) w = nI s ∧ s < sc ∧ born w ∧ fi w < i ∧ J (h + 1) w = -1 ∧ J (h + 3) w ≠ 1) ∧
  (∀ w, w < 88 → J (h + 3) w = 0 ∨ (J (h + 3) w = 1 ∧ born w ∧ fi w < i ∧ J (h + 1) w = -1 ∧ J (h + 2) w = -1 ∧ I (v + 5) w = 1 ∧ insAt I r (fi w) 0 = 0 ∧ J (h + 4) w = insAt I r (fi w) 5)) ∧
  (∀ w, w < 88 → born w → fi w < i → J (h + 1) w = -1 → J (h + 3) w = 1 ∨ ∃ s, s < 88 ∧ J (h + 2) w = nI s) ∧
  (∀ w w' s, w < 88 → w' < 88 → w ≠ w' → s < 88 → J (h + 2) w = nI s → J (h + 2) w' = nI s → la w < fi w' ∨ la w' < fi w)
set_option maxHeartbeats 1000000 in
theorem HsI_step (hp : HpOk I r v N vc fi la born) (hi : p < N) (hF : ∀ z, z < h ∨ h + 5 < z → J z = I z) (hr : r + 6 < h ∨ h + 5 < r) (hv : v + 8 < h ∨ h + 5 < v) (H : HsI I J h v r fi la born p) :
    HsI I (giveSOne_ h r v (nI p) J) h v r fi la born (p + 1) ∧ (giveSOne_ h r v (nI p) J (h + 1) = J (h + 1)) := by
  obtain ⟨⟨p1, p2, p3, p4⟩, p5, p6⟩ := hp
  obtain ⟨⟨k, k1, k2, k3⟩, ⟨sc, s1, s2, s3⟩, hM, hT, hD⟩ := H
  obtain ⟨w, w88, hw, hwb⟩ := p5 p hi
  obtain ⟨b1, b2, b3, b4, b5, b6, b7⟩ := p6 w hwb
  have eR : ∀ q, insAt J r q = insAt I r q := fun q => insAt_fr fun z z1 z2 => hF z (by omega)
  have hwr : writtenBy_ J r (nI p) = nI w := by rw [writtenBy_nat (by omega), eR, hw]
  have hfw : firstOf_ J v (nI w) = nI (fi w) := by unfold firstOf_; rw [at88 w88, hF (v + 1) (by omega)]; exact b2
  have hbirth : isBirth_ J r v (nI p) = decide (nI (fi w) = nI p) := by unfold isBirth_; rw [hwr, hfw]
  have huniq : ∀ u, u < 88 → born u → fi u < p + 1 → fi u < p ∨ (u = w ∧ fi w = p) := fun u hu hub hlt => by
    by_cases c : fi u < p
    · exact Or.inl c
    · have e : fi u = p := by omega
      obtain ⟨-, -, -, -, q5, -⟩ := p6 u hub
      rw [e, hw] at q5
      have : w = u := nI_inj (by omega) (by omega) q5
      subst this
      exact Or.inr ⟨rfl, e⟩
  unfold giveSOne_
  rw [hbirth, hwr]
  by_cases c : fi w = p
  · rw [if_neg (by rw [c]; simp)]
    have hsp : isSpilled_ J h (nI w) = decide (J (h + 1) w = -1) := by unfold isSpilled_; rw [at88 w88]
    rw [hsp]
    by_cases d : J (h + 1) w = -1
    · rw [if_neg (by rw [d]; simp), k2, ← nI_succ]
      have f0 : ∀ z, z ≠ h → im_up J h 0 (nI (k + 1)) z = J z := fun z hz => up_fr hz
      have hw2 : J (h + 2) w = -1 := by
        rcases s3 w w88 with e | ⟨s, -, -, -, q, -⟩
        · exact e
        · omega
      have hw3 : J (h + 3) w = 0 := by
        rcases hM w w88 with e | ⟨-, -, q, -⟩
        · exact e
        · omega
      unfold giveSlot_
      have hwr' : writtenBy_ (im_up J h 0 (nI (k + 1))) r (nI p) = nI w := by
        unfold writtenBy_ at hwr ⊢
        rw [f0 (r + 2) (by omega)]
        exact hwr
      have eWo : writesOf_ (im_up J h 0 (nI (k + 1))) v (nI w) = I (v + 5) w := by unfold writesOf_; rw [at88 w88, f0 (v + 5) (by omega), hF (v + 5) (by omega)]
      have eK : kindOf_ (im_up J h 0 (nI (k + 1))) r (nI p) = insAt I r p 0 := by rw [kindOf_nat (by omega), insAt_fr (I := J) fun z z1 z2 => f0 z (by omega), eR]
      simp only [hwr', eWo, eK, put88 w88]
      by_cases e : I (v + 5) w = 1 ∧ insAt I r p 0 = 0
      · rw [if_pos e]
        have eN : numberOf_ (im_up (im_up J h 0 (nI (k + 1))) (h + 3) w 1) r (nI p) = insAt I r p 5 := by rw [numberOf_nat (by omega), insAt_fr (I := J) fun z z1 z2 => (up_fr (by omega)).trans (f0 z (by omega)), eR]
        rw [eN]
        generalize im_up (im_up (im_up J h 0 (nI (k + 1))) (h + 3) w 1) (h + 4) w (insAt I r p 5) h 1 + 1 = u
        have F : ∀ z, z ≠ h → z ≠ h + 3 → z ≠ h + 4 → im_up (im_up (im_up (im_up J h 0 (nI (k + 1))) (h + 3) w 1) (h + 4) w (insAt I r p 5)) h 1 u z = J z := fun z z0 z3 z4 => by rw [up_fr z0, up_fr z4, up_fr z3, up_fr z0]
        have F3 : ∀ q, im_up (im_up (im_up (im_up J h 0 (nI (k + 1))) (h + 3) w 1) (h + 4) w (insAt I r p 5)) h 1 u (h + 3) q = if q = w then 1 else J (h + 3) q := fun q => by rw [up_fr (by omega), up_fr (by omega), up_row, up_fr (by omega)]
        have F4 : ∀ q, im_up (im_up (im_up (im_up J h 0 (nI (k + 1))) (h + 3) w 1) (h + 4) w (insAt I r p 5)) h 1 u (h + 4) q = if q = w then insAt I r p 5 else J (h + 4) q := fun q => by rw [up_fr (by omega), up_row, up_fr (by omega), up_fr (by omega)]
        refine ⟨⟨⟨k + 1, by omega, ?_, ?_⟩, ⟨sc, by omega, ?_, fun q hq => ?_⟩, fun q hq => ?_, fun q hq hqb hqf hq1 => ?_, fun q q' s hq hq' hne hs e1 e2 => ?_⟩, F (h + 1) (by omega) (by omega) (by omega)⟩
        · rw [up_ne (by decide), up_fr (by omega), up_fr (by omega), im_up_same]
        · rw [F (h + 1) (by omega) (by omega) (by omega)]
          exact ⟨fun hh => absurd hh (by omega), fun hh => absurd d (hh w w88 hwb (by omega))⟩
        · rw [up_ne (by decide), up_fr (by omega), up_fr (by omega), up_ne (by decide)]; exact s2
        · rw [F (h + 1) (by omega) (by omega) (by omega), F (h + 2) (by omega) (by omega) (by omega), F3]
          rcases s3 q hq with y | ⟨s, y1, y2, y3, y4, y5, y6⟩
          · exact Or.inl y
          · exact Or.inr ⟨s, y1, y2, y3, by omega, y5, by rw [if_neg (by intro hqw; subst hqw; exact absurd (y1.symm.trans hw2) (nI_m1 (by omega)))]; exact y6⟩
        · rw [F (h + 1) (by omega) (by omega) (by omega), F (h + 2) (by omega) (by omega) (by omega), F3, F4]
          by_cases g : q = w
          · rw [if_pos g, if_pos g]
            subst g
            exact Or.inr ⟨rfl, hwb, by omega, d, hw2, e.1, by rw [c]; exact e.2, by rw [c]⟩
          · rw [if_neg g, if_neg g]
            rcases hM q hq with y | ⟨y1, y2, y3, y4⟩
            · exact Or.inl y
            · exact Or.inr ⟨y1, y2, by omega, y4⟩
        · rw [F (h + 1) (by omega) (by omega) (by omega)] at hq1
          rw [F (h + 2) (by omega) (by omega) (by omega), F3]
          by_cases g : q = w
          · rw [if_pos g]; exact Or.inl rfl
          · rw [if_neg g]
            rcases huniq q hq hqb hqf with y | ⟨y, -⟩
            · exact hT q hq hqb y hq1
            · exact absurd y g
        · rw [F (h + 2) (by omega) (by omega) (by omega)] at e1 e2
          exact hD q q' s hq hq' hne hs e1 e2
      · rw [if_neg e]
        have hs88 : ∀ u, u < 88 → im_up J h 0 (nI (k + 1)) (h + 2) u = -1 ∨ ∃ s, im_up J h 0 (nI (k + 1)) (h + 2) u = nI s ∧ s < 88 := fun u hu => by
          rw [f0 (h + 2) (by omega)]
          rcases s3 u hu with y | ⟨s, y1, y2, -⟩
          · exact Or.inl y
          · exact Or.inr ⟨s, y1, by omega⟩
        obtain ⟨M1, M2⟩ := markAll_nat (J := im_up J h 0 (nI (k + 1))) (h := h) (v := v) (vc := vc) (by rw [f0 v (by omega), hF v (by omega)]; exact p2) p4 hv hs88 (nI p)
        rw [f0 (h + 2) (by omega), f0 (v + 2) (by omega), hF (v + 2) (by omega)] at M1
        unfold firstSlotFree_
        generalize markAll_ (im_up J h 0 (nI (k + 1))) h v (nI p) = M at M1 M2 ⊢
        have hfree : ¬ M (h + 5) sc = 1 := by
          rw [M1 sc (by omega)]
          rintro ⟨u, u1, u2, -⟩
          rcases s3 u (by omega) with y | ⟨s, y1, y2, -⟩
          · exact absurd (u2.symm.trans y) (nI_m1 (by omega))
          · have := nI_inj (by omega) (by omega) (u2.symm.trans y1)
            omega
        obtain ⟨s0, q1, q2, q3⟩ := freeN_nat (show sc < 88 by omega) hfree
        rw [q2]
        have hnot : ∀ u, u < 88 → J (h + 2) u = nI s0 → la u < p := fun u hu hus => by
          rcases s3 u hu with y | ⟨s, y1, y2, y3, -⟩
          · exact absurd (hus.symm.trans y) (nI_m1 (by omega))
          · obtain ⟨t1, -, t3, -, -, -, t7⟩ := p6 u y3
            apply Nat.lt_of_not_le
            intro hle
            exact q3 ((M1 s0 (by omega)).mpr ⟨u, t1, hus, by rw [t3]; exact nI_nlt hle (by omega)⟩)
        have hM2 : im_up M (h + 2) w (nI s0) h 2 = nI sc := by rw [up_fr (by omega), M2 h (by omega), up_ne (by decide)]; exact s2
        rw [hM2, ← nI_succ, max_nat (by omega) (by omega)]
        have F : ∀ z, z ≠ h → z ≠ h + 2 → z ≠ h + 5 → im_up (im_up M (h + 2) w (nI s0)) h 2 (nI (max sc (s0 + 1))) z = J z := fun z z0 z2 z5 => by rw [up_fr z0, up_fr z2, M2 z z5, f0 z z0]
        have F2 : ∀ q, im_up (im_up M (h + 2) w (nI s0)) h 2 (nI (max sc (s0 + 1))) (h + 2) q = if q = w then nI s0 else J (h + 2) q := fun q => by rw [up_fr (by omega), up_row, M2 _ (by omega), f0 _ (by omega)]
        refine ⟨⟨⟨k + 1, by omega, ?_, ?_⟩, ⟨max sc (s0 + 1), by omega, im_up_same, fun q hq => ?_⟩, fun q hq => ?_, fun q hq hqb hqf hq1 => ?_, fun q q' s hq hq' hne hs e1 e2 => ?_⟩, F (h + 1) (by omega) (by omega) (by omega)⟩
        · rw [up_ne (by decide), up_fr (by omega), M2 h (by omega), im_up_same]
        · rw [F (h + 1) (by omega) (by omega) (by omega)]
          exact ⟨fun hh => absurd hh (by omega), fun hh => absurd d (hh w w88 hwb (by omega))⟩
        · rw [F (h + 1) (by omega) (by omega) (by omega), F (h + 3) (by omega) (by omega) (by omega), F2]
          by_cases g : q = w
          · rw [if_pos g]
            subst g
            exact Or.inr ⟨s0, rfl, by omega, hwb, by omega, d, by rw [hw3]; decide⟩
          · rw [if_neg g]
            rcases s3 q hq with y | ⟨s, y1, y2, y3, y4, y5⟩
            · exact Or.inl y
            · exact Or.inr ⟨s, y1, by omega, y3, by omega, y5⟩
        · rw [F (h + 1) (by omega) (by omega) (by omega), F (h + 3) (by omega) (by omega) (by omega), F (h + 4) (by omega) (by omega) (by omega), F2]
          by_cases g : q = w
          · subst g; exact Or.inl hw3
          · rw [if_neg g]
            rcases hM q hq with y | ⟨y1, y2, y3, y4⟩
            · exact Or.inl y
            · exact Or.inr ⟨y1, y2, by omega, y4⟩
        · rw [F (h + 1) (by omega) (by omega) (by omega)] at hq1
          rw [F (h + 3) (by omega) (by omega) (by omega), F2]
          by_cases g : q = w
          · rw [if_pos g]; exact Or.inr ⟨s0, by omega, rfl⟩
          · rw [if_neg g]
            rcases huniq q hq hqb hqf with y | ⟨y, -⟩
            · exact hT q hq hqb y hq1
            · exact absurd y g
        · rw [F2] at e1 e2
          by_cases g : q = w
          · rw [if_pos g] at e1
            rw [if_neg (by omega)] at e2
            have : s0 = s := nI_inj (by omega) (by omega) e1
            subst this
            have := hnot q' hq' e2
            rw [g]; right; omega
          · rw [if_neg g] at e1
            by_cases g' : q' = w
            · rw [if_pos g'] at e2
              have : s0 = s := nI_inj (by omega) (by omega) e2
              subst this
              have := hnot q hq e1
              rw [g']; left; omega
            · rw [if_neg g'] at e2
              exact hD q q' s hq hq' hne hs e1 e2
    · rw [if_pos (decide_eq_false d)]
      refine ⟨⟨⟨k, by omega, k2, ?_⟩, ⟨sc, by omega, s2, fun q hq => ?_⟩, fun q hq => ?_, fun q hq hqb hqf hq1 => ?_, hD⟩, rfl⟩
      · rw [k3]
        constructor
        · intro hh q hq hqb hqf
          rcases huniq q hq hqb hqf with y | ⟨y, -⟩
          · exact hh q hq hqb y
          · rw [y]; exact d
        · intro hh q hq hqb hqf
          exact hh q hq hqb (by omega)
      · rcases s3 q hq with y | ⟨s, y1, y2, y3, y4, y5⟩
        · exact Or.inl y
        · exact Or.inr ⟨s, y1, y2, y3, by omega, y5⟩
      · rcases hM q hq with y | ⟨y1, y2, y3, y4⟩
        · exact Or.inl y
        · exact Or.inr ⟨y1, y2, by omega, y4⟩
      · rcases huniq q hq hqb hqf with y | ⟨y, -⟩
        · exact hT q hq hqb y hq1
        · rw [y] at hq1; exact absurd hq1 d
  · rw [if_pos (decide_eq_false (fun e => c (nI_inj (by omega) (by omega) e)))]
    have hl : ∀ q, q < 88 → born q → fi q < p + 1 → fi q < p := fun q hq hqb hqf => by
      rcases huniq q hq hqb hqf with y | ⟨-, y⟩
      · exact y
      · exact absurd y c
    refine ⟨⟨⟨k, by omega, k2, ?_⟩, ⟨sc, by omega, s2, fun q hq => ?_⟩, fun q hq => ?_, fun q hq hqb hqf hq1 => hT q hq hqb (hl q hq hqb hqf) hq1, hD⟩, rfl⟩
    · rw [k3]
      exact ⟨fun hh q hq hqb hqf => hh q hq hqb (hl q hq hqb hqf), fun hh q hq hqb hqf => hh q hq hqb (by omega)⟩
    · rcases s3 q hq with y | ⟨s, y1, y2, y3, y4, y5⟩
      · exact Or.inl y
      · exact Or.inr ⟨s, y1, y2, y3, by omega, y5⟩
    · rcases hM q hq with y | ⟨y1, y2, y3, y4⟩
      · exact Or.inl y
      · exact Or.inr ⟨y1, y2, by omega, y4⟩
end Slots
