/-! PURE THEORY, HOMES: registers -/
theorem hb_low {s g : Nat} (hs : s < 32) (hg : g < 32) : hb (bit_ (nI s) - 1) g = decide (g < s) := by
  have e : ∀ s, s < 32 → ∀ g, g < 32 → hb (bit_ (nI s) - 1) g = decide (g < s) := by decide +kernel
  exact e s hs g hg
theorem bits_0 {s : Int32} (h : ∀ k, k < 32 → hb s k = false) : s = 0 := by
  apply Int32.toBitVec_inj.mp
  apply BitVec.eq_of_getLsbD_eq
  intro i hi
  rw [← hb_bit hi, h i hi, ← hb_bit hi, hb_0 hi]
theorem bits_ne {s : Int32} (h : ¬ s = 0) : ∃ k, k < 32 ∧ hb s k = true := by
  apply Classical.byContradiction
  intro hn
  apply h
  refine bits_0 fun k hk => ?_
  cases c : hb s k
  · rfl
  · exact absurd ⟨k, hk, c⟩ hn
theorem hasBit_hb {s x : Int32} (h : hasBit_ s x = true) : ∃ k, k < 32 ∧ x = nI k ∧ hb s k = true := by
  have h0 := h
  unfold hasBit_ at h0
  split at h0
  · cases h0
  · next c =>
    split at h0
    · cases h0
    · next c2 =>
      obtain ⟨k, hk, rfl⟩ := nI_of c
      have hk32 : k < 32 := by
        apply Nat.lt_of_not_le
        intro hle
        exact c2 (by rw [show (32 : Int32) = nI 32 by decide]; exact nI_le hle hk)
      exact ⟨k, hk32, rfl, by rw [← hasBit_nat hk32]; exact h⟩
theorem smallest_nat {s : Int32} (h : ∃ k, k < 11 ∧ hb s k = true) : ∃ k, k < 11 ∧ smallestOf_ s = nI k ∧ hb s k = true := by
  obtain ⟨k0, hk0, hb0⟩ := h
  unfold smallestOf_
  rw [show cnt 0 11 = 11 by decide]
  have key : ∀ (n k : Nat), k + n = 11 → k ≤ k0 → ∃ q, q < 11 ∧ smallN_ s n (nI k) = nI q ∧ hb s q = true := by
    intro n
    induction n with
    | zero => intro k h1 h2; omega
    | succ n ih =>
      intro k h1 h2
      rw [smallN_s, hasBit_nat (by omega)]
      by_cases c : hb s k = true
      · rw [if_pos c]; exact ⟨k, by omega, rfl, c⟩
      · rw [if_neg c, ← nI_succ]
        refine ih (k + 1) (by omega) ?_
        apply Nat.lt_of_le_of_ne h2
        intro e; subst e; exact c hb0
  have := key 11 0 (by omega) (by omega)
  rwa [nI_0] at this
/-- lines and lives, as homes take them -/
def HpOk (I : im_I) (r v N vc : Nat) (fi la : Nat → Nat) (born : Nat → Prop) : Prop :=
  (I r 0 = nI N ∧ I v 0 = nI vc ∧ N ≤ 88 ∧ vc ≤ 88) ∧ (∀ p, p < N → ∃ w, w < 88 ∧ insAt I r p 1 = nI w ∧ born w) ∧
  (∀ w, born w → w < vc ∧ I (v + 1) w = nI (fi w) ∧ I (v + 2) w = nI (la w) ∧ fi w < N ∧ insAt I r (fi w) 1 = nI w ∧ fi w ≤ la w ∧ la w ≤ N)
def HrI (I J : im_I) (h v R : Nat) (kept : Int32) (fi la : Nat → Nat) (born : Nat → Prop) (i : Nat) : Prop :=
  (∀ w, w < 88 → J (h + 1) w = -1 ∨ ∃ g, J (h + 1) w = nI g ∧ g + 3 < R ∧ born w ∧ fi w < i ∧ (¬ I (v + 7) w ≤ 0 → hb kept g = true)) ∧
  (∀ w w' g, w < 88 → w' < 88 → w ≠ w' → g < 32 → J (h + 1) w = nI g → J (h + 1) w' = nI g → la w ≤ fi w' ∨ la w' ≤ fi w)
section Homes
variable {I J : im_I} {h m r v N vc R p : Nat} {fi la : Nat → Nat} {born : Nat → Prop} {kept : Int32}
theorem taken_nat (hv : J v 0 = nI vc) (h88 : vc ≤ 88) (hr : ∀ w, w < 88 → J (h + 1) w = -1 ∨ ∃ g, J (h + 1) w = nI g ∧ g < 32) (pt : Int32) : ∀ g, g < 32 → (hb (takenBehind_ J h v pt) g = true ↔ ∃ w, w < vc ∧ J (h + 1) w = nI g ∧ ¬ J (v + 2) w ≤ pt) := by
  unfold takenBehind_
  rw [hv, loopC_nat0 (by omega)]
  have key := itN_inv (f := fun i t => takenOne_ J h v pt (nI i) t) (n := vc) (s := (0 : Int32)) (fun i t => ∀ g, g < 32 → (hb t g = true ↔ ∃ w, w < i ∧ J (h + 1) w = nI g ∧ ¬ J (v + 2) w ≤ pt))
    (fun g hg => ⟨fun e => absurd e (by rw [hb_0 hg]; decide), fun ⟨w, hw, _⟩ => absurd hw (by omega)⟩) (fun i t hi ht g hg => by
      unfold takenOne_
      simp only [at88 (show i < 88 by omega)]
      have hl : lastOf_ J v (nI i) = J (v + 2) i := at88 (by omega)
      rw [hl]
      rcases hr i (by omega) with e | ⟨g', e, hg'⟩
      · rw [if_pos e, ht g hg]
        constructor
        · rintro ⟨w, w1, w2⟩; exact ⟨w, by omega, w2⟩
        · rintro ⟨w, w1, w2, w3⟩
          by_cases c : w = i
          · subst c; exact absurd (w2.symm.trans e) (nI_m1 (by omega))
          · exact ⟨w, by omega, w2, w3⟩
      · rw [if_neg (by rw [e]; exact nI_m1 (by omega))]
        by_cases c : J (v + 2) i ≤ pt
        · rw [if_pos c, ht g hg]
          constructor
          · rintro ⟨w, w1, w2⟩; exact ⟨w, by omega, w2⟩
          · rintro ⟨w, w1, w2, w3⟩
            by_cases d : w = i
            · subst d; exact absurd c w3
            · exact ⟨w, by omega, w2, w3⟩
        · rw [if_neg c, hb_or hg, e, hb_one hg' hg, Bool.or_eq_true, ht g hg, decide_eq_true_eq]
          constructor
          · rintro (⟨w, w1, w2⟩ | w)
            · exact ⟨w, by omega, w2⟩
            · exact ⟨i, by omega, by rw [e, w], c⟩
          · rintro ⟨w, w1, w2, w3⟩
            by_cases d : w = i
            · subst d; exact Or.inr (nI_inj (by omega) (by omega) (e.symm.trans w2))
            · exact Or.inl ⟨w, by omega, w2, w3⟩)
  exact key
/-- who gives way: the value itself, or one with a register that is allowed and that lives on -/
theorem worst_nat {al pt : Int32} {x : Nat} (hv : J v 0 = nI vc) (h88 : vc ≤ 88) (hx : firstOf_ J v (nI x) = pt) : worstOf_ J h v (nI x) al = nI x ∨ ∃ o, o < vc ∧ worstOf_ J h v (nI x) al = nI o ∧ hasBit_ al (J (h + 1) o) = true ∧ pt < J (v + 2) o := by
  unfold worstOf_
  rw [hv, loopC_nat0 (by omega), hx]
  exact itN_inv (f := fun i w => worstOne_ J h v pt al (nI i) w) (n := vc) (s := nI x) (fun i w => w = nI x ∨ ∃ o, o < i ∧ w = nI o ∧ hasBit_ al (J (h + 1) o) = true ∧ pt < J (v + 2) o) (Or.inl rfl) (fun i w hi hw => by
    unfold worstOne_
    have hl : lastOf_ J v (nI i) = J (v + 2) i := at88 (by omega)
    rw [at88 (by omega), hl]
    split
    · next c => exact Or.inr ⟨i, by omega, rfl, c.1, c.2.1⟩
    · rcases hw with e | ⟨o, o1, o2⟩
      · exact Or.inl e
      · exact Or.inr ⟨o, by omega, o2⟩)
/-- the machine, as homes take it -/
def McOk (I : im_I) (m R : Nat) : Prop := I m 0 = nI R ∧ 5 ≤ R ∧ R ≤ 11 ∧ ∀ g, g < 32 → hb (I m 1) g = true → 2 ≤ g ∧ g + 3 < R
theorem scratch_nat (hm : McOk I m R) : scratch_ I m = nI (R - 3) := by
  unfold scratch_
  rw [hm.1]
  have e : ∀ R, R ≤ 11 → 5 ≤ R → nI R - 3 = nI (R - 3) := by decide
  exact e R hm.2.2.1 hm.2.1
set_option maxHeartbeats 1000000 in
theorem HrI_step (hp : HpOk I r v N vc fi la born) (hm : McOk I m R) (hi : p < N) (hF : ∀ z, z < h ∨ h + 5 < z → J z = I z) (hr : r + 6 < h ∨ h + 5 < r) (hv : v + 8 < h ∨ h + 5 < v) (hmh : m < h ∨ h + 5 < m) (H : HrI I J h v R (I m 1) fi la born p) :
    HrI I (giveROne_ h m r v (nI p) J) h v R (I m 1) fi la born (p + 1) ∧ (∀ z, z ≠ h + 1 → giveROne_ h m r v (nI p) J z = J z) := by
  obtain ⟨⟨p1, p2, p3, p4⟩, p5, p6⟩ := hp
  obtain ⟨H1, H2⟩ := H
  obtain ⟨w, w88, hw, hwb⟩ := p5 p hi
  obtain ⟨b1, b2, b3, b4, b5, b6, b7⟩ := p6 w hwb
  have eR : ∀ q, insAt J r q = insAt I r q := fun q => insAt_fr fun z z1 z2 => hF z (by omega)
  have hwr : writtenBy_ J r (nI p) = nI w := by rw [writtenBy_nat (by omega), eR, hw]
  have hfw : firstOf_ J v (nI w) = nI (fi w) := by unfold firstOf_; rw [at88 w88, hF (v + 1) (by omega)]; exact b2
  have hbirth : isBirth_ J r v (nI p) = decide (nI (fi w) = nI p) := by unfold isBirth_; rw [hwr, hfw]
  have hH1 : ∀ w, w < 88 → J (h + 1) w = -1 ∨ ∃ g, J (h + 1) w = nI g ∧ g + 3 < R ∧ born w ∧ fi w < p + 1 ∧ (¬ I (v + 7) w ≤ 0 → hb (I m 1) g = true) := fun u hu => by
    rcases H1 u hu with e | ⟨g, g1, g2, g3, g4, g5⟩
    · exact Or.inl e
    · exact Or.inr ⟨g, g1, g2, g3, by omega, g5⟩
  unfold giveROne_
  rw [hbirth]
  by_cases c : fi w = p
  · rw [if_neg (by rw [c]; simp)]
    -- w is born here
    have hwn : J (h + 1) w = -1 := by
      rcases H1 w w88 with e | ⟨g, -, -, -, g4, -⟩
      · exact e
      · omega
    have hal : ∀ g, g < 32 → hb (if crossedBy_ J v (nI w) ≤ 0 then bit_ (scratch_ J m) - 1 else J m 1) g = true → g + 3 < R ∧ (¬ I (v + 7) w ≤ 0 → hb (I m 1) g = true) := fun g hg hgb => by
      have e7 : crossedBy_ J v (nI w) = I (v + 7) w := by unfold crossedBy_; rw [at88 w88, hF (v + 7) (by omega)]
      have es : scratch_ J m = scratch_ I m := by unfold scratch_; rw [hF m (by omega)]
      rw [e7, es, scratch_nat hm, hF m (by omega)] at hgb
      by_cases d : I (v + 7) w ≤ 0
      · rw [if_pos d, hb_low (by have := hm.2.2.1; omega) hg] at hgb
        have := of_decide_eq_true hgb
        exact ⟨by omega, fun e => absurd d e⟩
      · rw [if_neg d] at hgb
        exact ⟨(hm.2.2.2 g hg hgb).2, fun _ => hgb⟩
    have hreg32 : ∀ u, u < 88 → J (h + 1) u = -1 ∨ ∃ g, J (h + 1) u = nI g ∧ g < 32 := fun u hu => by
      rcases H1 u hu with e | ⟨g, g1, g2, -⟩
      · exact Or.inl e
      · exact Or.inr ⟨g, g1, by have := hm.2.2.1; omega⟩
    have htk := taken_nat (h := h) (v := v) (vc := vc) (by rw [hF v (by omega)]; exact p2) p4 hreg32 (nI p)
    unfold giveRegister_
    simp only [hwr]
    generalize hAl : (if crossedBy_ J v (nI w) ≤ 0 then bit_ (scratch_ J m) - 1 else J m 1) = al at hal ⊢
    -- a register that is free
    have hset : ∀ g, g < 32 → hb (al &&& (takenBehind_ J h v (nI p) ^^^ -1)) g = true → HrI I (put_ J (h + 1) 88 (nI w) (nI g)) h v R (I m 1) fi la born (p + 1) := fun g hg hgb => by
      rw [hb_and hg, hb_not hg, Bool.and_eq_true, Bool.not_eq_true'] at hgb
      obtain ⟨a1, a2⟩ := hal g hg hgb.1
      have a3 : ∀ u, u < 88 → J (h + 1) u = nI g → la u ≤ p := fun u hu hug => by
        rcases H1 u hu with e | ⟨g', g1, g2, g3, g4, g5⟩
        · exact absurd (hug.symm.trans e) (nI_m1 (by omega))
        · obtain ⟨q1, -, q3, -, -, -, q7⟩ := p6 u g3
          apply Nat.le_of_not_lt
          intro hlt
          have : hb (takenBehind_ J h v (nI p)) g = true := (htk g hg).mpr ⟨u, q1, hug, by
            rw [hF (v + 2) (by omega), q3]
            exact nI_ge hlt (by omega)⟩
          rw [hgb.2] at this
          cases this
      rw [put88 w88]
      refine ⟨fun u hu => ?_, fun u u' g' hu hu' hne hg' e1 e2 => ?_⟩
      · rw [up_row]
        by_cases d : u = w
        · rw [if_pos d]
          exact Or.inr ⟨g, rfl, a1, by rw [d]; exact hwb, by rw [d]; omega, by rw [d]; exact a2⟩
        · rw [if_neg d]; exact hH1 u hu
      · rw [up_row] at e1 e2
        by_cases d : u = w
        · rw [if_pos d] at e1
          rw [if_neg (by omega)] at e2
          have : g = g' := nI_inj (by omega) (by omega) e1
          subst this
          have := a3 u' hu' e2
          rw [d]
          right; omega
        · rw [if_neg d] at e1
          by_cases d' : u' = w
          · rw [if_pos d'] at e2
            have : g = g' := nI_inj (by omega) (by omega) e2
            subst this
            have := a3 u hu e1
            rw [d']
            left; omega
          · rw [if_neg d'] at e2
            exact H2 u u' g' hu hu' hne hg' e1 e2
    by_cases fr0 : al &&& (takenBehind_ J h v (nI p) ^^^ -1) = 0
    · rw [if_pos fr0]
      refine ⟨?_, fun z hz => ?_⟩
      · unfold spillOne_
        simp only
        rcases worst_nat (J := J) (h := h) (v := v) (vc := vc) (x := w) (al := al) (pt := nI p) (by rw [hF v (by omega)]; exact p2) p4 (by rw [hfw, c]) with e | ⟨o, o1, o2, o3, o4⟩
        · rw [if_pos e]; exact ⟨hH1, H2⟩
        · obtain ⟨g, g1, g2, g3⟩ := hasBit_hb o3
          have hoR := H1 o (by omega)
          rcases hoR with e | ⟨g', q1, q2, q3, q4, q5⟩
          · exact absurd (g2.symm.trans e) (nI_m1 (by omega))
          · have hgg : g' = g := nI_inj (by have := hm.2.2.1; omega) (by omega) (q1.symm.trans g2)
            subst hgg
            have hne : o ≠ w := fun e => by
              rw [e] at q4; omega
            rw [o2, if_neg (fun e => hne (nI_inj (by omega) (by omega) e)), at88 (by omega), q1, put88 w88, put88 (by omega)]
            obtain ⟨a1, a2⟩ := hal g' g1 g3
            obtain ⟨-, -, t3, -, -, -, t7⟩ := p6 o q3
            have hlo : p < la o := by
              rw [hF (v + 2) (by omega), t3] at o4
              apply Nat.lt_of_not_le
              intro hle
              exact nI_nlt hle (by omega) o4
            have a3 : ∀ u, u < 88 → u ≠ o → J (h + 1) u = nI g' → la u ≤ p := fun u hu huo hug => by
              rcases H1 u hu with e | ⟨g2', s1, s2, s3, s4, s5⟩
              · exact absurd (hug.symm.trans e) (nI_m1 (by omega))
              · rcases H2 u o g' hu (by omega) huo g1 hug q1 with d | d
                · omega
                · omega
            refine ⟨fun u hu => ?_, fun u u' g2' hu hu' hne' hg' e1 e2 => ?_⟩
            · rw [up_row, up_row]
              by_cases d : u = o
              · rw [if_pos d]; exact Or.inl rfl
              · rw [if_neg d]
                by_cases d' : u = w
                · rw [if_pos d']
                  exact Or.inr ⟨g', rfl, a1, by rw [d']; exact hwb, by rw [d']; omega, by rw [d']; exact a2⟩
                · rw [if_neg d']; exact hH1 u hu
            · rw [up_row, up_row] at e1 e2
              by_cases d1 : u = o
              · rw [if_pos d1] at e1
                exact absurd e1.symm (nI_m1 (by omega))
              · rw [if_neg d1] at e1
                by_cases d2 : u' = o
                · rw [if_pos d2] at e2
                  exact absurd e2.symm (nI_m1 (by omega))
                · rw [if_neg d2] at e2
                  by_cases d3 : u = w
                  · rw [if_pos d3] at e1
                    rw [if_neg (by omega)] at e2
                    have : g' = g2' := nI_inj (by omega) (by omega) e1
                    subst this
                    have := a3 u' hu' d2 e2
                    rw [d3]
                    right; omega
                  · rw [if_neg d3] at e1
                    by_cases d4 : u' = w
                    · rw [if_pos d4] at e2
                      have : g' = g2' := nI_inj (by omega) (by omega) e2
                      subst this
                      have := a3 u hu d1 e1
                      rw [d4]
                      left; omega
                    · rw [if_neg d4] at e2
                      exact H2 u u' g2' hu hu' hne' hg' e1 e2
      · unfold spillOne_
        split
        · rfl
        · rw [put_fr hz, put_fr hz]
    · rw [if_neg fr0]
      refine ⟨?_, fun z hz => put_fr hz⟩
      by_cases d : hasBit_ (al &&& (takenBehind_ J h v (nI p) ^^^ -1)) (likedRegister_ J h m r (nI p)) = false
      · rw [if_pos d]
        obtain ⟨k, k1, k2⟩ := bits_ne fr0
        have hk : k < 11 := by
          have k3 := k2
          rw [hb_and k1, Bool.and_eq_true] at k3
          have := (hal k k1 k3.1).1
          have := hm.2.2.1
          omega
        obtain ⟨g, g1, g2, g3⟩ := smallest_nat ⟨k, hk, k2⟩
        rw [g2]
        exact hset g (by omega) g3
      · rw [if_neg d]
        obtain ⟨g, g1, g2, g3⟩ := hasBit_hb (Bool.of_not_eq_false d)
        rw [g2]
        exact hset g g1 g3
  · rw [if_pos (decide_eq_false (fun e => c (nI_inj (by omega) (by omega) e)))]
    exact ⟨⟨hH1, H2⟩, fun z hz => rfl⟩
end Homes
