/-- what is known of homes -/
def HmOk (J : im_I) (h v r m : Nat) (N R : Nat) (fi la : Nat → Nat) (born : Nat → Prop) : Prop :=
  (∀ w, w < 88 → J (h + 1) w = -1 ∨ ∃ g, J (h + 1) w = nI g ∧ g + 3 < R ∧ born w ∧ (¬ J (v + 7) w ≤ 0 → hb (J m 1) g = true)) ∧
  (∀ w w' g, w < 88 → w' < 88 → w ≠ w' → g < 32 → J (h + 1) w = nI g → J (h + 1) w' = nI g → la w ≤ fi w' ∨ la w' ≤ fi w) ∧
  (∀ w, w < 88 → J (h + 2) w = -1 ∨ ∃ s, J (h + 2) w = nI s ∧ s < 88 ∧ born w ∧ J (h + 1) w = -1 ∧ J (h + 3) w ≠ 1) ∧
  (∀ w w' s, w < 88 → w' < 88 → w ≠ w' → s < 88 → J (h + 2) w = nI s → J (h + 2) w' = nI s → la w < fi w' ∨ la w' < fi w) ∧
  (∀ w, w < 88 → J (h + 3) w = 0 ∨ (J (h + 3) w = 1 ∧ born w ∧ J (h + 1) w = -1 ∧ J (h + 2) w = -1 ∧ J (v + 5) w = 1 ∧ insAt J r (fi w) 0 = 0 ∧ J (h + 4) w = insAt J r (fi w) 5)) ∧
  (∀ w, w < 88 → born w → J (h + 1) w = -1 → J (h + 3) w = 1 ∨ ∃ s, s < 88 ∧ J (h + 2) w = nI s) ∧
  (J h 0 = 0 ↔ ∀ w, w < 88 → born w → J (h + 1) w ≠ -1) ∧ (J h 2 = 0 → ∀ w, w < 88 → J (h + 2) w = -1) ∧ McOk J m R
set_option maxHeartbeats 1000000 in
theorem give_Hm {I : im_I} {h m r v N vc R : Nat} {fi la : Nat → Nat} {born : Nat → Prop} (hp : HpOk I r v N vc fi la born) (hm : McOk I m R) (hr : r + 6 < h ∨ h + 5 < r) (hv : v + 8 < h ∨ h + 5 < v) (hmh : m < h ∨ h + 5 < m) : HmOk (give_ I h m r v) h v r m N R fi la born := by
  have hN : N ≤ 88 := hp.1.2.2.1
  have hrN : I r 0 = nI N := hp.1.1
  -- the first loop
  have e0 : ∀ z, z < h ∨ h + 5 < z → give0_ I h z = I z := fun z hz => give0_fr hz
  have hdef0 : give0_ I h = fillL_ (fillL_ (fillL_ (im_up (im_up (im_up I h 0 0) h 1 0) h 2 0) (h + 1) 88 (-1)) (h + 2) 88 (-1)) (h + 3) 88 0 := rfl
  have h1 : HrI I (give1_ I h m r v) h v R (I m 1) fi la born N ∧ (∀ z, z ≠ h + 1 → give1_ I h m r v z = give0_ I h z) := by
    unfold give1_
    rw [hrN, loopC_nat0 (by omega)]
    refine itN_inv (f := fun p J => giveROne_ h m r v (nI p) J) (fun i J => HrI I J h v R (I m 1) fi la born i ∧ ∀ z, z ≠ h + 1 → J z = give0_ I h z) ⟨⟨fun w hw => Or.inl ?_, fun w w' g hw hw' hne hg e1 e2 => ?_⟩, fun z hz => rfl⟩ (fun p J hpN hJ => ?_)
    · rw [hdef0, fillL_fr (by omega), fillL_fr (by omega), fillL_row (by decide) hw]
    · rw [hdef0, fillL_fr (by omega), fillL_fr (by omega), fillL_row (by decide) hw] at e1
      exact absurd e1.symm (nI_m1 (by omega))
    · obtain ⟨a1, a2⟩ := hJ
      obtain ⟨b1, b2⟩ := HrI_step hp hm hpN (fun z hz => (a2 z (by omega)).trans (e0 z hz)) hr hv hmh a1
      exact ⟨b1, fun z hz => (b2 z hz).trans (a2 z hz)⟩
  obtain ⟨⟨R1, R2⟩, R3⟩ := h1
  have h2 : HsI I (give2_ I h m r v) h v r fi la born N ∧ (give2_ I h m r v (h + 1) = give1_ I h m r v (h + 1)) ∧ (∀ z, z < h ∨ h + 5 < z → give2_ I h m r v z = I z) := by
    refine ⟨?_, ?_, fun z hz => give2_fr hz⟩
    all_goals
      have key : HsI I (give2_ I h m r v) h v r fi la born N ∧ (give2_ I h m r v (h + 1) = give1_ I h m r v (h + 1)) ∧ (∀ z, z < h ∨ h + 5 < z → give2_ I h m r v z = I z) := by
        unfold give2_
        rw [hrN, loopC_nat0 (by omega)]
        refine itN_inv (f := fun p J => giveSOne_ h r v (nI p) J) (fun i J => HsI I J h v r fi la born i ∧ (J (h + 1) = give1_ I h m r v (h + 1)) ∧ ∀ z, z < h ∨ h + 5 < z → J z = I z) ⟨⟨⟨0, Nat.le_refl _, ?_, ?_⟩, ⟨0, Nat.le_refl _, ?_, fun w hw => Or.inl ?_⟩, fun w hw => Or.inl ?_, fun w hw _ hf => absurd hf (by omega), fun w w' s hw hw' hne hs e1 e2 => ?_⟩, rfl, fun z hz => give1_fr hz⟩ (fun p J hpN hJ => ?_)
        · rw [R3 h (by omega), hdef0, fillL_fr (by omega), fillL_fr (by omega), fillL_fr (by omega), up_ne (by decide), up_ne (by decide), im_up_same]; exact nI_0.symm
        · exact ⟨fun _ w _ _ hf => absurd hf (by omega), fun _ => rfl⟩
        · rw [R3 h (by omega), hdef0, fillL_fr (by omega), fillL_fr (by omega), fillL_fr (by omega), im_up_same]; exact nI_0.symm
        · rw [R3 (h + 2) (by omega), hdef0, fillL_fr (by omega), fillL_row (by decide) hw]
        · rw [R3 (h + 3) (by omega), hdef0, fillL_row (by decide) hw]
        · rw [R3 (h + 2) (by omega), hdef0, fillL_fr (by omega), fillL_row (by decide) hw] at e1
          exact absurd e1.symm (nI_m1 (by omega))
        · obtain ⟨a1, a2, a3⟩ := hJ
          obtain ⟨b1, b2⟩ := HsI_step hp hpN a3 hr hv a1
          refine ⟨b1, b2.trans a2, fun z hz => (giveSOne_fr hz).trans (a3 z hz)⟩
    · exact key.1
    · exact key.2.1
  obtain ⟨⟨⟨k, k1, k2, k3⟩, ⟨sc, s1, s2, s3⟩, hM, hT, hD⟩, g1, gF⟩ := h2
  have hlast : ∀ z, z ≠ h → give_ I h m r v z = give2_ I h m r v z := fun z hz => (up_fr hz).trans (up_fr hz)
  have hl0 : give_ I h m r v h 0 = nI k := by
    show im_up (im_up (give2_ I h m r v) h 3 _) h 3 _ h 0 = _
    rw [up_ne (by decide), up_ne (by decide)]; exact k2
  have hl2 : give_ I h m r v h 2 = nI sc := by
    show im_up (im_up (give2_ I h m r v) h 3 _) h 3 _ h 2 = _
    rw [up_ne (by decide), up_ne (by decide)]; exact s2
  generalize give_ I h m r v = J at hlast hl0 hl2 ⊢
  have F : ∀ z, z < h ∨ h + 5 < z → J z = I z := fun z hz => (hlast z (by omega)).trans (gF z hz)
  have eR : ∀ q, insAt J r q = insAt I r q := fun q => insAt_fr fun z z1 z2 => F z (by omega)
  have eh1 : J (h + 1) = give1_ I h m r v (h + 1) := (hlast (h + 1) (by omega)).trans g1
  have eh1' : J (h + 1) = give2_ I h m r v (h + 1) := hlast (h + 1) (by omega)
  have hfN : ∀ w, born w → fi w < N := fun w hw => (hp.2.2 w hw).2.2.2.1
  refine ⟨fun w hw => ?_, fun w w' g hw hw' hne hg e1 e2 => ?_, fun w hw => ?_, fun w w' s hw hw' hne hs e1 e2 => ?_, fun w hw => ?_, fun w hw hb hreg => ?_, ?_, fun hz w hw => ?_, ?_⟩
  · rw [eh1, F (v + 7) (by omega), F m (by omega)]
    rcases R1 w hw with e | ⟨g, q1, q2, q3, q4, q5⟩
    · exact Or.inl e
    · exact Or.inr ⟨g, q1, q2, q3, q5⟩
  · rw [eh1] at e1 e2
    exact R2 w w' g hw hw' hne hg e1 e2
  · rw [eh1', hlast (h + 2) (by omega), hlast (h + 3) (by omega)]
    rcases s3 w hw with e | ⟨s, q1, q2, q3, q4, q5, q6⟩
    · exact Or.inl e
    · exact Or.inr ⟨s, q1, by omega, q3, q5, q6⟩
  · rw [hlast (h + 2) (by omega)] at e1 e2
    exact hD w w' s hw hw' hne hs e1 e2
  · rw [eh1', hlast (h + 2) (by omega), hlast (h + 3) (by omega), hlast (h + 4) (by omega), F (v + 5) (by omega), eR]
    rcases hM w hw with e | ⟨q1, q2, q3, q4⟩
    · exact Or.inl e
    · exact Or.inr ⟨q1, q2, q4⟩
  · rw [eh1'] at hreg
    rw [hlast (h + 2) (by omega), hlast (h + 3) (by omega)]
    exact hT w hw hb (hfN w hb) hreg
  · rw [hl0, eh1']
    constructor
    · intro e w hw hb
      have : k = 0 := by
        apply Classical.byContradiction
        intro hne
        exact nI_ne0 (by omega) (by omega) e
      exact k3.mp this w hw hb (hfN w hb)
    · intro hh
      rw [k3.mpr (fun w hw hb _ => hh w hw hb)]
      exact nI_0
  · rw [hl2] at hz
    have hsc : sc = 0 := by
      apply Classical.byContradiction
      intro hne
      exact nI_ne0 (by omega) (by omega) hz
    rw [hlast (h + 2) (by omega)]
    rcases s3 w hw with e | ⟨s, q1, q2, -⟩
    · exact e
    · omega
  · unfold McOk
    rw [F m (by omega)]
    exact hm
/-- lines and lives make what homes take -/
theorem Hp_of {J : im_I} {a N : Nat} {st : Nat → Nat} (hL : LnOk J a N st) (hV : LvOk J a N st) : ∃ vc, HpOk J (a + 10) (a + 17) N vc (fun w => ofN (J (a + 18) w)) (fun w => ofN (J (a + 19) w)) (fun w => w < 88 ∧ ∃ q, q < N ∧ insAt J (a + 10) q 1 = nI w) := by
  obtain ⟨⟨l1, l2, -⟩, lO, -⟩ := hL
  obtain ⟨⟨vc, v1, v2, v3⟩, v4, -⟩ := hV
  refine ⟨vc, ⟨l1, v2, l2, v1⟩, fun p hp => ?_, fun w hw => ?_⟩
  · obtain ⟨-, ⟨w, w1, w2⟩, -⟩ := lO p hp
    exact ⟨w, w1, w2, w1, p, hp, w2⟩
  · obtain ⟨w88, q, q1, q2⟩ := hw
    obtain ⟨f, la, f1, f2, f3, f4, f5, f6, -⟩ := v4 w w88 ⟨q, q1, q2⟩
    have e1 : ofN (J (a + 18) w) = f := by rw [f1, ofN_nI (by omega)]
    have e2 : ofN (J (a + 19) w) = la := by rw [f2, ofN_nI (by omega)]
    simp only [e1, e2]
    exact ⟨v3 q w q1 w88 (Or.inl q2), f1, f2, f3, f6, f5, f4⟩
