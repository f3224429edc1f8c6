/-! CALLS AND ENDS -/
section R2
variable {X : im_X} {k : im_K} {Y : im_Y} {d : Nat} {Q : State → Prop} {pc : Nat} {L : List (Option Value)} {st : List Value} {S : im_S} {I : im_I}
theorem im_catsum (l : List Value) : (l.map fun v => v.category).sum ≤ 2 * l.length := by
  induction l with
  | nil => simp
  | cons a t ih =>
    have : a.category ≤ 2 := by rcases lv_cat a with h | h <;> omega
    simp only [List.map_cons, List.sum_cons, List.length_cons]
    omega
theorem im_blind {k : im_K} {as : List Value} {M : im_M} : FrameBlind (im_Pc k as M) := fun _ _ _ _ h => ⟨h.1, h.2.1, h.2.2.blind⟩
/-- behind a call -/
theorem im_call {H : Heap} {locs : List Loc} {ls : Array Slot} {rest : List Value} {v : Option Value} {S' : im_S} {I' : im_I} {a : Array Value} {st0 : List Value} (hm : im_n S ≤ im_n S' ∧ im_z S ≤ im_z S') (hS : va_S (fun q => kB k ≤ q) (xs X).heap H locs) (hL : im_L k L ls) (hB : im_B X S) (hroom : S' = S ∨ im_n S' - xn X ≤ (xR X).cells ∧ im_z S' - xz X ≤ (xR X).slots)
    (hr : va_Run (xp X) (xl X) (xe X) (xR X) (xs X) (xm X) (xa X) (xb X) (xh X) (xc X) H locs (im_n S - xn X) (im_z S - xz X) (im_n S' - im_n S) (im_z S' - im_z S) (F0 (xm X) pc ls st0) (rest.map (im_v k)) (im_Qc k v (S', I') a) (fun q => kB k ≤ q))
    (h : im_E X k Q (pc + 3) L (v.toList ++ rest) S' I') : W (xp X) (xl X) (xe X) (xR X) (xs X) (xm X) (xa X) (xb X) (xh X) (xc X) H locs (im_n S - xn X) (im_z S - xz X) Q (F0 (xm X) pc ls st0) := by
  intro T hT X1
  obtain ⟨v1, st₀, t, T', Lc, h0, X', hLc, e1, e2, ⟨hv, hH', hF⟩, stp⟩ := hr T hT X1
  have hv1 : v1 = v.map (im_v k) := Outcome.returned.inj hv
  subst hv1
  obtain ⟨f1, f2⟩ := hF
  rw [h0] at f1 f2
  obtain ⟨b1, b2, b3, b4⟩ := hB
  obtain ⟨m1, m2⟩ := hm
  have hB' : im_B X S' := by
    rcases hroom with rfl | ⟨r1, r2⟩
    · exact ⟨b1, b2, b3, b4⟩
    · exact ⟨Nat.le_trans b1 m1, Nat.le_trans b2 m2, r1, r2⟩
  have hS' : va_S (fun q => kB k ≤ q) (xs X).heap T'.heap (locs ++ Lc) := by
    refine ⟨Nat.le_trans hS.1 (by rw [e1]; exact f1), fun q g1 g2 => ?_, fun q hq => ?_⟩
    · rw [e1, f2 q (Nat.lt_of_lt_of_le g1 hS.1) g2]
      exact hS.2.1 q g1 g2
    · rcases List.mem_append.mp hq with g | g
      · exact hS.2.2 q g
      · exact hLc q g
  have c1 : im_n S - xn X + (im_n S' - im_n S) = im_n S' - xn X := by omega
  have c2 : im_z S - xz X + (im_z S' - im_z S) = im_z S' - xz X := by omega
  rw [c1, c2] at X'
  obtain ⟨t2, a1, a2⟩ := h T'.heap (locs ++ Lc) ls (by rw [e1]; exact hH') hS' hL hB' T' rfl X'
  refine ⟨t2, stp t2 ?_, a2⟩
  have e9 : (v.map (im_v k)).toList ++ rest.map (im_v k) = (v.toList ++ rest).map (im_v k) := by cases v <;> rfl
  show Steps _ _ _ (T'.setTop (F0 (xm X) (pc + 3) ls ((v.map (im_v k)).toList ++ rest.map (im_v k)))) t2
  rw [e9]
  exact a1
/-- what is known of a method that is called -/
def im_mC (Z : im_Y) (n : Nat) : Prop := Cond.initialized Z.1.cls ∈ im_W ∧ Cond.code Z.1 Z.2.1 Z.2.2.1 Z.2.2.2 ∈ im_W ∧ Z.2.2.1 ≤ 20 ∧ (Z.1.cls ≠ "java/lang/invoke/MethodHandle" ∧ Z.1.cls ≠ "java/lang/invoke/VarHandle") ∧ (parseMethodDescriptor Z.1.desc).map (fun d => d.parameters.length) = some n
def im_mV (Z : im_Y) (n : Nat) : Prop := im_mC Z n ∧ Cond.instanceMethod Z.1 ∈ im_W ∧ Cond.selects Z.1.cls Z.1 Z.1 ∈ im_W
def im_mS (Z : im_Y) (n : Nat) : Prop := im_mC Z n ∧ Cond.static Z.1 ∈ im_W
def im_mI (Z : im_Y) (n : Nat) : Prop := im_mC Z n ∧ Cond.instanceMethod Z.1 ∈ im_W ∧ Z.1.name = "<init>" ∧ Z.2.2.2 = none
theorem im_goodC {Z : im_Y} {n : Nat} (h : im_mC Z n) : GoodIn im_W (.code Z.1 Z.2.1 Z.2.2.1 Z.2.2.2 :: im_W) := fun w hw => by
  rcases List.mem_cons.mp hw with e | e
  · rw [e]; exact im_good _ h.2.1
  · exact im_good _ e
theorem im_len {Z : im_Y} {n m : Nat} (h : im_mC Z n) (hm : m = n) : ∀ sig, parseMethodDescriptor Z.1.desc = some sig → m = sig.parameters.length := fun sig hs => by
  have h2 := h.2.2.2.2
  rw [hs] at h2
  rw [hm]
  exact (Option.some.inj h2).symm
theorem r_callV (hX : im_Ok X k Y d) {ix a t n d' : Nat} {as rest : List Value} {Z : im_Y} {v : Option Value} {S' : im_S} {I' : im_I} (hd : decode Y.2.1 pc = .ok (.invokevirtual ix, 3)) (hw : Cond.methodLink Y.1.cls ix Z.1 ∈ im_W) (hz : im_mV Z n) (ht : t < 13 ∧ Z.1.cls = im_C t) (hk : im_k S a = (t, im_N t))
    (hr : im_Runs (xl X) k d' Z (.ref a :: as) (S, I) v (S', I')) (hs : st = as.reverse ++ (.ref a :: rest)) (hn : as.length = n) (hq : rest.length ≤ 4) (hdd : d' < d) (hl : L.length = Y.2.2.1) (hroom : S' = S ∨ im_n S' - xn X ≤ (xR X).cells ∧ im_z S' - xz X ≤ (xR X).slots)
    (h : im_E X k Q (pc + 3) L (v.toList ++ rest) S' I') : im_E X k Q pc L st S I := by
  subst hs
  intro H locs ls hH hS hL hB
  obtain ⟨hx, hb, hml, hret, hown, hts, hlk, hSt, hnm, hfr, hlo⟩ := id hX
  obtain ⟨i, rfl, hi⟩ := im_k_lt hk (by omega)
  have hB2 := hB
  obtain ⟨b1, b2, b3, b4⟩ := hB2
  obtain ⟨m1, m2⟩ := hr.1
  have hrr : im_n S - xn X + (im_n S' - im_n S) ≤ (xR X).cells ∧ im_z S - xz X + (im_z S' - im_z S) ≤ (xR X).slots := by
    rcases hroom with rfl | ⟨r1, r2⟩
    · constructor <;> omega
    · constructor <;> (dsimp only at m1 m2; omega)
  have hl20 := hz.1.2.2.1
  have he := im_w_at (k := k) (M := (S, I)) hi
  rw [im_e_obj ht.1 hk] at he
  refine im_call (rest := rest) (v := v) (a := (Value.ref (kB k + i) :: as.map (im_v k)).toArray) hr.1 hS hL hB hroom (va_runV (C := Z.1.cls) (ret := Z.2.2.2) (maxL := Z.2.2.1) (bytes := Z.2.1) (As := as.map (im_v k)) (n := n) (nL := Y.2.2.1) (b := kB k + i) (index := ix) ⟨hx, hb, hml, hown, hts⟩ hr.2
    ⟨⟨rfl, rfl, by show d' + 1 ≤ _; omega, by show 8 + (Z.2.2.1 + 11) + 40 * d' ≤ _; omega, pay_in hts (im_goodC hz.1), List.mem_cons_self, hts _ hz.1.2.1, hts _ hz.1.1, hz.1.2.2.2.1, im_len hz.1 rfl, hts _ hw⟩, hts _ hz.2.1, hts _ hz.2.2⟩
    ⟨im_blind, ?_, fun U hU hW => ⟨by simp [im_v, im_rho], by rw [hU]; exact hH, hSt.warm hS hU hW⟩⟩ rfl (by simpa using hn) (by rw [hL.1, hl]) ?_ ?_ hd hrr) h
  · obtain ⟨cell, g1, g2, g3⟩ := va_recv hSt.1 hH.2 (im_cl t ht.1) he
    exact ⟨cell, g1, g2, by rw [ht.2]; exact g3⟩
  · simp [im_v, im_rho]
  · have := im_catsum (rest.map (im_v k))
    rw [List.length_map] at this
    show 2 * 0 + _ ≤ 8
    omega
end R2
