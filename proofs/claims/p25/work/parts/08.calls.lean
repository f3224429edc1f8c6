/-! CALLS AND ENDS -/
section R2
variable {X : im_X} {k : im_K} {Y : im_Y} {d : Nat} {Q : State → Prop} {pc : Nat} {L : List (Option Value)} {st : List Value} {S : im_S} {I : im_I}
theorem im_catsum (l : List Value) : (l.map fun v => v.category).sum ≤ 2 * l.length := by
  induction l with
  | nil => simp
  | cons a t ih =>
    have : a.category ≤ 2 := by rcases lv_cat a with h | h <;> omega
    simp only [List.map_cons, List.sum_cons, List.length_cons]
    omega
theorem im_blind {k : im_K} {as : List Value} {M : im_M} : FrameBlind (im_Pc k as M) := fun _ _ _ _ h => ⟨h.1, h.2.1, h.2.2.blind⟩
/-- behind a call -/
theorem im_call {H : Heap} {locs : List Loc} {ls : Array Slot} {rest : List Value} {v : Option Value} {S' : im_S} {I' : im_I} {a : Array Value} {st0 : List Value} (hm : im_n S ≤ im_n S' ∧ im_z S ≤ im_z S') (hS : va_S (fun q => kB k ≤ q) (xs X).heap H locs) (hL : im_L k L ls) (hB : im_B X S) (hroom : S' = S ∨ im_n S' - xn X ≤ (xR X).cells ∧ im_z S' - xz X ≤ (xR X).slots)
    (hr : va_Run (xp X) (xl X) (xe X) (xR X) (xs X) (xm X) (xa X) (xb X) (xh X) (xc X) H locs (im_n S - xn X) (im_z S - xz X) (im_n S' - im_n S) (im_z S' - im_z S) (F0 (xm X) pc ls st0) (rest.map (im_v k)) (im_Qc k v (S', I') a) (fun q => kB k ≤ q))
    (h : im_E X k Q (pc + 3) L (v.toList ++ rest) S' I') : W (xp X) (xl X) (xe X) (xR X) (xs X) (xm X) (xa X) (xb X) (xh X) (xc X) H locs (im_n S - xn X) (im_z S - xz X) Q (F0 (xm X) pc ls st0) := by
  intro T hT X1
  obtain ⟨v1, st₀, t, T', Lc, h0, X', hLc, e1, e2, ⟨hv, hH', hF⟩, stp⟩ := hr T hT X1
  have hv1 : v1 = v.map (im_v k) := Outcome.returned.inj hv
  subst hv1
  obtain ⟨f1, f2⟩ := hF
  rw [h0] at f1 f2
  obtain ⟨b1, b2, b3, b4⟩ := hB
  obtain ⟨m1, m2⟩ := hm
  have hB' : im_B X S' := by
    rcases hroom with rfl | ⟨r1, r2⟩
    · exact ⟨b1, b2, b3, b4⟩
    · exact ⟨Nat.le_trans b1 m1, Nat.le_trans b2 m2, r1, r2⟩
  have hS' : va_S (fun q => kB k ≤ q) (xs X).heap T'.heap (locs ++ Lc) := by
    refine ⟨Nat.le_trans hS.1 (by rw [e1]; exact f1), fun q g1 g2 => ?_, fun q hq => ?_⟩
    · rw [e1, f2 q (Nat.lt_of_lt_of_le g1 hS.1) g2]
      exact hS.2.1 q g1 g2
    · rcases List.mem_append.mp hq with g | g
      · exact hS.2.2 q g
      · exact hLc q g
  have c1 : im_n S - xn X + (im_n S' - im_n S) = im_n S' - xn X := by omega
  have c2 : im_z S - xz X + (im_z S' - im_z S) = im_z S' - xz X := by omega
  rw [c1, c2] at X'
  obtain ⟨t2, a1, a2⟩ := h T'.heap (locs ++ Lc) ls (by rw [e1]; exact hH') hS' hL hB' T' rfl X'
  refine ⟨t2, stp t2 ?_, a2⟩
  have e9 : (v.map (im_v k)).toList ++ rest.map (im_v k) = (v.toList ++ rest).map (im_v k) := by cases v <;> rfl
  show Steps _ _ _ (T'.setTop (F0 (xm X) (pc + 3) ls ((v.map (im_v k)).toList ++ rest.map (im_v k)))) t2
  rw [e9]
  exact a1
/-- what is known of a method that is called -/
def im_mC (Z : im_Y) (n : Nat) : Prop := Cond.initialized Z.1.cls ∈ im_W ∧ Cond.code Z.1 Z.2.1 Z.2.2.1 Z.2.2.2 ∈ im_W ∧ Z.2.2.1 ≤ 20 ∧ (Z.1.cls ≠ "java/lang/invoke/MethodHandle" ∧ Z.1.cls ≠ "java/lang/invoke/VarHandle") ∧ (parseMethodDescriptor Z.1.desc).map (fun d => d.parameters.length) = some n
def im_mV (Z : im_Y) (n : Nat) : Prop := im_mC Z n ∧ Cond.instanceMethod Z.1 ∈ im_W ∧ Cond.selects Z.1.cls Z.1 Z.1 ∈ im_W
def im_mS (Z : im_Y) (n : Nat) : Prop := im_mC Z n ∧ Cond.static Z.1 ∈ im_W
def im_mI (Z : im_Y) (n : Nat) : Prop := im_mC Z n ∧ Cond.instanceMethod Z.1 ∈ im_W ∧ Z.1.name = "<init>" ∧ Z.2.2.2 = none
theorem im_goodC {Z : im_Y} {n : Nat} (h : im_mC Z n) : GoodIn im_W (.code Z.1 Z.2.1 Z.2.2.1 Z.2.2.2 :: im_W) := fun w hw => by
  rcases List.mem_cons.mp hw with e | e
  · rw [e]; exact im_good _ h.2.1
  · exact im_good _ e
theorem im_len {Z : im_Y} {n m : Nat} (h : im_mC Z n) (hm : m = n) : ∀ sig, parseMethodDescriptor Z.1.desc = some sig → m = sig.parameters.length := fun sig hs => by
  have h2 := h.2.2.2.2
  rw [hs] at h2
  rw [hm]
  exact (Option.some.inj h2).symm
theorem r_callV (hX : im_Ok X k Y d) {ix a t n d' : Nat} {as rest : List Value} {Z : im_Y} {v : Option Value} {S' : im_S} {I' : im_I} (hd : decode Y.2.1 pc = .ok (.invokevirtual ix, 3)) (hw : Cond.methodLink Y.1.cls ix Z.1 ∈ im_W) (hz : im_mV Z n) (ht : t < 13 ∧ Z.1.cls = im_C t) (hk : im_k S a = (t, im_N t))
    (hr : im_Runs (xl X) k d' Z (.ref a :: as) (S, I) v (S', I')) (hs : st = as.reverse ++ (.ref a :: rest)) (hn : as.length = n) (hq : rest.length ≤ 4) (hdd : d' < d) (hl : L.length = Y.2.2.1) (hroom : S' = S ∨ im_n S' - xn X ≤ (xR X).cells ∧ im_z S' - xz X ≤ (xR X).slots)
    (h : im_E X k Q (pc + 3) L (v.toList ++ rest) S' I') : im_E X k Q pc L st S I := by
  subst hs
  intro H locs ls hH hS hL hB
  obtain ⟨hx, hb, hml, hret, hown, hts, hlk, hSt, hnm, hfr, hlo⟩ := id hX
  obtain ⟨i, rfl, hi⟩ := im_k_lt hk (by omega)
  have hB2 := hB
  obtain ⟨b1, b2, b3, b4⟩ := hB2
  obtain ⟨m1, m2⟩ := hr.1
  have hrr : im_n S - xn X + (im_n S' - im_n S) ≤ (xR X).cells ∧ im_z S - xz X + (im_z S' - im_z S) ≤ (xR X).slots := by
    rcases hroom with rfl | ⟨r1, r2⟩
    · constructor <;> omega
    · constructor <;> (dsimp only at m1 m2; omega)
  have hl20 := hz.1.2.2.1
  have he := im_w_at (k := k) (M := (S, I)) hi
  rw [im_e_obj ht.1 hk] at he
  refine im_call (rest := rest) (v := v) (a := (Value.ref (kB k + i) :: as.map (im_v k)).toArray) hr.1 hS hL hB hroom (va_runV (C := Z.1.cls) (ret := Z.2.2.2) (maxL := Z.2.2.1) (bytes := Z.2.1) (As := as.map (im_v k)) (n := n) (nL := Y.2.2.1) (b := kB k + i) (index := ix) ⟨hx, hb, hml, hown, hts⟩ hr.2
    ⟨⟨rfl, rfl, by show d' + 1 ≤ _; omega, by show 8 + (Z.2.2.1 + 11) + 40 * d' ≤ _; omega, pay_in hts (im_goodC hz.1), List.mem_cons_self, hts _ hz.1.2.1, hts _ hz.1.1, hz.1.2.2.2.1, im_len hz.1 rfl, hts _ hw⟩, hts _ hz.2.1, hts _ hz.2.2⟩
    ⟨im_blind, ?_, fun U hU hW => ⟨by simp [im_v, im_rho], by rw [hU]; exact hH, hSt.warm hS hU hW⟩⟩ rfl (by simpa using hn) (by rw [hL.1, hl]) ?_ ?_ hd hrr) h
  · obtain ⟨cell, g1, g2, g3⟩ := va_recv hSt.1 hH.2 (im_cl t ht.1) he
    exact ⟨cell, g1, g2, by rw [ht.2]; exact g3⟩
  · simp [im_v, im_rho]
  · have := im_catsum (rest.map (im_v k))
    rw [List.length_map] at this
    show 2 * 0 + _ ≤ 8
    omega
theorem r_callS (hX : im_Ok X k Y d) {ix n d' : Nat} {as rest : List Value} {Z : im_Y} {v : Option Value} {S' : im_S} {I' : im_I} (hd : decode Y.2.1 pc = .ok (.invokestatic ix, 3)) (hw : Cond.methodLink Y.1.cls ix Z.1 ∈ im_W) (hz : im_mS Z n)
    (hr : im_Runs (xl X) k d' Z (as) (S, I) v (S', I')) (hs : st = as.reverse ++ rest) (hn : as.length = n) (hq : rest.length ≤ 4) (hdd : d' < d) (hl : L.length = Y.2.2.1) (hroom : S' = S ∨ im_n S' - xn X ≤ (xR X).cells ∧ im_z S' - xz X ≤ (xR X).slots)
    (h : im_E X k Q (pc + 3) L (v.toList ++ rest) S' I') : im_E X k Q pc L st S I := by
  subst hs
  intro H locs ls hH hS hL hB
  obtain ⟨hx, hb, hml, hret, hown, hts, hlk, hSt, hnm, hfr, hlo⟩ := id hX
  have hB2 := hB
  obtain ⟨b1, b2, b3, b4⟩ := hB2
  obtain ⟨m1, m2⟩ := hr.1
  have hrr : im_n S - xn X + (im_n S' - im_n S) ≤ (xR X).cells ∧ im_z S - xz X + (im_z S' - im_z S) ≤ (xR X).slots := by
    rcases hroom with rfl | ⟨r1, r2⟩
    · constructor <;> omega
    · constructor <;> (dsimp only at m1 m2; omega)
  have hl20 := hz.1.2.2.1
  refine im_call (rest := rest) (v := v) (a := (as.map (im_v k)).toArray) hr.1 hS hL hB hroom (va_runS (ret := Z.2.2.2) (maxL := Z.2.2.1) (bytes := Z.2.1) (As := as.map (im_v k)) (n := n) (nL := Y.2.2.1) (index := ix) ⟨hx, hb, hml, hown, hts⟩ hr.2
    ⟨⟨rfl, rfl, by show d' + 1 ≤ _; omega, by show 8 + (Z.2.2.1 + 11) + 40 * d' ≤ _; omega, pay_in hts (im_goodC hz.1), List.mem_cons_self, hts _ hz.1.2.1, hts _ hz.1.1, hz.1.2.2.2.1, im_len hz.1 rfl, hts _ hw⟩, hts _ hz.2⟩
    ⟨im_blind, fun U hU hW => ⟨rfl, by rw [hU]; exact hH, hSt.warm hS hU hW⟩⟩ rfl (by simpa using hn) (by rw [hL.1, hl]) ?_ ?_ hd hrr) h
  · simp
  · have := im_catsum (rest.map (im_v k))
    rw [List.length_map] at this
    show 2 * 0 + _ ≤ 8
    omega
theorem r_callVN (hX : im_Ok X k Y d) {ix a t n d' : Nat} {as rest : List Value} {Z : im_Y} {v : Option Value} {S' : im_S} {I' : im_I} {host : String} (hd : decode Y.2.1 pc = .ok (.invokevirtual ix, 3)) (hw : Cond.methodLinkNest Y.1.cls ix Z.1 host ∈ im_nest) (hz : im_mV Z n) (ht : t < 13 ∧ Z.1.cls = im_C t) (hk : im_k S a = (t, im_N t))
    (hr : im_Runs (xl X) k d' Z (.ref a :: as) (S, I) v (S', I')) (hs : st = as.reverse ++ (.ref a :: rest)) (hn : as.length = n) (hq : rest.length ≤ 4) (hdd : d' < d) (hl : L.length = Y.2.2.1) (hroom : S' = S ∨ im_n S' - xn X ≤ (xR X).cells ∧ im_z S' - xz X ≤ (xR X).slots)
    (h : im_E X k Q (pc + 3) L (v.toList ++ rest) S' I') : im_E X k Q pc L st S I := by
  subst hs
  intro H locs ls hH hS hL hB
  obtain ⟨hx, hb, hml, hret, hown, hts, hlk, hSt, hnm, hfr, hlo⟩ := id hX
  obtain ⟨i, rfl, hi⟩ := im_k_lt hk (by omega)
  have hB2 := hB
  obtain ⟨b1, b2, b3, b4⟩ := hB2
  obtain ⟨m1, m2⟩ := hr.1
  have hrr : im_n S - xn X + (im_n S' - im_n S) ≤ (xR X).cells ∧ im_z S - xz X + (im_z S' - im_z S) ≤ (xR X).slots := by
    rcases hroom with rfl | ⟨r1, r2⟩
    · constructor <;> omega
    · constructor <;> (dsimp only at m1 m2; omega)
  have hl20 := hz.1.2.2.1
  have he := im_w_at (k := k) (M := (S, I)) hi
  rw [im_e_obj ht.1 hk] at he
  refine im_call (rest := rest) (v := v) (a := (Value.ref (kB k + i) :: as.map (im_v k)).toArray) hr.1 hS hL hB hroom (va_runVN (C := Z.1.cls) (ret := Z.2.2.2) (maxL := Z.2.2.1) (bytes := Z.2.1) (As := as.map (im_v k)) (n := n) (nL := Y.2.2.1) (b := kB k + i) (index := ix) ⟨hx, hb, hml, hown, hts⟩ hr.2
    ⟨⟨⟨rfl, rfl, by show d' + 1 ≤ _; omega, by show 8 + (Z.2.2.1 + 11) + 40 * d' ≤ _; omega, pay_in hts (im_goodC hz.1), List.mem_cons_self⟩, hts _ hz.1.2.1, hts _ hz.1.1, hz.1.2.2.2.1, im_len hz.1 rfl, va_Nw.use (im_nest_tab hw) (hSt.2.2.2.2.1.1 _ hw)⟩, hts _ hz.2.1, hts _ hz.2.2⟩
    ⟨im_blind, ?_, fun U hU hW => ⟨by simp [im_v, im_rho], by rw [hU]; exact hH, hSt.warm hS hU hW⟩⟩ rfl (by simpa using hn) (by rw [hL.1, hl]) ?_ ?_ hd hrr) h
  · obtain ⟨cell, g1, g2, g3⟩ := va_recv hSt.1 hH.2 (im_cl t ht.1) he
    exact ⟨cell, g1, g2, by rw [ht.2]; exact g3⟩
  · simp [im_v, im_rho]
  · have := im_catsum (rest.map (im_v k))
    rw [List.length_map] at this
    show 2 * 0 + _ ≤ 8
    omega
theorem r_callSN (hX : im_Ok X k Y d) {ix n d' : Nat} {as rest : List Value} {Z : im_Y} {v : Option Value} {S' : im_S} {I' : im_I} {host : String} (hd : decode Y.2.1 pc = .ok (.invokestatic ix, 3)) (hw : Cond.methodLinkNest Y.1.cls ix Z.1 host ∈ im_nest) (hz : im_mS Z n)
    (hr : im_Runs (xl X) k d' Z (as) (S, I) v (S', I')) (hs : st = as.reverse ++ rest) (hn : as.length = n) (hq : rest.length ≤ 4) (hdd : d' < d) (hl : L.length = Y.2.2.1) (hroom : S' = S ∨ im_n S' - xn X ≤ (xR X).cells ∧ im_z S' - xz X ≤ (xR X).slots)
    (h : im_E X k Q (pc + 3) L (v.toList ++ rest) S' I') : im_E X k Q pc L st S I := by
  subst hs
  intro H locs ls hH hS hL hB
  obtain ⟨hx, hb, hml, hret, hown, hts, hlk, hSt, hnm, hfr, hlo⟩ := id hX
  have hB2 := hB
  obtain ⟨b1, b2, b3, b4⟩ := hB2
  obtain ⟨m1, m2⟩ := hr.1
  have hrr : im_n S - xn X + (im_n S' - im_n S) ≤ (xR X).cells ∧ im_z S - xz X + (im_z S' - im_z S) ≤ (xR X).slots := by
    rcases hroom with rfl | ⟨r1, r2⟩
    · constructor <;> omega
    · constructor <;> (dsimp only at m1 m2; omega)
  have hl20 := hz.1.2.2.1
  refine im_call (rest := rest) (v := v) (a := (as.map (im_v k)).toArray) hr.1 hS hL hB hroom (va_runSN (ret := Z.2.2.2) (maxL := Z.2.2.1) (bytes := Z.2.1) (As := as.map (im_v k)) (n := n) (nL := Y.2.2.1) (index := ix) ⟨hx, hb, hml, hown, hts⟩ hr.2
    ⟨⟨⟨rfl, rfl, by show d' + 1 ≤ _; omega, by show 8 + (Z.2.2.1 + 11) + 40 * d' ≤ _; omega, pay_in hts (im_goodC hz.1), List.mem_cons_self⟩, hts _ hz.1.2.1, hts _ hz.1.1, hz.1.2.2.2.1, im_len hz.1 rfl, va_Nw.use (im_nest_tab hw) (hSt.2.2.2.2.1.1 _ hw)⟩, hts _ hz.2, trivial⟩
    ⟨im_blind, fun U hU hW => ⟨rfl, by rw [hU]; exact hH, hSt.warm hS hU hW⟩⟩ rfl (by simpa using hn) (by rw [hL.1, hl]) ?_ ?_ hd hrr) h
  · simp
  · have := im_catsum (rest.map (im_v k))
    rw [List.length_map] at this
    show 2 * 0 + _ ≤ 8
    omega
theorem r_callI (hX : im_Ok X k Y d) {ix a n d' : Nat} {as rest : List Value} {Z : im_Y} {v : Option Value} {S' : im_S} {I' : im_I} (hd : decode Y.2.1 pc = .ok (.invokespecial ix, 3)) (hw : Cond.methodLink Y.1.cls ix Z.1 ∈ im_W) (hz : im_mI Z n)
    (hr : im_Runs (xl X) k d' Z (.ref a :: as) (S, I) v (S', I')) (hs : st = as.reverse ++ (.ref a :: rest)) (hn : as.length = n) (hq : rest.length ≤ 4) (hdd : d' < d) (hl : L.length = Y.2.2.1) (hroom : S' = S ∨ im_n S' - xn X ≤ (xR X).cells ∧ im_z S' - xz X ≤ (xR X).slots)
    (h : im_E X k Q (pc + 3) L (v.toList ++ rest) S' I') : im_E X k Q pc L st S I := by
  subst hs
  intro H locs ls hH hS hL hB
  obtain ⟨hx, hb, hml, hret, hown, hts, hlk, hSt, hnm, hfr, hlo⟩ := id hX
  have hB2 := hB
  obtain ⟨b1, b2, b3, b4⟩ := hB2
  obtain ⟨m1, m2⟩ := hr.1
  have hrr : im_n S - xn X + (im_n S' - im_n S) ≤ (xR X).cells ∧ im_z S - xz X + (im_z S' - im_z S) ≤ (xR X).slots := by
    rcases hroom with rfl | ⟨r1, r2⟩
    · constructor <;> omega
    · constructor <;> (dsimp only at m1 m2; omega)
  have hl20 := hz.1.2.2.1
  obtain ⟨zz, z1, z2, z3⟩ := hz
  have hr2 := hr.2
  rw [z3] at hr2
  have hcode := hts _ zz.2.1
  have hcg := im_goodC zz
  rw [z3] at hcode hcg
  have e0 : im_v k (.ref a) = .ref (im_rho k a) := rfl
  refine im_call (rest := rest) (v := v) (a := (Value.ref (im_rho k a) :: as.map (im_v k)).toArray) hr.1 hS hL hB hroom (va_runI (maxL := Z.2.2.1) (bytes := Z.2.1) (As := as.map (im_v k)) (n := n) (nL := Y.2.2.1) (b := im_rho k a) (index := ix) ⟨hx, hb, hml, hown, hts⟩ hr2
    ⟨⟨rfl, rfl, by show d' + 1 ≤ _; omega, by show 8 + (Z.2.2.1 + 11) + 40 * d' ≤ _; omega, pay_in hts hcg, List.mem_cons_self, hcode, hts _ zz.1, zz.2.2.2.1, im_len zz rfl, hts _ hw⟩, z2, hts _ z1⟩
    ⟨im_blind, fun U hU hW => ⟨rfl, by rw [hU]; exact hH, hSt.warm hS hU hW⟩⟩ rfl (by simpa using hn) (by rw [hL.1, hl]) ?_ ?_ hd hrr) h
  · simp [e0]
  · have := im_catsum (rest.map (im_v k))
    rw [List.length_map] at this
    show 2 * 0 + _ ≤ 8
    omega
theorem r_callIN (hX : im_Ok X k Y d) {ix a n d' : Nat} {as rest : List Value} {Z : im_Y} {v : Option Value} {S' : im_S} {I' : im_I} {host : String} (hd : decode Y.2.1 pc = .ok (.invokespecial ix, 3)) (hw : Cond.methodLinkNest Y.1.cls ix Z.1 host ∈ im_nest) (hz : im_mI Z n)
    (hr : im_Runs (xl X) k d' Z (.ref a :: as) (S, I) v (S', I')) (hs : st = as.reverse ++ (.ref a :: rest)) (hn : as.length = n) (hq : rest.length ≤ 4) (hdd : d' < d) (hl : L.length = Y.2.2.1) (hroom : S' = S ∨ im_n S' - xn X ≤ (xR X).cells ∧ im_z S' - xz X ≤ (xR X).slots)
    (h : im_E X k Q (pc + 3) L (v.toList ++ rest) S' I') : im_E X k Q pc L st S I := by
  subst hs
  intro H locs ls hH hS hL hB
  obtain ⟨hx, hb, hml, hret, hown, hts, hlk, hSt, hnm, hfr, hlo⟩ := id hX
  have hB2 := hB
  obtain ⟨b1, b2, b3, b4⟩ := hB2
  obtain ⟨m1, m2⟩ := hr.1
  have hrr : im_n S - xn X + (im_n S' - im_n S) ≤ (xR X).cells ∧ im_z S - xz X + (im_z S' - im_z S) ≤ (xR X).slots := by
    rcases hroom with rfl | ⟨r1, r2⟩
    · constructor <;> omega
    · constructor <;> (dsimp only at m1 m2; omega)
  have hl20 := hz.1.2.2.1
  obtain ⟨zz, z1, z2, z3⟩ := hz
  have hr2 := hr.2
  rw [z3] at hr2
  have hcode := hts _ zz.2.1
  have hcg := im_goodC zz
  rw [z3] at hcode hcg
  have e0 : im_v k (.ref a) = .ref (im_rho k a) := rfl
  refine im_call (rest := rest) (v := v) (a := (Value.ref (im_rho k a) :: as.map (im_v k)).toArray) hr.1 hS hL hB hroom (va_runIN (maxL := Z.2.2.1) (bytes := Z.2.1) (As := as.map (im_v k)) (n := n) (nL := Y.2.2.1) (b := im_rho k a) (index := ix) ⟨hx, hb, hml, hown, hts⟩ hr2
    ⟨⟨⟨rfl, rfl, by show d' + 1 ≤ _; omega, by show 8 + (Z.2.2.1 + 11) + 40 * d' ≤ _; omega, pay_in hts hcg, List.mem_cons_self⟩, hcode, hts _ zz.1, zz.2.2.2.1, im_len zz rfl, va_Nw.use (im_nest_tab hw) (hSt.2.2.2.2.1.1 _ hw)⟩, z2, hts _ z1⟩
    ⟨im_blind, fun U hU hW => ⟨rfl, by rw [hU]; exact hH, hSt.warm hS hU hW⟩⟩ rfl (by simpa using hn) (by rw [hL.1, hl]) ?_ ?_ hd hrr) h
  · simp [e0]
  · have := im_catsum (rest.map (im_v k))
    rw [List.length_map] at this
    show 2 * 0 + _ ≤ 8
    omega
theorem r_objInit (hX : im_Ok X k Y d) {ix a : Nat} {rest : List Value} (hd : decode Y.2.1 pc = .ok (.invokespecial ix, 3)) (hw : Cond.methodLink Y.1.cls ix Lib.objectInit ∈ im_W) (hw2 : Cond.instanceMethod Lib.objectInit ∈ im_W ∧ Cond.code Lib.objectInit ⟨#[0xb1]⟩ 1 none ∈ im_W) (hq : rest.length ≤ 4) (hdd : 0 < d) (hl : L.length = Y.2.2.1) (h : im_E X k Q (pc + 3) L rest S I) : im_E X k Q pc L (.ref a :: rest) S I := by
  intro H locs ls hH hS hL hB
  obtain ⟨hx, hb, hml, hret, hown, hts, hlk, hSt, hnm, hfr, hlo⟩ := id hX
  refine W.objInit hx hb hown (hts _ hw) (hts _ hw2.1) (hts _ hw2.2) rfl (by rw [hml]; exact hL.1.trans hl) (a := im_rho k a) (rest := rest.map (im_v k)) rfl hd (by omega) ?_ (h H locs ls hH hS hL hB)
  have := im_catsum (rest.map (im_v k))
  rw [List.length_map] at this
  show 2 * 0 + _ + 12 ≤ _
  omega
theorem r_mmax (hX : im_Ok X k Y d) {ix : Nat} {x y : Int32} {rest : List Value} (hd : decode Y.2.1 pc = .ok (.invokestatic ix, 3)) (hw : Cond.methodLink Y.1.cls ix Lib.Math.max.name ∈ im_W) (hw2 : Cond.static Lib.Math.max.name ∈ im_W ∧ Cond.initialized "java/lang/Math" ∈ im_W ∧ Cond.code Lib.Math.max.name Lib.Math.max.code 2 (some .int) ∈ im_W) (hq : rest.length ≤ 4) (hdd : 0 < d) (hl : L.length = Y.2.2.1) (h : im_E X k Q (pc + 3) L (.int (if x < y then y else x) :: rest) S I) : im_E X k Q pc L (.int y :: .int x :: rest) S I := by
  intro H locs ls hH hS hL hB
  obtain ⟨hx, hb, hml, hret, hown, hts, hlk, hSt, hnm, hfr, hlo⟩ := id hX
  refine va_mmax hx hb (by rw [hml]; exact (hL.1.trans hl).symm) hown (hts _ hw) (hts _ hw2.1) (hts _ hw2.2.1) (hts _ hw2.2.2) (by omega) ?_ hB.2.2.1 hB.2.2.2 hd (h H locs ls hH hS hL hB)
  have := im_catsum (rest.map (im_v k))
  rw [List.length_map] at this
  omega
theorem r_mmin (hX : im_Ok X k Y d) {ix : Nat} {x y : Int32} {rest : List Value} (hd : decode Y.2.1 pc = .ok (.invokestatic ix, 3)) (hw : Cond.methodLink Y.1.cls ix Lib.Math.min.name ∈ im_W) (hw2 : Cond.static Lib.Math.min.name ∈ im_W ∧ Cond.initialized "java/lang/Math" ∈ im_W ∧ Cond.code Lib.Math.min.name Lib.Math.min.code 2 (some .int) ∈ im_W) (hq : rest.length ≤ 4) (hdd : 0 < d) (hl : L.length = Y.2.2.1) (h : im_E X k Q (pc + 3) L (.int (if y < x then y else x) :: rest) S I) : im_E X k Q pc L (.int y :: .int x :: rest) S I := by
  intro H locs ls hH hS hL hB
  obtain ⟨hx, hb, hml, hret, hown, hts, hlk, hSt, hnm, hfr, hlo⟩ := id hX
  refine va_mmin hx hb (by rw [hml]; exact (hL.1.trans hl).symm) hown (hts _ hw) (hts _ hw2.1) (hts _ hw2.2.1) (hts _ hw2.2.2) (by omega) ?_ hB.2.2.1 hB.2.2.2 hd (h H locs ls hH hS hL hB)
  have := im_catsum (rest.map (im_v k))
  rw [List.length_map] at this
  omega
-- ends
theorem r_ireturn (hX : im_Ok X k Y d) {x : Int32} {ty : FieldType} {v : Option Value} {M : im_M} (hd : decode Y.2.1 pc = .ok (.ireturn, 1)) (hr : Y.2.2.2 = some ty) (hn : narrow ty (.int x) = .int x) (hv : some (.int x) = v) (hM : (S, I) = M) : im_E X k (im_Q X k v M) pc L [.int x] S I := by
  subst hv hM
  intro H locs ls hH hS hL hB
  exact W.zret (v := x) hX.1 hX.2.1 (hX.2.2.2.1.trans hr) hn (fun t ht hW => ⟨rfl, by rw [ht]; exact hH, hS.F ht⟩) hS.2.2 hd hX.2.2.2.2.2.2.1
theorem r_lreturn (hX : im_Ok X k Y d) {x : Int64} {v : Option Value} {M : im_M} (hd : decode Y.2.1 pc = .ok (.lreturn, 1)) (hr : Y.2.2.2 = some .long) (hv : some (.long x) = v) (hM : (S, I) = M) : im_E X k (im_Q X k v M) pc L [.long x] S I := by
  subst hv hM
  intro H locs ls hH hS hL hB
  exact W.lret (v := x) hX.1 hX.2.1 (hX.2.2.2.1.trans hr) (fun t ht hW => ⟨rfl, by rw [ht]; exact hH, hS.F ht⟩) hS.2.2 hd hX.2.2.2.2.2.2.1
theorem r_return (hX : im_Ok X k Y d) {v : Option Value} {M : im_M} (hd : decode Y.2.1 pc = .ok (.return_, 1)) (hr : Y.2.2.2 = none) (hv : none = v) (hM : (S, I) = M) : im_E X k (im_Q X k v M) pc L [] S I := by
  subst hv hM
  intro H locs ls hH hS hL hB
  exact W.vret hX.1 hX.2.1 (hX.2.2.2.1.trans hr) (fun t ht hW => ⟨rfl, by rw [ht]; exact hH, hS.F ht⟩) hS.2.2 hd hX.2.2.2.2.2.2.1
theorem r_areturn (hX : im_Ok X k Y d) {x : Nat} {rt : FieldType} {v : Option Value} {M : im_M} (hd : decode Y.2.1 pc = .ok (.areturn, 1)) (hr : Y.2.2.2 = some rt) (hrt : (∃ n, rt = .object n) ∨ ∃ t, rt = .array t) (hv : some (.ref x) = v) (hM : (S, I) = M) : im_E X k (im_Q X k v M) pc L [.ref x] S I := by
  subst hv hM
  intro H locs ls hH hS hL hB
  exact W.aret (v := .ref (im_rho k x)) hX.1 hX.2.1 (hX.2.2.2.1.trans hr) hrt (Or.inr ⟨_, rfl⟩) (fun t ht hW => ⟨rfl, by rw [ht]; exact hH, hS.F ht⟩) hS.2.2 hd hX.2.2.2.2.2.2.1
end R2
