/-! THE ROWS, of arrays, of what is made, of calls, of ends -/
section R1
variable {X : im_X} {k : im_K} {Y : im_Y} {d : Nat} {Q : State → Prop} {pc : Nat} {L : List (Option Value)} {st : List Value} {S : im_S} {I : im_I}
theorem r_iald (hX : im_Ok X k Y d) {a n : Nat} {i : Int32} (hd : decode Y.2.1 pc = .ok (.iaload, 1)) (hk : im_k S a = (20, n)) (hi : vp_in i n) (h : im_E X k Q (pc + 1) L (.int (I a i.toNatClampNeg) :: st) S I) : im_E X k Q pc L (.int i :: .ref a :: st) S I := by
  intro H locs ls hH hS hL hB
  obtain ⟨q, rfl, hq⟩ := im_k_lt hk (by omega)
  have he := im_w_at (k := k) (M := (S, I)) hq
  rw [im_e_int hk] at he
  exact va_iald (D := kG k) hX.1 hX.2.1 hX.2.2.2.2.2.2.2.1.1 hH.2 q 0 he rfl hi hd (h H locs ls hH hS hL hB)
theorem r_iast (hX : im_Ok X k Y d) {a n : Nat} {i x : Int32} (hd : decode Y.2.1 pc = .ok (.iastore, 1)) (hk : im_k S a = (20, n)) (hi : vp_in i n) (h : im_E X k Q (pc + 1) L st S (im_up I a i.toNatClampNeg x)) : im_E X k Q pc L (.int x :: .int i :: .ref a :: st) S I := by
  intro H locs ls hH hS hL hB
  obtain ⟨q, rfl, hq⟩ := im_k_lt hk (by omega)
  have he := im_w_at (k := k) (M := (S, I)) hq
  rw [im_e_int hk] at he
  refine W.iast hX.1 hX.2.1 (hH.2 q _ he) ((hX.2.2.2.2.2.2.2.1.1.2 0 _ rfl).1 n (fun j => .int (I (q + 2) j))) (fun z => by cases z) (by show ¬ (i < 0 ∨ (arrV _ _ _).slots.size ≤ _); rw [arrV_size]; exact hi) rfl rfl hd fun H1 e z oq => ?_
  have h2 := im_w_set (k := k) (M := (S, I)) (M' := (S, im_up I (q + 2) i.toNatClampNeg x)) (a := q) rfl (fun b hb => im_e_congr rfl (fun _ => rfl) (fun z => by show im_up I (q + 2) i.toNatClampNeg x b z = I b z; rw [im_up_row hb]))
  refine h H1 _ ls ⟨z.trans hH.1, ?_⟩ (hS.put z oq (Nat.le_add_right _ _)) hL hB
  rw [← h2]
  rw [im_e_int (M := (S, im_up I (q + 2) i.toNatClampNeg x)) hk]
  refine hH.2.set (im_w_D k _) he ?_ oq
  show H1[_]? = some (vp_cell _ _)
  rw [e]
  show some ((vp_cell _ _).setSlot _ _) = _
  rw [vp_cell_i, vp_cell_i, arrV_store]
  congr 2
  funext z
  show _ = Value.int (im_up I (q + 2) i.toNatClampNeg x (q + 2) z)
  rw [im_up_upd]
  by_cases hz : z = i.toNatClampNeg
  · subst hz
    simp [updV, upd]
  · simp [updV, upd, hz]
theorem r_alen (hX : im_Ok X k Y d) {a n : Nat} (v : Int32) (hd : decode Y.2.1 pc = .ok (.arraylength, 1)) (hk : im_k S a = (20, n)) (hv : Int32.ofNat n = v) (h : im_E X k Q (pc + 1) L (.int v :: st) S I) : im_E X k Q pc L (.ref a :: st) S I := by
  intro H locs ls hH hS hL hB
  obtain ⟨q, rfl, hq⟩ := im_k_lt hk (by omega)
  have he := im_w_at (k := k) (M := (S, I)) hq
  rw [im_e_int hk] at he
  exact va_alen (D := kG k) hX.1 hX.2.1 hX.2.2.2.2.2.2.2.1.1 hH.2 q 0 he rfl hv hd (h H locs ls hH hS hL hB)
theorem r_alenR (hX : im_Ok X k Y d) {a n : Nat} (v : Int32) (hd : decode Y.2.1 pc = .ok (.arraylength, 1)) (hk : im_k S a = (21, n)) (hv : Int32.ofNat n = v) (h : im_E X k Q (pc + 1) L (.int v :: st) S I) : im_E X k Q pc L (.ref a :: st) S I := by
  intro H locs ls hH hS hL hB
  obtain ⟨q, rfl, hq⟩ := im_k_lt hk (by omega)
  have he := im_w_at (k := k) (M := (S, I)) hq
  rw [im_e_row hk] at he
  exact va_alen (D := kG k) hX.1 hX.2.1 hX.2.2.2.2.2.2.2.1.1 hH.2 q 1 he rfl hv hd (h H locs ls hH hS hL hB)
-- the script (0) and the table of the class (1)
theorem r_sld (hX : im_Ok X k Y d) {i : Int32} (hd : decode Y.2.1 pc = .ok (.iaload, 1)) (hi : vp_in i (kL k)) (h : im_E X k Q (pc + 1) L (.int (kxs k i.toNatClampNeg) :: st) S I) : im_E X k Q pc L (.int i :: .ref 0 :: st) S I := by
  intro H locs ls hH hS hL hB
  obtain ⟨-, hx, -, -, -, hBs, hb⟩ := hX.2.2.2.2.2.2.2.1
  exact va_sld hX.1 hX.2.1 hx (Nat.lt_of_lt_of_le hb hBs) (Nat.not_le.mpr hb) hS hi hd (h H locs ls hH hS hL hB)
theorem r_slen (hX : im_Ok X k Y d) (hd : decode Y.2.1 pc = .ok (.arraylength, 1)) (h : im_E X k Q (pc + 1) L (.int (Int32.ofNat (kL k)) :: st) S I) : im_E X k Q pc L (.ref 0 :: st) S I := by
  intro H locs ls hH hS hL hB
  obtain ⟨-, hx, -, -, -, hBs, hb⟩ := hX.2.2.2.2.2.2.2.1
  exact va_slen hX.1 hX.2.1 hx (Nat.lt_of_lt_of_le hb hBs) (Nat.not_le.mpr hb) hS hd (h H locs ls hH hS hL hB)
theorem r_tld (hX : im_Ok X k Y d) {i : Int32} (hd : decode Y.2.1 pc = .ok (.iaload, 1)) (hi : vp_in i 10) (h : im_E X k Q (pc + 1) L (.int (im_lat i.toNatClampNeg) :: st) S I) : im_E X k Q pc L (.int i :: .ref 1 :: st) S I := by
  intro H locs ls hH hS hL hB
  obtain ⟨-, -, -, hT, -, -, -⟩ := hX.2.2.2.2.2.2.2.1
  exact va_ti hX.1 hX.2.1 hT hS hi rfl hd (h H locs ls hH hS hL hB)
theorem r_tlen (hX : im_Ok X k Y d) (hd : decode Y.2.1 pc = .ok (.arraylength, 1)) (h : im_E X k Q (pc + 1) L (.int 10 :: st) S I) : im_E X k Q pc L (.ref 1 :: st) S I := by
  intro H locs ls hH hS hL hB
  obtain ⟨-, -, -, hT, -, -, -⟩ := hX.2.2.2.2.2.2.2.1
  exact va_tlen hX.1 hX.2.1 hT hS rfl hd (h H locs ls hH hS hL hB)
theorem r_gets (hX : im_Ok X k Y d) {ix : Nat} {host : String} (hd : decode Y.2.1 pc = .ok (.getstatic ix, 3)) (hw : Cond.fieldLinkNest Y.1.cls ix "SpillslotWorks" "LATENCY_KIND_OF" "[I" host ∈ im_nest) (h : im_E X k Q (pc + 3) L (.ref 1 :: st) S I) : im_E X k Q pc L st S I := by
  intro H locs ls hH hS hL hB
  obtain ⟨-, -, hZ, -, hN, -, -⟩ := hX.2.2.2.2.2.2.2.1
  exact va_getsN hX.1 hX.2.1 hZ hS hX.2.2.2.2.1 (va_Nw.use (im_nest_tab hw) (hN.1 _ hw)) (fun _ h => h) hd (h H locs ls hH hS hL hB)
-- what is made
def im_okty (t : FieldType) : Bool := match t with | .int => true | .boolean => true | .object _ => true | .array _ => true | _ => false
theorem im_oktys : ∀ t, t < 13 → ∀ j, j < im_N t → im_okty (im_ty t j) = true := im_cases (by decide) (by decide) (by decide) (by decide) (by decide) (by decide) (by decide) (by decide) (by decide) (by decide) (by decide) (by decide) (by decide)
theorem im_new_e {k : im_K} {S : im_S} {I : im_I} {t n b : Nat} (hb : b < im_n S + 2) : im_e k (im_newS S t n, im_newI S I) b = im_e k (S, I) b := by
  refine im_e_congr ?_ (fun j => ?_) (fun j => ?_)
  · rw [im_k_new, if_neg (by omega)]
  · rw [im_r_new, if_neg (by omega)]
  · show (if b = im_n S + 2 then 0 else I b j) = I b j
    rw [if_neg (by omega)]
theorem im_new_B {X : im_X} {S : im_S} {t n : Nat} (hB : im_B X S) (hr : im_n S + 1 - xn X ≤ (xR X).cells ∧ im_z S + n - xz X ≤ (xR X).slots) : im_B X (im_newS S t n) := ⟨Nat.le_succ_of_le hB.1, Nat.le_trans hB.2.1 (Nat.le_add_right _ _), hr.1, hr.2⟩
theorem r_new (hX : im_Ok X k Y d) {ix t : Nat} (hd : decode Y.2.1 pc = .ok (.new ix, 3)) (hw : t < 13 ∧ Cond.classLink Y.1.cls ix (im_C t) ∈ im_W ∧ Cond.instantiable (im_C t) (im_N t) ∈ im_W ∧ Cond.initialized (im_C t) ∈ im_W) (hr : im_n S + 1 - xn X ≤ (xR X).cells ∧ im_z S + im_N t - xz X ≤ (xR X).slots)
    (h : im_E X k Q (pc + 3) L (.ref (im_n S + 2) :: st) (im_newS S t (im_N t)) (im_newI S I)) : im_E X k Q pc L st S I := by
  intro H locs ls hH hS hL hB
  obtain ⟨hx, hb, -, -, hown, hts, -, hSt, -, -, -⟩ := hX
  obtain ⟨ht, w1, w2, w3⟩ := hw
  have hKn := hSt.1.1 t _ (im_cl t ht)
  have h1 := hB.1
  have h2 := hB.2.1
  refine W.newcK hx hb hown (hts _ w1) (hts _ w2) (hts _ w3) rfl hd (by omega) (by omega) hKn.2.1 rfl fun H1 kC hkC e1 z1 o1 => ?_
  have hk : ∀ (j : Nat) (x : Nat × va_E), (im_w k (S, I))[j]? = some x → H1[x.1]? = H[x.1]? := fun j x hx => o1 x.1 ((hH.2 j x hx).lt)
  have e3 : im_n S - xn X + 1 = im_n (im_newS S t (im_N t)) - xn X := by rw [im_n_new]; omega
  have e4 : im_z S - xz X + im_N t = im_z (im_newS S t (im_N t)) - xz X := by rw [im_z_new]; omega
  rw [e3, e4]
  have hv : im_v k (.ref (im_n S + 2)) = .ref H.size := by rw [hH.1]; rfl
  have hz1 : H1.size = kB k + im_n (im_newS S t (im_N t)) := by rw [z1, hH.1]; show kB k + im_n S + 1 = kB k + (im_n S + 1); omega
  have h0 := h H1 locs ls ⟨hz1, ?_⟩ ⟨Nat.le_trans hS.1 (by omega), fun x g1 g2 => (o1 x (Nat.lt_of_lt_of_le g1 hS.1)).trans (hS.2.1 x g1 g2), hS.2.2⟩ hL (im_new_B hB hr)
  · rw [List.map_cons, hv] at h0
    exact h0
  · rw [← im_w_push (k := k) (M := (S, I)) (M' := (im_newS S t (im_N t), im_newI S I)) rfl (fun b hb => im_new_e hb)]
    refine (hH.2.kept hk).app fun j x hx => ?_
    have hz : j < 1 := (List.getElem?_eq_some_iff.mp hx).1
    rw [show j = 0 by omega] at hx
    cases hx
    rw [im_e_obj (M := (im_newS S t (im_N t), im_newI S I)) ht (by rw [im_k_new, if_pos rfl])]
    refine ⟨_, im_cl t ht, ?_⟩
    show t_OB (kB k + im_n S) _ _ _ _ _
    rw [← hH.1]
    refine (u_born (im_ty t) hts (im_in_u t ht) hKn hkC e1 (im_tyok t ht)).to fun j hj => ?_
    show defaultValue (im_ty t j) = vp_V ((List.range (im_N t)).map _) j
    unfold vp_V
    have h5 := im_oktys t ht j hj
    have e6 : ((List.range (im_N t)).map (im_f k (im_newS S t (im_N t), im_newI S I) (im_n S + 2) t))[j]? = some (im_f k (im_newS S t (im_N t), im_newI S I) (im_n S + 2) t j) := by rw [List.getElem?_map, List.getElem?_range hj]; rfl
    rw [List.getD_eq_getElem?_getD, e6]
    show _ = im_f k _ _ t j
    unfold im_f im_isI
    have e7 : im_newI S I (im_n S + 2) j = 0 := by simp [im_newI]
    have e8 : im_r (im_newS S t (im_N t)) (im_n S + 2) j = 0 := by rw [im_r_new, if_pos rfl]
    unfold im_okty at h5
    simp only [e7, e8]
    split at h5 <;> rename_i e9 <;> simp_all [defaultValue, im_rv]
theorem r_newa (hX : im_Ok X k Y d) {n : Int32} {N : Nat} (hd : decode Y.2.1 pc = .ok (.newarray .int, 2)) (hw : Cond.arrayClass .int ∈ im_W) (hn : ¬ n < 0) (hN : n.toNatClampNeg = N) (hb4 : N * 4 ≤ 536870912) (hr : im_n S + 1 - xn X ≤ (xR X).cells ∧ im_z S + N - xz X ≤ (xR X).slots)
    (h : im_E X k Q (pc + 2) L (.ref (im_n S + 2) :: st) (im_newS S 20 N) (im_newI S I)) : im_E X k Q pc L (.int n :: st) S I := by
  intro H locs ls hH hS hL hB
  obtain ⟨hx, hb, -, -, hown, hts, -, hSt, -, -, -⟩ := hX
  have h1 := hB.1
  have h2 := hB.2.1
  refine va_newaK (atype := .int) hx hb (hts _ hw) rfl hd rfl hn hN hb4 (by omega) (by omega) rfl fun H1 cA e1 z1 o1 hAr hNm => ?_
  have hk : ∀ (j : Nat) (x : Nat × va_E), (im_w k (S, I))[j]? = some x → H1[x.1]? = H[x.1]? := fun j x hx => o1 x.1 ((hH.2 j x hx).lt)
  have hcA : cA = kcI k := Option.some.inj (hNm.symm.trans (hSt.1.2 0 _ rfl).2)
  subst hcA
  have e3 : im_n S - xn X + 1 = im_n (im_newS S 20 N) - xn X := by rw [im_n_new]; omega
  have e4 : im_z S - xz X + N = im_z (im_newS S 20 N) - xz X := by rw [im_z_new]; omega
  rw [e3, e4]
  have hv : im_v k (.ref (im_n S + 2)) = .ref H.size := by rw [hH.1]; rfl
  have hz1 : H1.size = kB k + im_n (im_newS S 20 N) := by rw [z1, hH.1]; show kB k + im_n S + 1 = kB k + (im_n S + 1); omega
  have h0 := h H1 locs ls ⟨hz1, ?_⟩ ⟨Nat.le_trans hS.1 (by omega), fun x g1 g2 => (o1 x (Nat.lt_of_lt_of_le g1 hS.1)).trans (hS.2.1 x g1 g2), hS.2.2⟩ hL (im_new_B hB hr)
  · rw [List.map_cons, hv] at h0
    exact h0
  · rw [← im_w_push (k := k) (M := (S, I)) (M' := (im_newS S 20 N, im_newI S I)) rfl (fun b hb => im_new_e hb)]
    refine (hH.2.kept hk).app fun j x hx => ?_
    have hz : j < 1 := (List.getElem?_eq_some_iff.mp hx).1
    rw [show j = 0 by omega] at hx
    cases hx
    rw [im_e_int (M := (im_newS S 20 N, im_newI S I)) (by rw [im_k_new, if_pos rfl])]
    show H1[kB k + im_n S]? = some (vp_cell _ _)
    rw [← hH.1, e1, vp_cell_i]
    congr 2
    funext z
    show defaultValue .int = Value.int (im_newI S I (im_n S + 2) z)
    have e7 : im_newI S I (im_n S + 2) z = 0 := by simp [im_newI]
    rw [e7]
    rfl
theorem r_anew (hX : im_Ok X k Y d) {ix : Nat} {n : Int32} {N : Nat} (hd : decode Y.2.1 pc = .ok (.anewarray ix, 3)) (hw : Cond.classLink Y.1.cls ix "[I" ∈ im_W) (hn : ¬ n < 0) (hN : n.toNatClampNeg = N) (hb4 : N * 4 ≤ 536870912) (hr : im_n S + 1 - xn X ≤ (xR X).cells ∧ im_z S + N - xz X ≤ (xR X).slots)
    (h : im_E X k Q (pc + 3) L (.ref (im_n S + 2) :: st) (im_newS S 21 N) (im_newI S I)) : im_E X k Q pc L (.int n :: st) S I := by
  subst hN
  intro H locs ls hH hS hL hB
  obtain ⟨hx, hb, -, -, hown, hts, -, hSt, -, -, -⟩ := hX
  have h1 := hB.1
  have h2 := hB.2.1
  refine W.anewA (t := .int) hx hb hown (hts _ hw) (over_moved (Vm.Alike.refl _) hSt.2.2.2.2.1.2) rfl hd rfl hn hb4 (by omega) (by omega) fun cA kA comp g1 g2 g3 g4 => ?_
  have hcA : cA = kcJ k := Option.some.inj (g1.symm.trans (hSt.1.2 1 _ rfl).2)
  subst hcA
  have e3 : im_n S - xn X + 1 = im_n (im_newS S 21 n.toNatClampNeg) - xn X := by rw [im_n_new]; omega
  have e4 : im_z S - xz X + n.toNatClampNeg = im_z (im_newS S 21 n.toNatClampNeg) - xz X := by rw [im_z_new]; omega
  rw [e3, e4]
  have o1 : ∀ q : Nat, q < H.size → (H.push ({ cls := kcJ k, slots := Array.replicate n.toNatClampNeg .null, vm := .none } : Cell))[q]? = H[q]? := fun q hq => Array.getElem?_push_lt hq ▸ (Array.getElem?_eq_getElem hq).symm
  have hk : ∀ (j : Nat) (x : Nat × va_E), (im_w k (S, I))[j]? = some x → (H.push ({ cls := kcJ k, slots := Array.replicate n.toNatClampNeg .null, vm := .none } : Cell))[x.1]? = H[x.1]? := fun j x hx => o1 x.1 ((hH.2 j x hx).lt)
  have hv : im_v k (.ref (im_n S + 2)) = .ref H.size := by rw [hH.1]; rfl
  have hz1 : (H.push ({ cls := kcJ k, slots := Array.replicate n.toNatClampNeg .null, vm := .none } : Cell)).size = kB k + im_n (im_newS S 21 n.toNatClampNeg) := by rw [Array.size_push, hH.1]; show kB k + im_n S + 1 = kB k + (im_n S + 1); omega
  have h0 := h _ locs ls ⟨hz1, ?_⟩ ⟨Nat.le_trans hS.1 (by simp), fun x g1 g2 => (o1 x (Nat.lt_of_lt_of_le g1 hS.1)).trans (hS.2.1 x g1 g2), hS.2.2⟩ hL (im_new_B hB hr)
  · rw [List.map_cons, hv] at h0
    exact h0
  · rw [← im_w_push (k := k) (M := (S, I)) (M' := (im_newS S 21 n.toNatClampNeg, im_newI S I)) rfl (fun b hb => im_new_e hb)]
    refine (hH.2.kept hk).app fun j x hx => ?_
    have hz : j < 1 := (List.getElem?_eq_some_iff.mp hx).1
    rw [show j = 0 by omega] at hx
    cases hx
    rw [im_e_row (M := (im_newS S 21 n.toNatClampNeg, im_newI S I)) (by rw [im_k_new, if_pos rfl])]
    show (H.push _)[kB k + im_n S]? = some (vp_cell _ _)
    rw [← hH.1, Array.getElem?_push_size, vp_cell_q]
    congr 1
    have e7 : (fun j => va_rf (im_ro k (im_r (im_newS S 21 n.toNatClampNeg) (im_n S + 2) j))) = fun _ => Value.null := by
      funext j
      rw [im_r_new, if_pos rfl]
      rfl
    show _ = arrV (kcJ k) n.toNatClampNeg (fun j => va_rf (im_ro k (im_r (im_newS S 21 n.toNatClampNeg) (im_n S + 2) j)))
    rw [e7]
    exact arrV_new _ _ _
end R1
