/-! ROWS OF ROWS OF INTS (the law's own) -/
section R3
variable {X : im_X} {k : im_K} {Y : im_Y} {d : Nat} {Q : State → Prop} {pc : Nat} {L : List (Option Value)} {st : List Value} {S : im_S} {I : im_I}
theorem im_asg (vm : Vm) (c : ClassId) : vm.assignable c c = true := by
  show vm.assignableAux (255 + 1) c c = true
  rw [Vm.assignableAux]
  simp only [beq_self_eq_true, Bool.true_or]
theorem im_nfw : nativeFrameWords "java/lang/System" "arraycopy" 5 ≤ 20 := by decide +kernel
theorem r_ldcw (hX : im_Ok X k Y d) {ix : Nat} {v : Int32} (hd : decode Y.2.1 pc = .ok (.ldc_w ix, 3)) (hw : Cond.constant Y.1.cls ix v ∈ im_W) (h : im_E X k Q (pc + 3) L (.int v :: st) S I) : im_E X k Q pc L st S I := by
  intro H locs ls hH hS hL hB T hT X1
  obtain ⟨t, a1, b1⟩ := h H locs ls hH hS hL hB T hT X1
  refine ⟨t, ?_, b1⟩
  obtain ⟨hx, hb, -, -, hown, hts, -, -, -, -, -⟩ := hX
  obtain ⟨kc, cf, bytes, hk, hcf, hcp, hbv⟩ := Cond.constant_spec hown (hts _ hw)
  obtain ⟨k', hk', he⟩ := X1.warmed.alike.2.2 _ _ hk
  jvm_step X1.here [hx, hb, hd, ldc_w.wp_int (s := T) (f := F0 (xm X) pc ls (st.map (im_v k))) X1.here.top hk' (by rw [he]; exact hcf) hcp, hbv]
  exact a1
theorem r_aald (hX : im_Ok X k Y d) {a n x : Nat} {i : Int32} (hd : decode Y.2.1 pc = .ok (.aaload, 1)) (hk : im_k S a = (21, n)) (hi : vp_in i n) (hr : im_r S a i.toNatClampNeg = x + 1) (h : im_E X k Q (pc + 1) L (.ref x :: st) S I) : im_E X k Q pc L (.int i :: .ref a :: st) S I := by
  intro H locs ls hH hS hL hB
  obtain ⟨q, rfl, hq⟩ := im_k_lt hk (by omega)
  have he := im_w_at (k := k) (M := (S, I)) hq
  rw [im_e_row hk] at he
  have hlt : i.toNatClampNeg < n := Nat.not_le.mp fun q => hi (Or.inr q)
  refine W.aald (v := im_v k (.ref x)) (ty := .array .int) hX.1 hX.2.1 (hH.2 q _ he) ((hX.2.2.2.2.2.2.2.1.1.2 1 _ rfl).1 n (fun j => va_rf (im_ro k (im_r S (q + 2) j)))) rfl (fun z => by cases z) (by show ¬ (i < 0 ∨ (arrV _ _ _).slots.size ≤ _); rw [arrV_size]; exact hi) ?_ rfl rfl hd (h H locs ls hH hS hL hB)
  show (arrV _ _ _).slots[_]? = _
  rw [arrV_read _ _ hlt]
  show some (va_rf (im_ro k (im_r S (q + 2) i.toNatClampNeg))) = _
  rw [hr]
  rfl
theorem im_comp (hX : im_Ok X k Y d) : ∃ kA : Class, (xs X).vm.classes[kcJ k]? = some kA ∧ kA.kind = .array (kcI k) (.array .int) := by
  obtain ⟨comp, cA, kA, hcomp, -, hkA, hkind, hname⟩ := arrayOverA_spec hX.2.2.2.2.2.2.2.1.2.2.2.2.1.2
  have hK := hX.2.2.2.2.2.2.2.1.1
  have e1 : comp = kcI k := Option.some.inj (hcomp.symm.trans (hK.2 0 _ rfl).2)
  have e2 : cA = kcJ k := Option.some.inj (hname.symm.trans (hK.2 1 _ rfl).2)
  subst e1 e2
  exact ⟨kA, hkA, hkind⟩
theorem im_clsI (hX : im_Ok X k Y d) : ∃ kI : Class, (xs X).vm.classes[kcI k]? = some kI := by
  obtain ⟨kI, hkI, -⟩ := Vm.findClass_spec (hX.2.2.2.2.2.2.2.1.1.2 0 _ rfl).2
  exact ⟨kI, hkI⟩
theorem r_aast (hX : im_Ok X k Y d) {a n x m : Nat} {i : Int32} (hd : decode Y.2.1 pc = .ok (.aastore, 1)) (hk : im_k S a = (21, n)) (hi : vp_in i n) (hx : im_k S x = (20, m)) (h : im_E X k Q (pc + 1) L st (im_upr S a i.toNatClampNeg (x + 1)) I) : im_E X k Q pc L (.ref x :: .int i :: .ref a :: st) S I := by
  intro H locs ls hH hS hL hB
  obtain ⟨q, rfl, hq⟩ := im_k_lt hk (by omega)
  obtain ⟨z, rfl, hz⟩ := im_k_lt hx (by omega)
  have he := im_w_at (k := k) (M := (S, I)) hq
  rw [im_e_row hk] at he
  have hv := im_w_at (k := k) (M := (S, I)) hz
  rw [im_e_int hx] at hv
  have hlt : i.toNatClampNeg < n := Nat.not_le.mp fun q => hi (Or.inr q)
  obtain ⟨kA, hkA, hkind⟩ := im_comp hX
  obtain ⟨kI, hkI⟩ := im_clsI hX
  refine W.aast (v := kB k + z) (cv := vp_cell (kcI k) (m, .inl (I (z + 2)))) (t := .array .int) (comp := kcI k) (kcomp := kI) (kv := kI) (k := kA) hX.1 hX.2.1 (hH.2 q _ he) (fun _ e => by cases e) (fun e => by cases e) hkA hkind rfl hkI ⟨fun e => hi (Or.inl e), by show _ < (arrV _ _ _).slots.size; rw [arrV_size]; exact hlt⟩ (hH.2 z _ hv) (fun _ e => by cases e) hkI (im_asg _ _) rfl rfl hd fun H1 e zz oq => ?_
  have h2 := im_w_set (k := k) (M := (S, I)) (M' := (im_upr S (q + 2) i.toNatClampNeg (z + 2 + 1), I)) (a := q) rfl (fun b hb => im_e_congr rfl (fun j => by show im_r (im_upr S (q + 2) i.toNatClampNeg (z + 2 + 1)) b j = _; rw [im_r_upr, if_neg (fun e => hb e.1)]) (fun _ => rfl))
  refine h H1 _ ls ⟨zz.trans hH.1, ?_⟩ (hS.put zz oq (Nat.le_add_right _ _)) hL hB
  rw [← h2]
  rw [im_e_row (M := (im_upr S (q + 2) i.toNatClampNeg (z + 2 + 1), I)) hk]
  refine hH.2.set (im_w_D k _) he ?_ oq
  show H1[_]? = some (vp_cell _ _)
  rw [e]
  show some ((vp_cell _ _).setSlot _ _) = _
  rw [vp_cell_q, vp_cell_q, arrV_store]
  congr 2
  funext j
  show _ = va_rf (im_ro k (im_r (im_upr S (q + 2) i.toNatClampNeg (z + 2 + 1)) (q + 2) j))
  rw [im_r_upr]
  by_cases hj : j = i.toNatClampNeg
  · subst hj
    rw [if_pos ⟨rfl, rfl⟩]
    simp [updV]
    rfl
  · rw [if_neg (fun e => hj e.2)]
    simp [updV, hj]
/-- the references of one row copied into another -/
def im_cpr (S : im_S) (a0 a sp dp n : Nat) : im_S := (S.1, S.2.1, fun b j => if b = a then va_cpy (S.2.2 a0) (S.2.2 a) sp dp n j else S.2.2 b j)
theorem r_copy (hX : im_Ok X k Y d) {ix a0 a n0 n1 : Nat} {sp dp n : Int32} {rest : List Value} (hd : decode Y.2.1 pc = .ok (.invokestatic ix, 3)) (hw : Cond.methodLink Y.1.cls ix arraycopyName ∈ im_W) (hw2 : Cond.native arraycopyName ∈ im_W ∧ Cond.static arraycopyName ∈ im_W ∧ Cond.initialized "java/lang/System" ∈ im_W)
    (hk0 : im_k S a0 = (21, n0)) (hk1 : im_k S a = (21, n1)) (h1 : ¬ sp < 0) (h2 : ¬ dp < 0) (h3 : ¬ n < 0) (h4 : sp.toNatClampNeg + n.toNatClampNeg ≤ n0) (h5 : dp.toNatClampNeg + n.toNatClampNeg ≤ n1) (hel : ∀ i : Nat, i < n.toNatClampNeg → im_r S a0 (sp.toNatClampNeg + i) = 0 ∨ ∃ x m, im_r S a0 (sp.toNatClampNeg + i) = x + 1 ∧ im_k S x = (20, m))
    (hq : rest.length ≤ 4) (hdd : 0 < d) (hl : L.length = Y.2.2.1) (h : im_E X k Q (pc + 3) L rest (im_cpr S a0 a sp.toNatClampNeg dp.toNatClampNeg n.toNatClampNeg) I) : im_E X k Q pc L (.int n :: .int dp :: .ref a :: .int sp :: .ref a0 :: rest) S I := by
  intro H locs ls hH hS hL hB T hT X1
  obtain ⟨hx, hb, hml, hret, hown, hts, hlk, hSt, hnm, hfr, hlo⟩ := id hX
  obtain ⟨q0, rfl, hq0⟩ := im_k_lt hk0 (by omega)
  obtain ⟨q1, rfl, hq1⟩ := im_k_lt hk1 (by omega)
  have nn : ∀ z : Int32, ¬ z < 0 → z.toInt = (z.toNatClampNeg : Int) := by
    intro z hz
    have hz0 : (0 : Int) ≤ z.toInt := by
      have := Int32.not_lt.mp hz
      simpa using Int32.le_iff_toInt_le.mp this
    show z.toInt = ((z.toInt.toNat : Nat) : Int)
    omega
  have he0 := im_w_at (k := k) (M := (S, I)) hq0
  rw [im_e_row hk0] at he0
  have he1 := im_w_at (k := k) (M := (S, I)) hq1
  rw [im_e_row hk1] at he1
  have hc0 := hH.2 q0 _ he0
  have hc1 := hH.2 q1 _ he1
  obtain ⟨kA, hkA, hkind⟩ := im_comp hX
  obtain ⟨kI, hkI⟩ := im_clsI hX
  have hcat := im_catsum (rest.map (im_v k))
  rw [List.length_map] at hcat
  obtain ⟨vm', X', step⟩ := X1.arraycopy hx hown (hts _ hw) (hts _ hw2.1) (hts _ hw2.2.1) (hts _ hw2.2.2) (src := kB k + q0) (dst := kB k + q1) (cs := vp_cell (kcJ k) (n0, .inr (.inr (.inr (.inr (fun j => im_ro k (im_r S (q0 + 2) j))))))) (cd := vp_cell (kcJ k) (n1, .inr (.inr (.inr (.inr (fun j => im_ro k (im_r S (q1 + 2) j))))))) (srcPos := sp) (destPos := dp) (n := n) (by rw [hT]; exact hc0) (by rw [hT]; exact hc1)
    (fun _ h => by cases h) (fun _ h => by cases h) (fun h => by cases h) (fun h => by cases h) hkA hkA hkind hkind rfl h1 h2 h3
    (by rw [nn sp h1, nn n h3]; show ¬ _ > ((arrV _ n0 (fun j => va_rf (im_ro k (im_r S (q0 + 2) j)))).slots.size : Int); rw [arrV_size]; omega)
    (by rw [nn dp h2, nn n h3]; show ¬ _ > ((arrV _ n1 (fun j => va_rf (im_ro k (im_r S (q1 + 2) j)))).slots.size : Int); rw [arrV_size]; omega)
    (fun vm₁ hal i hi => by
      have e : (vp_cell (kcJ k) (n0, .inr (.inr (.inr (.inr (fun j => im_ro k (im_r S (q0 + 2) j))))))).slots.getD (sp.toNatClampNeg + i) .null = va_rf (im_ro k (im_r S (q0 + 2) (sp.toNatClampNeg + i))) := by
        show (arrV _ n0 (fun j => va_rf (im_ro k (im_r S (q0 + 2) j)))).slots.getD _ _ = _
        rw [Array.getD_eq_getD_getElem?, arrV_read _ _ (by omega)]
        rfl
      rw [e]
      rcases hel i hi with hy | ⟨x, m, hy, hkx⟩
      · rw [hy]; exact ⟨rfl, trivial⟩
      · rw [hy]
        obtain ⟨z, rfl, hz⟩ := im_k_lt hkx (by omega)
        have hv := im_w_at (k := k) (M := (S, I)) hz
        rw [im_e_int hkx] at hv
        have hcv := hH.2 z _ hv
        obtain ⟨kI', hkI', -⟩ := hal.2.2 _ _ hkI
        refine ⟨rfl, _, (show T.heap[kB k + z]? = some (vp_cell (kcI k) (m, .inl (I (z + 2)))) by rw [hT]; exact hcv), (fun q h => by cases h), ⟨kI', hkI'⟩, ⟨kI', hkI'⟩, ?_⟩
        exact im_asg _ _)
    (g := F0 (xm X) pc ls (.int n :: .int dp :: .ref (kB k + q1) :: .int sp :: .ref (kB k + q0) :: rest.map (im_v k))) rfl (by rw [hml]; exact hL.1.trans hl) (rest := rest.map (im_v k)) rfl (by rw [hb]; exact hd) (by omega) (by have := im_nfw; show 2 * 0 + _ + (nativeFrameWords "java/lang/System" "arraycopy" 5 + 11) ≤ _; omega)
  have e1 : copied (vp_cell (kcJ k) (n0, .inr (.inr (.inr (.inr (fun j => im_ro k (im_r S (q0 + 2) j))))))) (vp_cell (kcJ k) (n1, .inr (.inr (.inr (.inr (fun j => im_ro k (im_r S (q1 + 2) j))))))) sp dp n = vp_cell (kcJ k) (n1, .inr (.inr (.inr (.inr (va_cpy (fun j => im_ro k (im_r S (q0 + 2) j)) (fun j => im_ro k (im_r S (q1 + 2) j)) sp.toNatClampNeg dp.toNatClampNeg n.toNatClampNeg))))) := by
    rw [vp_cell_q, vp_cell_q, vp_cell_q]
    exact va_copied (fun z => va_rf z) (kcJ k) (kcJ k) (fun j => im_ro k (im_r S (q0 + 2) j)) (fun j => im_ro k (im_r S (q1 + 2) j)) h4
  rw [e1] at X' step
  have ecp : va_cpy (fun j => im_ro k (im_r S (q0 + 2) j)) (fun j => im_ro k (im_r S (q1 + 2) j)) sp.toNatClampNeg dp.toNatClampNeg n.toNatClampNeg = fun j => im_ro k (im_r (im_cpr S (q0 + 2) (q1 + 2) sp.toNatClampNeg dp.toNatClampNeg n.toNatClampNeg) (q1 + 2) j) := by
    funext j
    show _ = im_ro k (if q1 + 2 = q1 + 2 then va_cpy (S.2.2 (q0 + 2)) (S.2.2 (q1 + 2)) _ _ _ j else _)
    rw [if_pos rfl]
    unfold va_cpy im_r
    split <;> rfl
  rw [ecp] at X' step
  generalize hcell : vp_cell (kcJ k) (n1, .inr (.inr (.inr (.inr (fun j => im_ro k (im_r (im_cpr S (q0 + 2) (q1 + 2) sp.toNatClampNeg dp.toNatClampNeg n.toNatClampNeg) (q1 + 2) j)))))) = cellN at X' step
  have hl2 : kB k + q1 < H.size := (Array.getElem?_eq_some_iff.mp hc1).1
  have hheap : ((T.setVm vm').setCell (kB k + q1) cellN).heap = H.setIfInBounds (kB k + q1) cellN := by rw [← hT]; rfl
  have oq : ∀ q : Nat, q ≠ kB k + q1 → (H.setIfInBounds (kB k + q1) cellN)[q]? = H[q]? := fun q hq => by simp [Array.getElem?_setIfInBounds, Ne.symm hq]
  have hw3 := im_w_set (k := k) (M := (S, I)) (M' := (im_cpr S (q0 + 2) (q1 + 2) sp.toNatClampNeg dp.toNatClampNeg n.toNatClampNeg, I)) (a := q1) rfl (fun b hb => im_e_congr rfl (fun j => by show (if b = q1 + 2 then _ else S.2.2 b j) = S.2.2 b j; rw [if_neg hb]) (fun _ => rfl))
  obtain ⟨t, a1, b1⟩ := h (H.setIfInBounds (kB k + q1) cellN) _ ls ⟨by rw [Array.size_setIfInBounds]; exact hH.1, (by
      rw [← hw3, im_e_row (M := (im_cpr S (q0 + 2) (q1 + 2) sp.toNatClampNeg dp.toNatClampNeg n.toNatClampNeg, I)) hk1]
      refine hH.2.set (im_w_D k _) he1 ?_ oq
      show (H.setIfInBounds _ _)[_]? = some (vp_cell _ _)
      rw [hcell]
      simp [Array.getElem?_setIfInBounds, hl2])⟩ ⟨by simp; exact hS.1, fun q g1 g2 => by
      rw [oq q (fun e => g2 (by rw [e]; exact Nat.le_add_right _ _))]
      exact hS.2.1 q g1 g2, fun q hq => by
      rcases List.mem_append.mp hq with h | h
      · exact hS.2.2 q h
      · obtain ⟨z, -, hz⟩ := List.mem_map.mp h
        rw [← hz]
        exact Nat.le_add_right _ _⟩ hL hB _ hheap X'
  exact ⟨t, step t a1, b1⟩
end R3
