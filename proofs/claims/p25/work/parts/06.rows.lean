/-! THE ROWS: an instruction each -/
section R0
variable {X : im_X} {k : im_K} {Y : im_Y} {d : Nat} {Q : State → Prop} {pc : Nat} {L : List (Option Value)} {st : List Value} {S : im_S} {I : im_I}
theorem r_iconst (hX : im_Ok X k Y d) {n : Int} (v : Int32) (hd : decode Y.2.1 pc = .ok (.iconst n, 1)) (hv : Int32.ofInt n = v) (h : im_E X k Q (pc + 1) L (.int v :: st) S I) : im_E X k Q pc L st S I :=
  fun H locs ls hH hS hL hB => lv_iconst hX.1 hX.2.1 hd hv (h H locs ls hH hS hL hB)
theorem r_bipush (hX : im_Ok X k Y d) {n : Int} (v : Int32) (hd : decode Y.2.1 pc = .ok (.bipush n, 2)) (hv : (Int8.ofInt n).toInt32 = v) (h : im_E X k Q (pc + 2) L (.int v :: st) S I) : im_E X k Q pc L st S I :=
  fun H locs ls hH hS hL hB => lv_bipush hX.1 hX.2.1 hd hv (h H locs ls hH hS hL hB)
theorem r_sipush (hX : im_Ok X k Y d) {n : Int} (v : Int32) (hd : decode Y.2.1 pc = .ok (.sipush n, 3)) (hv : (Int16.ofInt n).toInt32 = v) (h : im_E X k Q (pc + 3) L (.int v :: st) S I) : im_E X k Q pc L st S I :=
  fun H locs ls hH hS hL hB => lv_sipush hX.1 hX.2.1 hd hv (h H locs ls hH hS hL hB)
theorem r_ldc (hX : im_Ok X k Y d) {ix : Nat} {v : Int32} (hd : decode Y.2.1 pc = .ok (.ldc ix, 2)) (hw : Cond.constant Y.1.cls ix v ∈ im_W) (h : im_E X k Q (pc + 2) L (.int v :: st) S I) : im_E X k Q pc L st S I :=
  fun H locs ls hH hS hL hB => lv_ldc hX.1 hX.2.1 hX.2.2.2.2.1 (hX.2.2.2.2.2.1 _ hw) hd (h H locs ls hH hS hL hB)
theorem r_ldc2 (hX : im_Ok X k Y d) {ix : Nat} {v : Int64} (hd : decode Y.2.1 pc = .ok (.ldc2_w ix, 3)) (hw : Cond.constantLong Y.1.cls ix v ∈ im_W) (h : im_E X k Q (pc + 3) L (.long v :: st) S I) : im_E X k Q pc L st S I :=
  fun H locs ls hH hS hL hB => lv_ldc2 hX.1 hX.2.1 hX.2.2.2.2.1 (hX.2.2.2.2.2.1 _ hw) hd (h H locs ls hH hS hL hB)
-- locals
theorem r_iload_n (hX : im_Ok X k Y d) {j : Fin 4} {x : Int32} (hd : decode Y.2.1 pc = .ok (.iload_n j, 1)) (hl : L[(j : Nat)]? = some (some (.int x))) (h : im_E X k Q (pc + 1) L (.int x :: st) S I) : im_E X k Q pc L st S I :=
  fun H locs ls hH hS hL hB => lv_iload_n hX.1 hX.2.1 hd rfl (hL.2.2 _ _ hl) (h H locs ls hH hS hL hB)
theorem r_iload (hX : im_Ok X k Y d) {j : Nat} {x : Int32} (hd : decode Y.2.1 pc = .ok (.iload j, 2)) (hl : L[j]? = some (some (.int x))) (h : im_E X k Q (pc + 2) L (.int x :: st) S I) : im_E X k Q pc L st S I :=
  fun H locs ls hH hS hL hB => lv_iload hX.1 hX.2.1 hd (hL.2.2 _ _ hl) (h H locs ls hH hS hL hB)
theorem r_lload_n (hX : im_Ok X k Y d) {j : Fin 4} {x : Int64} (hd : decode Y.2.1 pc = .ok (.lload_n j, 1)) (hl : L[(j : Nat)]? = some (some (.long x))) (h : im_E X k Q (pc + 1) L (.long x :: st) S I) : im_E X k Q pc L st S I :=
  fun H locs ls hH hS hL hB => lv_lload_n hX.1 hX.2.1 hd rfl (hL.2.2 _ _ hl) (h H locs ls hH hS hL hB)
theorem r_lload (hX : im_Ok X k Y d) {j : Nat} {x : Int64} (hd : decode Y.2.1 pc = .ok (.lload j, 2)) (hl : L[j]? = some (some (.long x))) (h : im_E X k Q (pc + 2) L (.long x :: st) S I) : im_E X k Q pc L st S I :=
  fun H locs ls hH hS hL hB => lv_lload hX.1 hX.2.1 hd (hL.2.2 _ _ hl) (h H locs ls hH hS hL hB)
theorem r_aload_n (hX : im_Ok X k Y d) {j : Fin 4} {x : Nat} (hd : decode Y.2.1 pc = .ok (.aload_n j, 1)) (hl : L[(j : Nat)]? = some (some (.ref x))) (h : im_E X k Q (pc + 1) L (.ref x :: st) S I) : im_E X k Q pc L st S I :=
  fun H locs ls hH hS hL hB => lv_aload_n hX.1 hX.2.1 hd rfl (hL.2.2 _ _ hl) (h H locs ls hH hS hL hB)
theorem r_aload (hX : im_Ok X k Y d) {j : Nat} {x : Nat} (hd : decode Y.2.1 pc = .ok (.aload j, 2)) (hl : L[j]? = some (some (.ref x))) (h : im_E X k Q (pc + 2) L (.ref x :: st) S I) : im_E X k Q pc L st S I :=
  fun H locs ls hH hS hL hB => lv_aload hX.1 hX.2.1 hd (hL.2.2 _ _ hl) (h H locs ls hH hS hL hB)
/-- the locals as the kit has them -/
def im_as (k : im_K) (L : List (Option Value)) : List (Nat × Value) := (List.range L.length).filterMap fun i => match L[i]? with | some (some v) => some (i, im_v k v) | _ => none
theorem im_as_mem {k : im_K} {L : List (Option Value)} {i : Nat} {v : Value} (h : L[i]? = some (some v)) : (i, im_v k v) ∈ im_as k L := by
  refine List.mem_filterMap.mpr ⟨i, List.mem_range.mpr (List.getElem?_eq_some_iff.mp h).1, ?_⟩
  rw [h]
theorem im_as_inv {k : im_K} {L : List (Option Value)} {q : Nat × Value} (h : q ∈ im_as k L) : ∃ v, L[q.1]? = some (some v) ∧ q.2 = im_v k v := by
  obtain ⟨i, -, hi⟩ := List.mem_filterMap.mp h
  split at hi
  · rename_i v hv
    cases hi
    exact ⟨v, hv, rfl⟩
  · cases hi
theorem im_as_has {k : im_K} {L : List (Option Value)} {ls : Array Slot} (h : im_L k L ls) : lv_has ls L.length (im_as k L) := by
  refine ⟨h.1, h.2.1, fun q hq => ?_⟩
  obtain ⟨v, h1, h2⟩ := im_as_inv hq
  rw [h2]
  exact h.2.2 _ _ h1
/-- no long stands just ahead of i -/
def im_free (L : List (Option Value)) (i : Nat) : Bool := match i with
  | 0 => true
  | j + 1 => match L[j]? with
    | some (some v) => v.category != 2
    | _ => true
theorem im_free_at {L : List (Option Value)} {i j : Nat} {v : Value} (h : im_free L i = true) (h1 : L[j]? = some (some v)) (hj : j + 1 = i) : v.category ≠ 2 := by
  subst hj
  simp only [im_free, h1] at h
  simpa using h
theorem im_set1 {k : im_K} {L L' : List (Option Value)} {ls' : Array Slot} {i : Nat} {v : Value} (hL' : L.set i (some v) = L') (hf : im_free L i = true) (h : lv_has ls' L.length ((i, im_v k v) :: (im_as k L).filter (fun q => !(q.1 == i) && !(q.1 + 1 == i && q.2.category == 2)))) : im_L k L' ls' := by
  subst hL'
  refine ⟨by simpa using h.1, h.2.1, fun j w hj => ?_⟩
  rw [List.getElem?_set] at hj
  by_cases e : i = j
  · subst e
    rw [if_pos rfl] at hj
    split at hj
    · cases hj
      exact h.2.2 _ List.mem_cons_self
    · cases hj
  · rw [if_neg e] at hj
    refine h.2.2 (j, im_v k w) (List.mem_cons_of_mem _ (List.mem_filter.mpr ⟨im_as_mem hj, ?_⟩))
    have e1 : (j == i) = false := by simpa using fun q => e q.symm
    simp only [e1, Bool.not_false, Bool.true_and]
    by_cases e2 : j + 1 = i
    · have := im_free_at hf hj e2
      simp [im_v_cat, this]
    · simp [e2]
theorem im_set2 {k : im_K} {L L' : List (Option Value)} {ls' : Array Slot} {i : Nat} {v : Value} (hL' : (L.set i (some v)).set (i + 1) none = L') (hf : im_free L i = true) (h : lv_has ls' L.length ((i, im_v k v) :: (im_as k L).filter (fun q => !(q.1 == i) && (!(q.1 == i + 1) && !(q.1 + 1 == i && q.2.category == 2))))) : im_L k L' ls' := by
  subst hL'
  refine ⟨by simpa using h.1, h.2.1, fun j w hj => ?_⟩
  rw [List.getElem?_set] at hj
  by_cases e0 : i + 1 = j
  · rw [if_pos e0] at hj
    split at hj <;> cases hj
  · rw [if_neg e0, List.getElem?_set] at hj
    by_cases e : i = j
    · subst e
      rw [if_pos rfl] at hj
      split at hj
      · cases hj
        exact h.2.2 _ List.mem_cons_self
      · cases hj
    · rw [if_neg e] at hj
      refine h.2.2 (j, im_v k w) (List.mem_cons_of_mem _ (List.mem_filter.mpr ⟨im_as_mem hj, ?_⟩))
      have e1 : (j == i) = false := by simpa using fun q => e q.symm
      have e3 : (j == i + 1) = false := by simpa using fun q => e0 q.symm
      simp only [e1, e3, Bool.not_false, Bool.true_and]
      by_cases e2 : j + 1 = i
      · have := im_free_at hf hj e2
        simp [im_v_cat, this]
      · simp [e2]
theorem r_istore_n (hX : im_Ok X k Y d) {j : Fin 4} {x : Int32} {L' : List (Option Value)} (hd : decode Y.2.1 pc = .ok (.istore_n j, 1)) (hl : L.set (j : Nat) (some (.int x)) = L') (hf : im_free L (j : Nat) = true) (hj : (j : Nat) < L.length) (h : im_E X k Q (pc + 1) L' st S I) : im_E X k Q pc L (.int x :: st) S I :=
  fun H locs ls hH hS hL hB => lv_istore_n hX.1 hX.2.1 hd rfl (im_as_has hL) hj rfl fun ls' h' => h H locs ls' hH hS (im_set1 (v := .int x) hl hf h') hB
theorem r_istore (hX : im_Ok X k Y d) {j : Nat} {x : Int32} {L' : List (Option Value)} (hd : decode Y.2.1 pc = .ok (.istore j, 2)) (hl : L.set j (some (.int x)) = L') (hf : im_free L j = true) (hj : j < L.length) (h : im_E X k Q (pc + 2) L' st S I) : im_E X k Q pc L (.int x :: st) S I :=
  fun H locs ls hH hS hL hB => lv_istore hX.1 hX.2.1 hd (im_as_has hL) hj rfl fun ls' h' => h H locs ls' hH hS (im_set1 (v := .int x) hl hf h') hB
theorem r_astore_n (hX : im_Ok X k Y d) {j : Fin 4} {x : Nat} {L' : List (Option Value)} (hd : decode Y.2.1 pc = .ok (.astore_n j, 1)) (hl : L.set (j : Nat) (some (.ref x)) = L') (hf : im_free L (j : Nat) = true) (hj : (j : Nat) < L.length) (h : im_E X k Q (pc + 1) L' st S I) : im_E X k Q pc L (.ref x :: st) S I :=
  fun H locs ls hH hS hL hB => lv_astore_n hX.1 hX.2.1 hd rfl (im_as_has hL) hj rfl fun ls' h' => h H locs ls' hH hS (im_set1 (v := .ref x) hl hf h') hB
theorem r_astore (hX : im_Ok X k Y d) {j : Nat} {x : Nat} {L' : List (Option Value)} (hd : decode Y.2.1 pc = .ok (.astore j, 2)) (hl : L.set j (some (.ref x)) = L') (hf : im_free L j = true) (hj : j < L.length) (h : im_E X k Q (pc + 2) L' st S I) : im_E X k Q pc L (.ref x :: st) S I :=
  fun H locs ls hH hS hL hB => lv_astore hX.1 hX.2.1 hd (im_as_has hL) hj rfl fun ls' h' => h H locs ls' hH hS (im_set1 (v := .ref x) hl hf h') hB
theorem r_lstore_n (hX : im_Ok X k Y d) {j : Fin 4} {x : Int64} {L' : List (Option Value)} (hd : decode Y.2.1 pc = .ok (.lstore_n j, 1)) (hl : (L.set (j : Nat) (some (.long x))).set ((j : Nat) + 1) none = L') (hf : im_free L (j : Nat) = true) (hj : (j : Nat) + 1 < L.length) (h : im_E X k Q (pc + 1) L' st S I) : im_E X k Q pc L (.long x :: st) S I :=
  fun H locs ls hH hS hL hB => lv_lstore_n hX.1 hX.2.1 hd rfl (im_as_has hL) hj rfl fun ls' h' => h H locs ls' hH hS (im_set2 (v := .long x) hl hf h') hB
theorem r_lstore (hX : im_Ok X k Y d) {j : Nat} {x : Int64} {L' : List (Option Value)} (hd : decode Y.2.1 pc = .ok (.lstore j, 2)) (hl : (L.set j (some (.long x))).set (j + 1) none = L') (hf : im_free L j = true) (hj : j + 1 < L.length) (h : im_E X k Q (pc + 2) L' st S I) : im_E X k Q pc L (.long x :: st) S I :=
  fun H locs ls hH hS hL hB => lv_lstore hX.1 hX.2.1 hd (im_as_has hL) hj rfl fun ls' h' => h H locs ls' hH hS (im_set2 (v := .long x) hl hf h') hB
theorem im_as_get {k : im_K} {L : List (Option Value)} {i : Nat} {v : Value} (h : L[i]? = some (some v)) : ∃ z : Nat, (im_as k L)[z]? = some (i, im_v k v) := List.getElem?_of_mem (im_as_mem h)
theorem r_iinc (hX : im_Ok X k Y d) {j : Nat} {n : Int} {x : Int32} (v : Int32) {L' : List (Option Value)} (hd : decode Y.2.1 pc = .ok (.iinc j n, 3)) (hx : L[j]? = some (some (.int x))) (hv : Int32.ofInt n = v) (hl : L.set j (some (.int (x + v))) = L') (hf : im_free L j = true) (h : im_E X k Q (pc + 3) L' st S I) : im_E X k Q pc L st S I := by
  intro H locs ls hH hS hL hB
  obtain ⟨z, hz⟩ := im_as_get (k := k) hx
  exact lv_iinc hX.1 hX.2.1 hd (im_as_has hL) hz (by rw [hv]) (List.getElem?_eq_some_iff.mp hx).1 rfl fun ls' h' => h H locs ls' hH hS (im_set1 (v := .int (x + v)) hl hf h') hB
-- numbers
theorem r_iadd (hX : im_Ok X k Y d) {x y : Int32} (hd : decode Y.2.1 pc = .ok (.iadd, 1)) (h : im_E X k Q (pc + 1) L (.int (x + y) :: st) S I) : im_E X k Q pc L (.int y :: .int x :: st) S I :=
  fun H locs ls hH hS hL hB => lv_iadd hX.1 hX.2.1 hd (h H locs ls hH hS hL hB)
theorem r_isub (hX : im_Ok X k Y d) {x y : Int32} (hd : decode Y.2.1 pc = .ok (.isub, 1)) (h : im_E X k Q (pc + 1) L (.int (x - y) :: st) S I) : im_E X k Q pc L (.int y :: .int x :: st) S I :=
  fun H locs ls hH hS hL hB => lv_isub hX.1 hX.2.1 hd (h H locs ls hH hS hL hB)
theorem r_imul (hX : im_Ok X k Y d) {x y : Int32} (hd : decode Y.2.1 pc = .ok (.imul, 1)) (h : im_E X k Q (pc + 1) L (.int (x * y) :: st) S I) : im_E X k Q pc L (.int y :: .int x :: st) S I :=
  fun H locs ls hH hS hL hB => lv_imul hX.1 hX.2.1 hd (h H locs ls hH hS hL hB)
theorem r_iand (hX : im_Ok X k Y d) {x y : Int32} (hd : decode Y.2.1 pc = .ok (.iand, 1)) (h : im_E X k Q (pc + 1) L (.int (x &&& y) :: st) S I) : im_E X k Q pc L (.int y :: .int x :: st) S I :=
  fun H locs ls hH hS hL hB => lv_iand hX.1 hX.2.1 hd (h H locs ls hH hS hL hB)
theorem r_ior (hX : im_Ok X k Y d) {x y : Int32} (hd : decode Y.2.1 pc = .ok (.ior, 1)) (h : im_E X k Q (pc + 1) L (.int (x ||| y) :: st) S I) : im_E X k Q pc L (.int y :: .int x :: st) S I :=
  fun H locs ls hH hS hL hB => lv_ior hX.1 hX.2.1 hd (h H locs ls hH hS hL hB)
theorem r_ixor (hX : im_Ok X k Y d) {x y : Int32} (hd : decode Y.2.1 pc = .ok (.ixor, 1)) (h : im_E X k Q (pc + 1) L (.int (x ^^^ y) :: st) S I) : im_E X k Q pc L (.int y :: .int x :: st) S I :=
  fun H locs ls hH hS hL hB => lv_ixor hX.1 hX.2.1 hd (h H locs ls hH hS hL hB)
theorem r_ineg (hX : im_Ok X k Y d) {x : Int32} (hd : decode Y.2.1 pc = .ok (.ineg, 1)) (h : im_E X k Q (pc + 1) L (.int (-x) :: st) S I) : im_E X k Q pc L (.int x :: st) S I :=
  fun H locs ls hH hS hL hB => lv_ineg hX.1 hX.2.1 hd (h H locs ls hH hS hL hB)
theorem r_ishl (hX : im_Ok X k Y d) {x y : Int32} (hd : decode Y.2.1 pc = .ok (.ishl, 1)) (h : im_E X k Q (pc + 1) L (.int (x <<< (y &&& 31)) :: st) S I) : im_E X k Q pc L (.int y :: .int x :: st) S I :=
  fun H locs ls hH hS hL hB => lv_ishl hX.1 hX.2.1 hd (h H locs ls hH hS hL hB)
theorem r_ishr (hX : im_Ok X k Y d) {x y : Int32} (hd : decode Y.2.1 pc = .ok (.ishr, 1)) (h : im_E X k Q (pc + 1) L (.int (x >>> (y &&& 31)) :: st) S I) : im_E X k Q pc L (.int y :: .int x :: st) S I :=
  fun H locs ls hH hS hL hB => lv_ishr hX.1 hX.2.1 hd (h H locs ls hH hS hL hB)
theorem r_iushr (hX : im_Ok X k Y d) {x y : Int32} (hd : decode Y.2.1 pc = .ok (.iushr, 1)) (h : im_E X k Q (pc + 1) L (.int ((x.toUInt32 >>> (y.toUInt32 &&& Int32.toUInt32 31)).toInt32) :: st) S I) : im_E X k Q pc L (.int y :: .int x :: st) S I :=
  fun H locs ls hH hS hL hB => lv_iushr hX.1 hX.2.1 hd rfl (h H locs ls hH hS hL hB)
theorem r_idiv (hX : im_Ok X k Y d) {x y : Int32} (hd : decode Y.2.1 pc = .ok (.idiv, 1)) (hy : ¬ y = 0) (h : im_E X k Q (pc + 1) L (.int (x / y) :: st) S I) : im_E X k Q pc L (.int y :: .int x :: st) S I :=
  fun H locs ls hH hS hL hB => lv_idiv hX.1 hX.2.1 hd hy (h H locs ls hH hS hL hB)
theorem r_irem (hX : im_Ok X k Y d) {x y : Int32} (hd : decode Y.2.1 pc = .ok (.irem, 1)) (hy : ¬ y = 0) (h : im_E X k Q (pc + 1) L (.int (x - x / y * y) :: st) S I) : im_E X k Q pc L (.int y :: .int x :: st) S I :=
  fun H locs ls hH hS hL hB => lv_irem hX.1 hX.2.1 hd hy (h H locs ls hH hS hL hB)
theorem r_ladd (hX : im_Ok X k Y d) {x y : Int64} (hd : decode Y.2.1 pc = .ok (.ladd, 1)) (h : im_E X k Q (pc + 1) L (.long (x + y) :: st) S I) : im_E X k Q pc L (.long y :: .long x :: st) S I :=
  fun H locs ls hH hS hL hB => lv_ladd hX.1 hX.2.1 hd (h H locs ls hH hS hL hB)
theorem r_lmul (hX : im_Ok X k Y d) {x y : Int64} (hd : decode Y.2.1 pc = .ok (.lmul, 1)) (h : im_E X k Q (pc + 1) L (.long (x * y) :: st) S I) : im_E X k Q pc L (.long y :: .long x :: st) S I :=
  fun H locs ls hH hS hL hB => lv_lmul hX.1 hX.2.1 hd (h H locs ls hH hS hL hB)
theorem r_i2l (hX : im_Ok X k Y d) {x : Int32} (hd : decode Y.2.1 pc = .ok (.i2l, 1)) (h : im_E X k Q (pc + 1) L (.long x.toInt64 :: st) S I) : im_E X k Q pc L (.int x :: st) S I :=
  fun H locs ls hH hS hL hB => lv_i2l hX.1 hX.2.1 hd rfl (h H locs ls hH hS hL hB)
theorem r_lcmp (hX : im_Ok X k Y d) {x y : Int64} (hd : decode Y.2.1 pc = .ok (.lcmp, 1)) (h : im_E X k Q (pc + 1) L (.int (lg_cmp x y) :: st) S I) : im_E X k Q pc L (.long y :: .long x :: st) S I :=
  fun H locs ls hH hS hL hB => W.lcmp hX.1 hX.2.1 hd (h H locs ls hH hS hL hB)
theorem r_dup (hX : im_Ok X k Y d) {v : Value} (hd : decode Y.2.1 pc = .ok (.dup, 1)) (hc : v.category = 1) (h : im_E X k Q (pc + 1) L (v :: v :: st) S I) : im_E X k Q pc L (v :: st) S I :=
  fun H locs ls hH hS hL hB => lv_dup hX.1 hX.2.1 hd (by rw [im_v_cat]; exact hc) (h H locs ls hH hS hL hB)
theorem r_pop (hX : im_Ok X k Y d) {v : Value} (hd : decode Y.2.1 pc = .ok (.pop, 1)) (hc : v.category = 1) (h : im_E X k Q (pc + 1) L st S I) : im_E X k Q pc L (v :: st) S I :=
  fun H locs ls hH hS hL hB => lv_pop hX.1 hX.2.1 hd (by rw [im_v_cat]; exact hc) (h H locs ls hH hS hL hB)
theorem r_goto (hX : im_Ok X k Y d) {off : Int} {tgt : Nat} (hd : decode Y.2.1 pc = .ok (.goto off, 3)) (ht : (pc : Int) + off = (tgt : Int)) (h : im_E X k Q tgt L st S I) : im_E X k Q pc L st S I :=
  fun H locs ls hH hS hL hB => lv_goto hX.1 hX.2.1 hd ht (h H locs ls hH hS hL hB)
theorem r_icmp_eq (hX : im_Ok X k Y d) {x y : Int32} {off : Int} (tgt : Nat) (hd : decode Y.2.1 pc = .ok (.if_icmp .eq off, 3)) (ht : (pc : Int) + off = (tgt : Int)) (h1 : x = y → im_E X k Q tgt L st S I) (h2 : ¬ x = y → im_E X k Q (pc + 3) L st S I) : im_E X k Q pc L (.int y :: .int x :: st) S I :=
  fun H locs ls hH hS hL hB => lv_icmp_eq hX.1 hX.2.1 hd ht (fun c => h1 c H locs ls hH hS hL hB) (fun c => h2 c H locs ls hH hS hL hB)
theorem r_if_eq (hX : im_Ok X k Y d) {x : Int32} {off : Int} (tgt : Nat) (hd : decode Y.2.1 pc = .ok (.ifCond .eq off, 3)) (ht : (pc : Int) + off = (tgt : Int)) (h1 : x = 0 → im_E X k Q tgt L st S I) (h2 : ¬ x = 0 → im_E X k Q (pc + 3) L st S I) : im_E X k Q pc L (.int x :: st) S I :=
  fun H locs ls hH hS hL hB => lv_if_eq hX.1 hX.2.1 hd ht (fun c => h1 c H locs ls hH hS hL hB) (fun c => h2 c H locs ls hH hS hL hB)
theorem r_icmp_ne (hX : im_Ok X k Y d) {x y : Int32} {off : Int} (tgt : Nat) (hd : decode Y.2.1 pc = .ok (.if_icmp .ne off, 3)) (ht : (pc : Int) + off = (tgt : Int)) (h1 : ¬ x = y → im_E X k Q tgt L st S I) (h2 : x = y → im_E X k Q (pc + 3) L st S I) : im_E X k Q pc L (.int y :: .int x :: st) S I :=
  fun H locs ls hH hS hL hB => lv_icmp_ne hX.1 hX.2.1 hd ht (fun c => h1 c H locs ls hH hS hL hB) (fun c => h2 c H locs ls hH hS hL hB)
theorem r_if_ne (hX : im_Ok X k Y d) {x : Int32} {off : Int} (tgt : Nat) (hd : decode Y.2.1 pc = .ok (.ifCond .ne off, 3)) (ht : (pc : Int) + off = (tgt : Int)) (h1 : ¬ x = 0 → im_E X k Q tgt L st S I) (h2 : x = 0 → im_E X k Q (pc + 3) L st S I) : im_E X k Q pc L (.int x :: st) S I :=
  fun H locs ls hH hS hL hB => lv_if_ne hX.1 hX.2.1 hd ht (fun c => h1 c H locs ls hH hS hL hB) (fun c => h2 c H locs ls hH hS hL hB)
theorem r_icmp_lt (hX : im_Ok X k Y d) {x y : Int32} {off : Int} (tgt : Nat) (hd : decode Y.2.1 pc = .ok (.if_icmp .lt off, 3)) (ht : (pc : Int) + off = (tgt : Int)) (h1 : x < y → im_E X k Q tgt L st S I) (h2 : ¬ x < y → im_E X k Q (pc + 3) L st S I) : im_E X k Q pc L (.int y :: .int x :: st) S I :=
  fun H locs ls hH hS hL hB => lv_icmp_lt hX.1 hX.2.1 hd ht (fun c => h1 c H locs ls hH hS hL hB) (fun c => h2 c H locs ls hH hS hL hB)
theorem r_if_lt (hX : im_Ok X k Y d) {x : Int32} {off : Int} (tgt : Nat) (hd : decode Y.2.1 pc = .ok (.ifCond .lt off, 3)) (ht : (pc : Int) + off = (tgt : Int)) (h1 : x < 0 → im_E X k Q tgt L st S I) (h2 : ¬ x < 0 → im_E X k Q (pc + 3) L st S I) : im_E X k Q pc L (.int x :: st) S I :=
  fun H locs ls hH hS hL hB => lv_if_lt hX.1 hX.2.1 hd ht (fun c => h1 c H locs ls hH hS hL hB) (fun c => h2 c H locs ls hH hS hL hB)
theorem r_icmp_ge (hX : im_Ok X k Y d) {x y : Int32} {off : Int} (tgt : Nat) (hd : decode Y.2.1 pc = .ok (.if_icmp .ge off, 3)) (ht : (pc : Int) + off = (tgt : Int)) (h1 : y ≤ x → im_E X k Q tgt L st S I) (h2 : ¬ y ≤ x → im_E X k Q (pc + 3) L st S I) : im_E X k Q pc L (.int y :: .int x :: st) S I :=
  fun H locs ls hH hS hL hB => lv_icmp_ge hX.1 hX.2.1 hd ht (fun c => h1 c H locs ls hH hS hL hB) (fun c => h2 c H locs ls hH hS hL hB)
theorem r_if_ge (hX : im_Ok X k Y d) {x : Int32} {off : Int} (tgt : Nat) (hd : decode Y.2.1 pc = .ok (.ifCond .ge off, 3)) (ht : (pc : Int) + off = (tgt : Int)) (h1 : 0 ≤ x → im_E X k Q tgt L st S I) (h2 : ¬ 0 ≤ x → im_E X k Q (pc + 3) L st S I) : im_E X k Q pc L (.int x :: st) S I :=
  fun H locs ls hH hS hL hB => lv_if_ge hX.1 hX.2.1 hd ht (fun c => h1 c H locs ls hH hS hL hB) (fun c => h2 c H locs ls hH hS hL hB)
theorem r_icmp_gt (hX : im_Ok X k Y d) {x y : Int32} {off : Int} (tgt : Nat) (hd : decode Y.2.1 pc = .ok (.if_icmp .gt off, 3)) (ht : (pc : Int) + off = (tgt : Int)) (h1 : y < x → im_E X k Q tgt L st S I) (h2 : ¬ y < x → im_E X k Q (pc + 3) L st S I) : im_E X k Q pc L (.int y :: .int x :: st) S I :=
  fun H locs ls hH hS hL hB => lv_icmp_gt hX.1 hX.2.1 hd ht (fun c => h1 c H locs ls hH hS hL hB) (fun c => h2 c H locs ls hH hS hL hB)
theorem r_if_gt (hX : im_Ok X k Y d) {x : Int32} {off : Int} (tgt : Nat) (hd : decode Y.2.1 pc = .ok (.ifCond .gt off, 3)) (ht : (pc : Int) + off = (tgt : Int)) (h1 : 0 < x → im_E X k Q tgt L st S I) (h2 : ¬ 0 < x → im_E X k Q (pc + 3) L st S I) : im_E X k Q pc L (.int x :: st) S I :=
  fun H locs ls hH hS hL hB => lv_if_gt hX.1 hX.2.1 hd ht (fun c => h1 c H locs ls hH hS hL hB) (fun c => h2 c H locs ls hH hS hL hB)
theorem r_icmp_le (hX : im_Ok X k Y d) {x y : Int32} {off : Int} (tgt : Nat) (hd : decode Y.2.1 pc = .ok (.if_icmp .le off, 3)) (ht : (pc : Int) + off = (tgt : Int)) (h1 : x ≤ y → im_E X k Q tgt L st S I) (h2 : ¬ x ≤ y → im_E X k Q (pc + 3) L st S I) : im_E X k Q pc L (.int y :: .int x :: st) S I :=
  fun H locs ls hH hS hL hB => lv_icmp_le hX.1 hX.2.1 hd ht (fun c => h1 c H locs ls hH hS hL hB) (fun c => h2 c H locs ls hH hS hL hB)
theorem r_if_le (hX : im_Ok X k Y d) {x : Int32} {off : Int} (tgt : Nat) (hd : decode Y.2.1 pc = .ok (.ifCond .le off, 3)) (ht : (pc : Int) + off = (tgt : Int)) (h1 : x ≤ 0 → im_E X k Q tgt L st S I) (h2 : ¬ x ≤ 0 → im_E X k Q (pc + 3) L st S I) : im_E X k Q pc L (.int x :: st) S I :=
  fun H locs ls hH hS hL hB => lv_if_le hX.1 hX.2.1 hd ht (fun c => h1 c H locs ls hH hS hL hB) (fun c => h2 c H locs ls hH hS hL hB)
theorem r_tsIn (hX : im_Ok X k Y d) {x : Int32} {dflt lo hi : Int} {offs : Array Int} {len : Nat} {off : Int} (tgt : Nat) (hd : decode Y.2.1 pc = .ok (.tableswitch dflt lo hi offs, len)) (h1 : ¬ x.toInt < lo) (h2 : ¬ hi < x.toInt) (ho : offs[(x.toInt - lo).toNat]? = some off) (ht : (pc : Int) + off = (tgt : Int)) (h : im_E X k Q tgt L st S I) : im_E X k Q pc L (.int x :: st) S I :=
  fun H locs ls hH hS hL hB => lv_tableIn hX.1 hX.2.1 hd h1 h2 ho ht (h H locs ls hH hS hL hB)
theorem r_tsOut (hX : im_Ok X k Y d) {x : Int32} {dflt lo hi : Int} {offs : Array Int} {len : Nat} (tgt : Nat) (hd : decode Y.2.1 pc = .ok (.tableswitch dflt lo hi offs, len)) (h1 : x.toInt < lo ∨ hi < x.toInt) (ht : (pc : Int) + dflt = (tgt : Int)) (h : im_E X k Q tgt L st S I) : im_E X k Q pc L (.int x :: st) S I :=
  fun H locs ls hH hS hL hB => lv_tableOut hX.1 hX.2.1 hd h1 ht (h H locs ls hH hS hL hB)
theorem r_lookup (hX : im_Ok X k Y d) {x : Int32} {dflt : Int} {ps : Array (Int × Int)} {len : Nat} {off : Int} (tgt : Nat) (hd : decode Y.2.1 pc = .ok (.lookupswitch dflt ps, len)) (hp : (ps.toList.zip (ps.toList.drop 1)).all (fun (a, next) => a.1 < next.1) = true) (ho : Op.lookupswitch.offset ps.toList dflt x.toInt = off) (ht : (pc : Int) + off = (tgt : Int)) (h : im_E X k Q tgt L st S I) : im_E X k Q pc L (.int x :: st) S I :=
  fun H locs ls hH hS hL hB => lv_lookup hX.1 hX.2.1 hd hp ho ht (h H locs ls hH hS hL hB)
-- fields
/-- field j of class t is what the entry ix of class own names -/
def im_F (own : String) (ix t j : Nat) : Prop := Cond.fieldLink own ix (im_T t j).1 (im_T t j).2.1 (im_T t j).2.2.1 ∈ im_W ∧ t < 13 ∧ j < im_N t
theorem r_getv (hX : im_Ok X k Y d) {ix t j a : Nat} (hd : decode Y.2.1 pc = .ok (.getfield ix, 3)) (hF : im_F Y.1.cls ix t j) (hk : im_k S a = (t, im_N t)) {v : Value} (hv : im_f k (S, I) a t j = im_v k v) (h : im_E X k Q (pc + 3) L (v :: st) S I) : im_E X k Q pc L (.ref a :: st) S I := by
  intro H locs ls hH hS hL hB
  obtain ⟨i, rfl, hi⟩ := im_k_lt hk (by have := hF.2.1; omega)
  have he : (im_w k (S, I))[i]? = some (kB k + i, .inr (t, (List.range (im_N t)).map (im_f k (S, I) (i + 2) t))) := by rw [im_w_at hi, im_e_obj hF.2.1 hk]
  refine va_get (D := kG k) hX.1 hX.2.1 hX.2.2.2.2.2.1 (im_in_u t hF.2.1) hX.2.2.2.2.1 hX.2.2.2.2.2.2.2.1.1 hH.2 i he (im_cl t hF.2.1) j hF.2.2 (hX.2.2.2.2.2.1 _ hF.1) (fun _ h => h) (v := im_v k v) ?_ hd (h H locs ls hH hS hL hB)
  rw [List.getElem?_map, List.getElem?_range hF.2.2, ← hv]
  rfl
theorem r_geti (hX : im_Ok X k Y d) {ix t j a : Nat} (hd : decode Y.2.1 pc = .ok (.getfield ix, 3)) (hF : im_F Y.1.cls ix t j) (ht : im_isI t j = true) (hk : im_k S a = (t, im_N t)) (h : im_E X k Q (pc + 3) L (.int (I a j) :: st) S I) : im_E X k Q pc L (.ref a :: st) S I :=
  r_getv hX hd hF hk (by unfold im_f; rw [if_pos ht]; rfl) h
theorem r_getr (hX : im_Ok X k Y d) {ix t j a : Nat} {x : Nat} (hd : decode Y.2.1 pc = .ok (.getfield ix, 3)) (hF : im_F Y.1.cls ix t j) (ht : im_isI t j = false) (hk : im_k S a = (t, im_N t)) (hr : im_r S a j = x + 1) (h : im_E X k Q (pc + 3) L (.ref x :: st) S I) : im_E X k Q pc L (.ref a :: st) S I :=
  r_getv hX hd hF hk (by unfold im_f; rw [if_neg (by rw [ht]; decide)]; show im_rv k (im_r S a j) = _; rw [hr]; rfl) h
theorem im_up_same {I : im_I} {a j : Nat} {x : Int32} : im_up I a j x a j = x := by simp [im_up]
theorem im_up_row {I : im_I} {a j b : Nat} {x : Int32} (h : b ≠ a) : im_up I a j x b = I b := by
  funext i
  simp [im_up, h]
theorem im_up_upd {I : im_I} {a j : Nat} {x : Int32} : im_up I a j x a = upd (I a) j x := by
  funext i
  by_cases h : i = j <;> simp [im_up, upd, h]
theorem im_fs_set {k : im_K} {M M' : im_M} {a t j n : Nat} {v : Value} (hj : im_f k M' a t j = v) (ho : ∀ i, i ≠ j → im_f k M' a t i = im_f k M a t i) : ((List.range n).map (im_f k M a t)).set j v = (List.range n).map (im_f k M' a t) := by
  apply List.ext_getElem?
  intro i
  rw [List.getElem?_set, List.getElem?_map, List.getElem?_map]
  by_cases hij : j = i
  · subst hij
    rw [if_pos rfl]
    by_cases hl : j < n
    · rw [if_pos (by simpa using hl), List.getElem?_range hl, ← hj]; rfl
    · rw [if_neg (by simpa using hl), List.getElem?_eq_none (by simp; omega)]; rfl
  · rw [if_neg hij]
    by_cases hl : i < n
    · rw [List.getElem?_range hl]
      show some _ = some _
      rw [ho i (fun e => hij e.symm)]
    · rw [List.getElem?_eq_none (by simp; omega)]
      rfl
/-- what a field of numbers may hold -/
def im_fit (t j : Nat) (x : Int32) : Bool := match im_ty t j with | .int => true | .boolean => x == 0 || x == 1 | _ => false
theorem im_fit_isI {t j : Nat} {x : Int32} (h : im_fit t j x = true) : im_isI t j = true := by
  unfold im_fit at h
  unfold im_isI
  split at h <;> simp_all
theorem im_fit_n {t j : Nat} {x : Int32} (h : im_fit t j x = true) : narrow (im_ty t j) (.int x) = .int x ∧ fits (im_ty t j) (.int x) = true := by
  unfold im_fit at h
  split at h
  · rename_i e; rw [e]; exact ⟨rfl, rfl⟩
  · rename_i e
    rw [e]
    simp only [Bool.or_eq_true, beq_iff_eq] at h
    rcases h with rfl | rfl <;> exact ⟨rfl, rfl⟩
  · cases h
/-- a put, in the kit's words: into a field that isn't final, or in the class' own constructor -/
theorem im_putW (hX : im_Ok X k Y d) {ix t j i : Nat} {v : Value} {ls : Array Slot} {H : Heap} {locs : List Loc} {cells slots : Nat} {rest : List Value} (hd : decode Y.2.1 pc = .ok (.putfield ix, 3)) (hF : im_F Y.1.cls ix t j) (hfin : (im_T t j).2.2.2 = false ∨ (im_T t j).2.2.2 = true ∧ Y.1.name = "<init>" ∧ (im_T t j).1 = Y.1.cls)
    (hn : narrow (im_ty t j) v = v) (hfit : fits (im_ty t j) v = true) (hk : im_k S (i + 2) = (t, im_N t)) (hi : i < im_n S) (hH : im_H k (S, I) H) (hS : va_S (fun q => kB k ≤ q) (xs X).heap H locs)
    (kk : ∀ (H1 : Heap) (locs1 : List Loc), H1.size = H.size → va_P (kG k) vwCl ((im_w k (S, I)).set i (kB k + i, .inr (t, ((List.range (im_N t)).map (im_f k (S, I) (i + 2) t)).set j v))) H1 → va_S (fun q => kB k ≤ q) (xs X).heap H1 locs1 → W (xp X) (xl X) (xe X) (xR X) (xs X) (xm X) (xa X) (xb X) (xh X) (xc X) H1 locs1 cells slots Q (F0 (xm X) (pc + 3) ls rest)) :
    W (xp X) (xl X) (xe X) (xR X) (xs X) (xm X) (xa X) (xb X) (xh X) (xc X) H locs cells slots Q (F0 (xm X) pc ls (v :: .ref (kB k + i) :: rest)) := by
  obtain ⟨hx, hb, -, -, hown, hts, -, hSt, hnm, -, -⟩ := hX
  obtain ⟨hlink, ht, hj⟩ := hF
  have hK := hSt.1
  have hc := im_cl t ht
  have hin := im_in_u t ht
  have hfd := im_tyok t ht j hj
  have he : (im_w k (S, I))[i]? = some (kB k + i, .inr (t, (List.range (im_N t)).map (im_f k (S, I) (i + 2) t))) := by rw [im_w_at hi, im_e_obj ht hk]
  have hap := va_apart (own := Y.1.cls) hts hin (im_ty t) (im_tyok t ht) (im_nm t ht) hK hc
  obtain ⟨r, h1, cell, q1, q2, q3, q4⟩ := hH.2 i _ he
  have hr : r = (im_C t, im_T t, im_N t) := Option.some.inj (h1.symm.trans hc)
  subst hr
  obtain ⟨hSl, hfc, kC, hkC, hkind⟩ := hK.1 t _ hc
  obtain ⟨cf, kf, fi, f, hfi, hsl⟩ := hSl j hj
  have hlay := hts _ (hin _ (u_in_lay hj))
  have hst := (u_facts hfc hkC (u_lays hts hin hj) hfi).1
  have hlen : j < ((List.range (im_N t)).map (im_f k (S, I) (i + 2) t)).length := by simpa using hj
  have hend : ∀ (H' : Heap), H'[kB k + i]? = some (cell.setSlot f.slot v) → H'.size = H.size → (∀ q, q ≠ kB k + i → H'[q]? = H[q]?) → W (xp X) (xl X) (xe X) (xR X) (xs X) (xm X) (xa X) (xb X) (xh X) (xc X) H' (locs ++ [⟨kB k + i, f.slot⟩]) cells slots Q (F0 (xm X) (pc + 3) ls rest) := by
    intro H' e1 e2 e3
    rw [hsl] at e1 ⊢
    exact kk H' _ e2 (hH.2.set (im_w_D k _) he ⟨_, hc, t_OB.to (V := updV (vp_V _) j v) ⟨_, e1, q2, q3, t_set q4 hap hj v⟩ (fun z _ => vp_updV_set hlen v z)⟩ e3) (hS.put e2 e3 (Nat.le_add_right _ _))
  unfold u_lay at hlay
  rcases hfin with hfin | ⟨hfin, hin2, hdecl⟩
  · rw [if_neg (by rw [hfin]; decide)] at hlay
    have h6 := u_store hfc hkC hkind hlay hfi hfd hn hfit
    exact W.putK hx hb (f := f) ⟨hown, hts _ hlink, ⟨_, _, _, hfi⟩, hst⟩ (by rw [q2]; exact h6) q1 q3 (by rw [hsl]; exact k2_hasslot (q4 j hj)) rfl rfl hd hend
  · rw [if_pos hfin] at hlay
    have hcf : (xm X).cls = cf := by
      obtain ⟨_, _, c', _, _, _, -, -, hf', -, -, -, hown2, -⟩ := Cond.laysFinal_spec hlay
      have e1 : c' = cf := by have := hfi.symm.trans hf'; simp at this; exact this.1.symm
      rw [hdecl] at hown2
      rw [← e1]; exact Option.some.inj (hown.symm.trans hown2)
    have h6 := u_fits hfc hkC hkind (Or.inr hlay) hfi hfd hn hfit
    exact W.putFinK hx hb hown (hts _ hlink) hfi hst hcf (hnm.trans hin2) (by rw [q2]; exact h6) q1 q3 (by rw [hsl]; exact k2_hasslot (q4 j hj)) rfl rfl hd hend
theorem r_putiF (hX : im_Ok X k Y d) {ix t j a : Nat} {x : Int32} (hd : decode Y.2.1 pc = .ok (.putfield ix, 3)) (hF : im_F Y.1.cls ix t j) (hfin : (im_T t j).2.2.2 = false ∨ (im_T t j).2.2.2 = true ∧ Y.1.name = "<init>" ∧ (im_T t j).1 = Y.1.cls) (hx : im_fit t j x = true) (hk : im_k S a = (t, im_N t)) (h : im_E X k Q (pc + 3) L st S (im_up I a j x)) : im_E X k Q pc L (.int x :: .ref a :: st) S I := by
  intro H locs ls hH hS hL hB
  obtain ⟨i, rfl, hi⟩ := im_k_lt hk (by have := hF.2.1; omega)
  have hI := im_fit_isI hx
  refine im_putW hX (v := .int x) hd hF hfin (im_fit_n hx).1 (im_fit_n hx).2 hk hi hH hS fun H1 locs1 hz hP hS1 => ?_
  have hfs : ((List.range (im_N t)).map (im_f k (S, I) (i + 2) t)).set j (.int x) = (List.range (im_N t)).map (im_f k (S, im_up I (i + 2) j x) (i + 2) t) := by
    refine im_fs_set ?_ fun b hb => ?_
    · unfold im_f; rw [if_pos hI]; show Value.int (im_up I (i + 2) j x (i + 2) j) = _; rw [im_up_same]
    · unfold im_f; simp [im_up, hb]
  have h2 := im_w_set (k := k) (M := (S, I)) (M' := (S, im_up I (i + 2) j x)) (a := i) rfl (fun b hb => im_e_congr rfl (fun _ => rfl) (fun q => by show im_up I (i + 2) j x b q = I b q; rw [im_up_row hb]))
  rw [im_e_obj (M := (S, im_up I (i + 2) j x)) hF.2.1 hk, ← hfs] at h2
  rw [h2] at hP
  exact h H1 locs1 ls ⟨hz.trans hH.1, hP⟩ hS1 hL hB
theorem r_puti (hX : im_Ok X k Y d) {ix t j a : Nat} {x : Int32} (hd : decode Y.2.1 pc = .ok (.putfield ix, 3)) (hF : im_F Y.1.cls ix t j) (hfin : (im_T t j).2.2.2 = false) (hx : im_fit t j x = true) (hk : im_k S a = (t, im_N t)) (h : im_E X k Q (pc + 3) L st S (im_up I a j x)) : im_E X k Q pc L (.int x :: .ref a :: st) S I :=
  r_putiF hX hd hF (Or.inl hfin) hx hk h
/-- what a reference field may hold, as the descriptor has it -/
def im_fitr (t j : Nat) : Bool := match im_ty t j with | .object _ => true | .array _ => true | _ => false
theorem r_putr (hX : im_Ok X k Y d) {ix t j a x : Nat} (hd : decode Y.2.1 pc = .ok (.putfield ix, 3)) (hF : im_F Y.1.cls ix t j) (hfin : (im_T t j).2.2.2 = false ∨ (im_T t j).2.2.2 = true ∧ Y.1.name = "<init>" ∧ (im_T t j).1 = Y.1.cls) (hx : im_fitr t j = true) (hk : im_k S a = (t, im_N t)) (h : im_E X k Q (pc + 3) L st (im_upr S a j (x + 1)) I) : im_E X k Q pc L (.ref x :: .ref a :: st) S I := by
  intro H locs ls hH hS hL hB
  obtain ⟨i, rfl, hi⟩ := im_k_lt hk (by have := hF.2.1; omega)
  have hI : im_isI t j = false := by
    unfold im_fitr at hx
    unfold im_isI
    split at hx <;> simp_all
  have hnf : narrow (im_ty t j) (.ref (im_rho k x)) = .ref (im_rho k x) ∧ fits (im_ty t j) (.ref (im_rho k x)) = true := by
    unfold im_fitr at hx
    split at hx
    · rename_i e; rw [e]; exact ⟨rfl, rfl⟩
    · rename_i e; rw [e]; exact ⟨rfl, rfl⟩
    · cases hx
  refine im_putW hX (v := .ref (im_rho k x)) hd hF hfin hnf.1 hnf.2 hk hi hH hS fun H1 locs1 hz hP hS1 => ?_
  have hfs : ((List.range (im_N t)).map (im_f k (S, I) (i + 2) t)).set j (.ref (im_rho k x)) = (List.range (im_N t)).map (im_f k (im_upr S (i + 2) j (x + 1), I) (i + 2) t) := by
    refine im_fs_set ?_ fun b hb => ?_
    · unfold im_f; rw [if_neg (by rw [hI]; decide)]; show im_rv k (im_r (im_upr S (i + 2) j (x + 1)) (i + 2) j) = _; rw [im_r_upr, if_pos ⟨rfl, rfl⟩]; rfl
    · unfold im_f; show (if _ then _ else im_rv k (im_r (im_upr S (i + 2) j (x + 1)) (i + 2) b)) = _; rw [im_r_upr, if_neg (show ¬ (i + 2 = i + 2 ∧ b = j) from fun e => hb e.2)]
  have h2 := im_w_set (k := k) (M := (S, I)) (M' := (im_upr S (i + 2) j (x + 1), I)) (a := i) rfl (fun b hb => im_e_congr rfl (fun q => by show im_r (im_upr S (i + 2) j (x + 1)) b q = _; rw [im_r_upr, if_neg (fun e => hb e.1)]) (fun q => rfl))
  rw [im_e_obj (M := (im_upr S (i + 2) j (x + 1), I)) hF.2.1 hk, ← hfs] at h2
  rw [h2] at hP
  exact h H1 locs1 ls ⟨hz.trans hH.1, hP⟩ hS1 hL hB
end R0
