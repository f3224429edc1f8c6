/-! THE MEMORY AS A VALUE: the cells made since the law began, numbered from 0; what stands in them; the heap that a memory tells -/
def im_W : List Cond := lw_tbl.filter goodWord
theorem im_in {w : Cond} (i : Nat) (h : lw_tbl[i]? = some w) (hg : goodWord w = true) : w ∈ im_W := List.mem_filter.mpr ⟨List.mem_of_getElem? h, hg⟩
theorem im_good : GoodIn im_W im_W := fun w hw => ⟨hw, good_of_word (List.mem_filter.mp hw).2⟩
def im_isNest : Cond → Bool
  | .methodLinkNest _ _ _ _ => true
  | .fieldLinkNest _ _ _ _ _ _ => true
  | _ => false
def im_nest : List Cond := lw_tbl.filter im_isNest
theorem im_inN {w : Cond} (i : Nat) (h : lw_tbl[i]? = some w) (hg : im_isNest w = true) : w ∈ im_nest := List.mem_filter.mpr ⟨List.mem_of_getElem? h, hg⟩
-- the classes by number
def im_C (t : Nat) : String := match t with | 0 => RX0 | 1 => RX1 | 2 => RX2 | 3 => RX3 | 4 => RX4 | 5 => RX5 | 6 => RX6 | 7 => RX7 | 8 => RX8 | 9 => RX9 | 10 => RX10 | 11 => RX11 | _ => RX12
def im_T (t : Nat) : u_T := match t with | 0 => TX0 | 1 => TX1 | 2 => TX2 | 3 => TX3 | 4 => TX4 | 5 => TX5 | 6 => TX6 | 7 => TX7 | 8 => TX8 | 9 => TX9 | 10 => TX10 | 11 => TX11 | _ => TX12
def im_N (t : Nat) : Nat := match t with | 0 => 12 | 1 => 7 | 2 => 10 | 3 => 7 | 4 => 12 | 5 => 6 | 6 => 3 | 7 => 9 | 8 => 11 | 9 => 10 | 10 => 4 | 11 => 10 | _ => 10
def im_ty (t : Nat) : Nat → FieldType := match t with | 0 => tyX0 | 1 => tyX1 | 2 => tyX2 | 3 => tyX3 | 4 => tyX4 | 5 => tyX5 | 6 => tyX6 | 7 => tyX7 | 8 => tyX8 | 9 => tyX9 | 10 => tyX10 | 11 => tyX11 | _ => tyX12
theorem im_cases {P : Nat → Prop} (h0 : P 0) (h1 : P 1) (h2 : P 2) (h3 : P 3) (h4 : P 4) (h5 : P 5) (h6 : P 6) (h7 : P 7) (h8 : P 8) (h9 : P 9) (h10 : P 10) (h11 : P 11) (h12 : P 12) : ∀ t, t < 13 → P t := by
  intro t ht
  match t, ht with
  | 0, _ => exact h0
  | 1, _ => exact h1
  | 2, _ => exact h2
  | 3, _ => exact h3
  | 4, _ => exact h4
  | 5, _ => exact h5
  | 6, _ => exact h6
  | 7, _ => exact h7
  | 8, _ => exact h8
  | 9, _ => exact h9
  | 10, _ => exact h10
  | 11, _ => exact h11
  | 12, _ => exact h12
theorem im_cl : ∀ t, t < 13 → vwCl[t]? = some (im_C t, im_T t, im_N t) := im_cases rfl rfl rfl rfl rfl rfl rfl rfl rfl rfl rfl rfl rfl
theorem im_nm : ∀ t, t < 13 → ∀ a, a < im_N t → ∀ b, b < im_N t → a ≠ b → (im_T t a).2.1 ≠ (im_T t b).2.1 := im_cases nmX0 nmX1 nmX2 nmX3 nmX4 nmX5 nmX6 nmX7 nmX8 nmX9 nmX10 nmX11 nmX12
theorem im_tyok : ∀ t, t < 13 → ∀ k, k < im_N t → parseFieldDescriptor (im_T t k).2.2.1 = some (im_ty t k) := im_cases tyX0_ok tyX1_ok tyX2_ok tyX3_ok tyX4_ok tyX5_ok tyX6_ok tyX7_ok tyX8_ok tyX9_ok tyX10_ok tyX11_ok tyX12_ok
-- memory: (cells made, their slots), kinds (class number and its fields; 20 ints, 21 rows of ints, and how many), references (0 null, x + 1 the cell x), ints; the cells made are 2, 3 and on; 0 is the script, 1 the table of the class
abbrev im_S : Type := (Nat × Nat) × (Nat → Nat × Nat) × (Nat → Nat → Nat)
abbrev im_I : Type := Nat → Nat → Int32
abbrev im_M : Type := im_S × im_I
def im_n (S : im_S) : Nat := S.1.1
def im_z (S : im_S) : Nat := S.1.2
def im_k (S : im_S) (a : Nat) : Nat × Nat := if 2 ≤ a ∧ a < im_n S + 2 then S.2.1 a else (99, 0)
def im_r (S : im_S) (a j : Nat) : Nat := S.2.2 a j
def im_up (I : im_I) (a j : Nat) (x : Int32) : im_I := fun b i => if b = a ∧ i = j then x else I b i
def im_upr (S : im_S) (a j : Nat) (x : Nat) : im_S := (S.1, S.2.1, fun b i => if b = a ∧ i = j then x else S.2.2 b i)
/-- one cell more, of kind (t, n): nothing in it yet -/
def im_newS (S : im_S) (t n : Nat) : im_S := ((im_n S + 1, im_z S + n), (fun b => if b = im_n S + 2 then (t, n) else S.2.1 b), fun b i => if b = im_n S + 2 then 0 else S.2.2 b i)
def im_newI (S : im_S) (I : im_I) : im_I := fun b i => if b = im_n S + 2 then 0 else I b i
-- where things lie: the base, the script's cell and the table's, how long the script is and what it holds; the classes' numbers; the array classes
abbrev im_K : Type := (Nat × Nat × Nat × Nat × (Nat → Int32)) × va_G × ClassId × ClassId
def kB (k : im_K) : Nat := k.1.1
def kb0 (k : im_K) : Nat := k.1.2.1
def kt0 (k : im_K) : Nat := k.1.2.2.1
def kL (k : im_K) : Nat := k.1.2.2.2.1
def kxs (k : im_K) : Nat → Int32 := k.1.2.2.2.2
def kG (k : im_K) : va_G := k.2.1
def kcI (k : im_K) : ClassId := k.2.2.1
def kcJ (k : im_K) : ClassId := k.2.2.2
def im_rho (k : im_K) (x : Nat) : Nat := match x with | 0 => kb0 k | 1 => kt0 k | x + 2 => kB k + x
def im_v (k : im_K) : Value → Value
  | .ref x => .ref (im_rho k x)
  | v => v
def im_rv (k : im_K) (r : Nat) : Value := match r with | 0 => .null | x + 1 => .ref (im_rho k x)
def im_ro (k : im_K) (r : Nat) : Option Nat := match r with | 0 => none | x + 1 => some (im_rho k x)
theorem im_rf (k : im_K) (r : Nat) : va_rf (im_ro k r) = im_rv k r := by cases r <;> rfl
def im_isI (t j : Nat) : Bool := match im_ty t j with | .int => true | .boolean => true | _ => false
def im_f (k : im_K) (M : im_M) (a t j : Nat) : Value := if im_isI t j = true then .int (M.2 a j) else im_rv k (im_r M.1 a j)
def im_e (k : im_K) (M : im_M) (a : Nat) : va_E :=
  if (im_k M.1 a).1 = 20 then .inl (kcI k, ((im_k M.1 a).2, .inl (M.2 a)))
  else if (im_k M.1 a).1 = 21 then .inl (kcJ k, ((im_k M.1 a).2, .inr (.inr (.inr (.inr (fun j => im_ro k (im_r M.1 a j)))))))
  else .inr ((im_k M.1 a).1, (List.range (im_k M.1 a).2).map (im_f k M a (im_k M.1 a).1))
def im_w (k : im_K) (M : im_M) : va_W := (List.range (im_n M.1)).map (fun i => (kB k + i, im_e k M (i + 2)))
theorem im_w_at {k : im_K} {M : im_M} {a : Nat} (h : a < im_n M.1) : (im_w k M)[a]? = some (kB k + a, im_e k M (a + 2)) := by simp [im_w, h]
theorem im_w_inv {k : im_K} {M : im_M} {a : Nat} {q : Nat × va_E} (h : (im_w k M)[a]? = some q) : a < im_n M.1 ∧ q = (kB k + a, im_e k M (a + 2)) := by
  have hl := (List.getElem?_eq_some_iff.mp h).1
  have hl2 : a < im_n M.1 := by simpa [im_w] using hl
  rw [im_w_at hl2] at h
  exact ⟨hl2, (Option.some.inj h).symm⟩
theorem im_w_D (k : im_K) (M : im_M) : va_D (fun q => kB k ≤ q) (im_w k M) := by
  refine ⟨fun i j p q hi hj h => ?_, fun i q hi => ?_⟩
  · obtain ⟨-, rfl⟩ := im_w_inv hi
    obtain ⟨-, rfl⟩ := im_w_inv hj
    have h2 : kB k + i = kB k + j := h
    omega
  · obtain ⟨-, rfl⟩ := im_w_inv hi
    exact Nat.le_add_right _ _
theorem im_w_set {k : im_K} {M M' : im_M} {a : Nat} (hn : im_n M'.1 = im_n M.1) (h : ∀ b, b ≠ a + 2 → im_e k M' b = im_e k M b) : (im_w k M).set a (kB k + a, im_e k M' (a + 2)) = im_w k M' := by
  apply List.ext_getElem?
  intro i
  rw [List.getElem?_set]
  by_cases hia : a = i
  · subst hia
    by_cases hl : a < im_n M.1
    · rw [if_pos rfl, if_pos (by simpa [im_w] using hl), im_w_at (by rw [hn]; exact hl)]
    · rw [if_pos rfl, if_neg (by simpa [im_w] using hl)]
      exact (List.getElem?_eq_none (by simp [im_w]; omega)).symm
  · rw [if_neg hia]
    by_cases hl : i < im_n M.1
    · rw [im_w_at hl, im_w_at (by rw [hn]; exact hl), h (i + 2) (fun e => hia (by omega))]
    · rw [List.getElem?_eq_none (by simp [im_w]; omega), List.getElem?_eq_none (by simp [im_w]; omega)]
theorem im_w_push {k : im_K} {M M' : im_M} (hn : im_n M'.1 = im_n M.1 + 1) (h : ∀ b, b < im_n M.1 + 2 → im_e k M' b = im_e k M b) : im_w k M ++ [(kB k + im_n M.1, im_e k M' (im_n M.1 + 2))] = im_w k M' := by
  unfold im_w
  rw [hn, List.range_succ, List.map_append]
  congr 1
  apply List.map_congr_left
  intro b hb
  rw [h (b + 2) (by have := List.mem_range.mp hb; omega)]
/-- the heap that the memory tells -/
def im_H (k : im_K) (M : im_M) (H : Heap) : Prop := H.size = kB k + im_n M.1 ∧ va_P (kG k) vwCl (im_w k M) H
/-- the table of LATENCY_KIND_OF -/
def im_lat (j : Nat) : Int32 := match j with | 0 => 0 | 1 => 1 | 2 => 2 | 3 => 2 | 4 => 3 | 5 => 2 | 6 => 4 | 7 => 5 | 8 => 6 | _ => 7
/-- what holds at a method's start beside the memory -/
def im_St (k : im_K) (s : State) : Prop := va_K (kG k) vwCl [(kcI k, .int), (kcJ k, .array .int)] s ∧ va_X (kb0 k) (kL k) (kxs k) s s.heap ∧ va_Z "SpillslotWorks" "LATENCY_KIND_OF" "[I" (.ref (kt0 k)) (fun q => kB k ≤ q) s s.heap ∧
  va_T .int (kt0 k) 10 (fun j => .int (im_lat j)) (fun q => kB k ≤ q) s s.heap ∧ ((∀ w ∈ im_nest, va_Nw w s) ∧ (Cond.arrayOver (.array .int)).before #[] s = true) ∧ kB k ≤ s.heap.size ∧ kb0 k < kB k
theorem im_nest_warm {s U : State} (hW : s.WarmedH U.vm) {w : Cond} (hw : w ∈ im_nest) (h : va_Nw w s) : va_Nw w U := by
  have hn := (List.mem_filter.mp hw).2
  cases w <;> simp [im_isNest] at hn
  · exact va_Nw.warmM hW h
  · exact va_Nw.warmF hW h
theorem im_nest_tab {w : Cond} (hw : w ∈ im_nest) : w.onTables = true := by
  have hn := (List.mem_filter.mp hw).2
  cases w <;> simp [im_isNest] at hn <;> rfl
theorem im_St.warm {k : im_K} {s U : State} {H : Heap} {locs : List Loc} (h : im_St k s) (hS : va_S (fun q => kB k ≤ q) s.heap H locs) (hU : U.heap = H) (hW : s.WarmedH U.vm) : im_St k U := by
  obtain ⟨hK, hX, hZ, hT, hN, hB, hb⟩ := h
  subst hU
  have hk : ∀ a : Nat, a < s.heap.size → ¬ kB k ≤ a → U.heap[a]? = s.heap[a]? := fun a h1 h2 => hS.2.1 a h1 h2
  refine ⟨va_K.moved hW.alike hK, va_X.moved hW.alike (hX.kept (hk _ (by omega) (by omega))), (hZ.kept hk).moved hW.alike, (hT.kept hk).moved hW.alike, ⟨fun w hw => im_nest_warm hW hw (hN.1 w hw), over_moved hW.alike hN.2⟩, Nat.le_trans hB hS.1, hb⟩
theorem im_St.blind {k : im_K} {U : State} {g : JFrame} {mk : MethodId} {a : Array Value} (h : im_St k U) : im_St k (U.calling g mk a) := by
  obtain ⟨hK, hX, hZ, hT, hN, hB, hb⟩ := h
  have hv : U.vm.Alike (U.calling g mk a).vm := Vm.Alike.refl U.vm
  exact ⟨va_K.moved hv hK, va_X.moved hv hX, va_Z.moved hv hZ, va_T.moved hv hT, ⟨fun w hw => va_Nw.same (u := U) (im_nest_tab hw) rfl (hN.1 w hw), over_moved hv hN.2⟩, hB, hb⟩
theorem im_k_lt {S : im_S} {a : Nat} {t n : Nat} (h : im_k S a = (t, n)) (ht : t < 99) : ∃ i, a = i + 2 ∧ i < im_n S := by
  unfold im_k at h
  split at h
  · exact ⟨a - 2, by omega, by omega⟩
  · simp at h; omega
theorem im_k_new {S : im_S} {t n b : Nat} : im_k (im_newS S t n) b = if b = im_n S + 2 then (t, n) else im_k S b := by
  show (if 2 ≤ b ∧ b < im_n S + 1 + 2 then (if b = im_n S + 2 then (t, n) else S.2.1 b) else (99, 0)) = if b = im_n S + 2 then (t, n) else (if 2 ≤ b ∧ b < im_n S + 2 then S.2.1 b else (99, 0))
  by_cases h : b = im_n S + 2
  · rw [if_pos h, if_pos h, if_pos (by omega)]
  · rw [if_neg h, if_neg h]
    by_cases h2 : 2 ≤ b ∧ b < im_n S + 2
    · rw [if_pos h2, if_pos (by omega)]
    · rw [if_neg h2, if_neg (by omega)]
theorem im_n_new {S : im_S} {t n : Nat} : im_n (im_newS S t n) = im_n S + 1 := rfl
theorem im_z_new {S : im_S} {t n : Nat} : im_z (im_newS S t n) = im_z S + n := rfl
theorem im_r_new {S : im_S} {t n b j : Nat} : im_r (im_newS S t n) b j = if b = im_n S + 2 then 0 else im_r S b j := rfl
theorem im_n_upr {S : im_S} {a j x : Nat} : im_n (im_upr S a j x) = im_n S := rfl
theorem im_z_upr {S : im_S} {a j x : Nat} : im_z (im_upr S a j x) = im_z S := rfl
theorem im_k_upr {S : im_S} {a j x b : Nat} : im_k (im_upr S a j x) b = im_k S b := rfl
theorem im_r_upr {S : im_S} {a j x b i : Nat} : im_r (im_upr S a j x) b i = if b = a ∧ i = j then x else im_r S b i := rfl
theorem im_e_obj {k : im_K} {M : im_M} {a t n : Nat} (ht : t < 13) (hk : im_k M.1 a = (t, n)) : im_e k M a = .inr (t, (List.range n).map (im_f k M a t)) := by
  unfold im_e
  rw [hk]
  simp only
  rw [if_neg (by omega), if_neg (by omega)]
theorem im_e_int {k : im_K} {M : im_M} {a n : Nat} (hk : im_k M.1 a = (20, n)) : im_e k M a = .inl (kcI k, (n, .inl (M.2 a))) := by
  unfold im_e
  rw [hk]
  rfl
theorem im_e_row {k : im_K} {M : im_M} {a n : Nat} (hk : im_k M.1 a = (21, n)) : im_e k M a = .inl (kcJ k, (n, .inr (.inr (.inr (.inr (fun j => im_ro k (im_r M.1 a j))))))) := by
  unfold im_e
  rw [hk]
  rfl
theorem im_e_congr {k : im_K} {M M' : im_M} {b : Nat} (h1 : im_k M'.1 b = im_k M.1 b) (h2 : ∀ j, im_r M'.1 b j = im_r M.1 b j) (h3 : ∀ j, M'.2 b j = M.2 b j) : im_e k M' b = im_e k M b := by
  have e3 : M'.2 b = M.2 b := funext h3
  have e2 : im_r M'.1 b = im_r M.1 b := funext h2
  unfold im_e
  rw [h1, e3]
  unfold im_f
  rw [e2, e3]
theorem im_in_u : ∀ t, t < 13 → ∀ w ∈ u_ws (im_C t) (im_T t) (im_N t), w ∈ im_W := by
  have key : ∀ t : Nat, ((u_ws (im_C t) (im_T t) (im_N t)).all (fun w => lw_tbl.contains w && goodWord w)) = true → ∀ w ∈ u_ws (im_C t) (im_T t) (im_N t), w ∈ im_W := by
    intro t h w hw
    have h1 := List.all_eq_true.mp h w hw
    simp only [Bool.and_eq_true] at h1
    exact List.mem_filter.mpr ⟨by simpa using h1.1, h1.2⟩
  exact im_cases (key 0 (by decide +kernel)) (key 1 (by decide +kernel)) (key 2 (by decide +kernel)) (key 3 (by decide +kernel)) (key 4 (by decide +kernel)) (key 5 (by decide +kernel)) (key 6 (by decide +kernel)) (key 7 (by decide +kernel)) (key 8 (by decide +kernel)) (key 9 (by decide +kernel)) (key 10 (by decide +kernel)) (key 11 (by decide +kernel)) (key 12 (by decide +kernel))
