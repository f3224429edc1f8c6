/-! A RUN OF A METHOD, as a change of the memory; a place in a method, as a predicate; the rows of the kit over both -/
abbrev im_X : Type := Program × Launch × Env × Room × State × MethodId × Array Value × List Frame × Method × Code × Nat × Nat
def xp (X : im_X) : Program := X.1
def xl (X : im_X) : Launch := X.2.1
def xe (X : im_X) : Env := X.2.2.1
def xR (X : im_X) : Room := X.2.2.2.1
def xs (X : im_X) : State := X.2.2.2.2.1
def xm (X : im_X) : MethodId := X.2.2.2.2.2.1
def xa (X : im_X) : Array Value := X.2.2.2.2.2.2.1
def xb (X : im_X) : List Frame := X.2.2.2.2.2.2.2.1
def xh (X : im_X) : Method := X.2.2.2.2.2.2.2.2.1
def xc (X : im_X) : Code := X.2.2.2.2.2.2.2.2.2.1
def xn (X : im_X) : Nat := X.2.2.2.2.2.2.2.2.2.2.1
def xz (X : im_X) : Nat := X.2.2.2.2.2.2.2.2.2.2.2
/-- the room so far -/
def im_B (X : im_X) (S : im_S) : Prop := xn X ≤ im_n S ∧ xz X ≤ im_z S ∧ im_n S - xn X ≤ (xR X).cells ∧ im_z S - xz X ≤ (xR X).slots
def im_L (k : im_K) (L : List (Option Value)) (ls : Array Slot) : Prop := ls.size = L.length ∧ lv_wf ls ∧ ∀ (i : Nat) (v : Value), L[i]? = some (some v) → ls[i]? = some (.val (im_v k v))
/-- from here, with these locals, this stack and this memory, the method comes to Q -/
def im_E (X : im_X) (k : im_K) (Q : State → Prop) (pc : Nat) (L : List (Option Value)) (st : List Value) (S : im_S) (I : im_I) : Prop :=
  ∀ (H : Heap) (locs : List Loc) (ls : Array Slot), im_H k (S, I) H → va_S (fun q => kB k ≤ q) (xs X).heap H locs → im_L k L ls → im_B X S →
    W (xp X) (xl X) (xe X) (xR X) (xs X) (xm X) (xa X) (xb X) (xh X) (xc X) H locs (im_n S - xn X) (im_z S - xz X) Q (F0 (xm X) pc ls (st.map (im_v k)))
/-- a method: name, code, locals, what it returns -/
abbrev im_Y : Type := MethodName × ByteArray × Nat × Option FieldType
def im_Ok (X : im_X) (k : im_K) (Y : im_Y) (d : Nat) : Prop :=
  (xp X).tables.exec = Jvm.exec ∧ (xc X).code = Y.2.1 ∧ (xc X).maxLocals = Y.2.2.1 ∧ (xh X).sig.returnType = Y.2.2.2 ∧ (xs X).vm.findClass Y.1.cls = some (xm X).cls ∧ (∀ w ∈ im_W, w.before (xa X) (xs X) = true) ∧ (xh X).locks = false ∧ im_St k (xs X) ∧ (xh X).name = Y.1.name ∧ d ≤ (xR X).frames ∧ 40 * d ≤ (xR X).locals
def im_Pc (k : im_K) (as : List Value) (M : im_M) : Array Value → State → Prop := fun a U => a = (as.map (im_v k)).toArray ∧ im_H k M U.heap ∧ im_St k U
def im_Qc (k : im_K) (v : Option Value) (M : im_M) : Array Value → State → Outcome → State → Prop := fun _ st o t => o = .returned (v.map (im_v k)) ∧ im_H k M t.heap ∧ va_F (fun q => kB k ≤ q) st t
/-- method Y, called with as in the memory M, returns v and leaves M' -/
def im_Runs (l : Launch) (k : im_K) (d : Nat) (Y : im_Y) (as : List Value) (M : im_M) (v : Option Value) (M' : im_M) : Prop :=
  (im_n M.1 ≤ im_n M'.1 ∧ im_z M.1 ≤ im_z M'.1) ∧ Met l Y.1 (.code Y.1 Y.2.1 Y.2.2.1 Y.2.2.2 :: im_W) { frames := d, cells := im_n M'.1 - im_n M.1, slots := im_z M'.1 - im_z M.1, locals := 40 * d } (im_Pc k as M) (im_Qc k v M') (im_n M'.1 - im_n M.1) (im_z M'.1 - im_z M.1) (fun q => kB k ≤ q)
def im_Q (X : im_X) (k : im_K) (v : Option Value) (M : im_M) : State → Prop := MQ (xb X) (im_Qc k v M) (xa X) (xs X) (im_n M.1 - xn X) (im_z M.1 - xz X) (fun q => kB k ≤ q)
-- locals at a method's start
def im_lay (as : List Value) : List (Option Value) := as.flatMap fun v => if v.category = 2 then [some v, none] else [some v]
theorem im_v_cat (k : im_K) (v : Value) : (im_v k v).category = v.category := by cases v <;> rfl
theorem im_lay_at (k : im_K) : ∀ (as : List Value), (lg_sl (as.map (im_v k))).length = (im_lay as).length ∧ ∀ (i : Nat) (v : Value), (im_lay as)[i]? = some (some v) → (lg_sl (as.map (im_v k)))[i]? = some (.val (im_v k v)) := by
  intro as
  induction as with
  | nil => exact ⟨rfl, fun i v h => by simp [im_lay] at h⟩
  | cons a t ih =>
    obtain ⟨h1, h2⟩ := ih
    by_cases hc : a.category = 2
    · have e1 : lg_sl ((a :: t).map (im_v k)) = .val (im_v k a) :: .second :: lg_sl (t.map (im_v k)) := by simp [lg_sl, im_v_cat, hc]
      have e2 : im_lay (a :: t) = some a :: none :: im_lay t := by simp [im_lay, hc]
      rw [e1, e2]
      refine ⟨by simp [h1], fun i v h => ?_⟩
      match i, h with
      | 0, h => simp at h; simp [h]
      | 1, h => simp at h
      | i + 2, h => simpa using h2 i v (by simpa using h)
    · have e1 : lg_sl ((a :: t).map (im_v k)) = .val (im_v k a) :: lg_sl (t.map (im_v k)) := by simp [lg_sl, im_v_cat, hc]
      have e2 : im_lay (a :: t) = some a :: im_lay t := by simp [im_lay, hc]
      rw [e1, e2]
      refine ⟨by simp [h1], fun i v h => ?_⟩
      match i, h with
      | 0, h => simp at h; simp [h]
      | i + 1, h => simpa using h2 i v (by simpa using h)
theorem im_entry (k : im_K) (as : List Value) (n : Nat) (h : (im_lay as).length ≤ n) : im_L k (im_lay as ++ List.replicate (n - (im_lay as).length) none) ((lg_sl (as.map (im_v k)) ++ List.replicate (n - (lg_sl (as.map (im_v k))).length) Slot.unset).toArray) := by
  obtain ⟨h1, h2⟩ := im_lay_at k as
  obtain ⟨g1, g2, -⟩ := lv_entry (as.map (im_v k)) (n := n) (by omega)
  refine ⟨by simp; omega, g2, fun i v hv => ?_⟩
  by_cases hi : i < (im_lay as).length
  · rw [List.getElem?_append_left hi] at hv
    have h3 := h2 i v hv
    simp only [List.getElem?_toArray]
    rw [List.getElem?_append_left (by omega)]
    exact h3
  · rw [List.getElem?_append_right (by omega)] at hv
    have h4 := List.mem_of_getElem? hv
    simp at h4
theorem im_run {l : Launch} {k : im_K} {d : Nat} {Y : im_Y} {as : List Value} {S S' : im_S} {I I' : im_I} {v : Option Value} (hy : plainName Y.1.cls = true) (hm : im_n S ≤ im_n S' ∧ im_z S ≤ im_z S') (hn : (im_lay as).length ≤ Y.2.2.1)
    (h : ∀ (X : im_X), xl X = l → im_Ok X k Y d → xn X = im_n S → xz X = im_z S → (xR X).cells = im_n S' - im_n S → (xR X).slots = im_z S' - im_z S → im_E X k (im_Q X k v (S', I')) 0 (im_lay as ++ List.replicate (Y.2.2.1 - (im_lay as).length) none) [] S I) : im_Runs l k d Y as (S, I) v (S', I') := by
  refine ⟨hm, ?_⟩
  refine Met.ofW (cc := Y.2.1) (maxL := Y.2.2.1) (ret := Y.2.2.2) hy rfl ?_
  intro p e s m args below meth c s₁ B hml hv
  obtain ⟨rfl, hH, hSt⟩ := hv
  have hts := atoms_spec (ws := .code Y.1 Y.2.1 Y.2.2.1 Y.2.2.2 :: im_W) B.pre
  have hown : s.vm.findClass Y.1.cls = some m.cls := findClass_of_methodNamed B.named
  have hin : meth.name = Y.1.name := (name_of_methodNamed B.named B.method).1
  rw [lg_entry_eq]
  have h0 := h (p, l, e, { frames := d, cells := im_n S' - im_n S, slots := im_z S' - im_z S, locals := 40 * d }, s, m, (as.map (im_v k)).toArray, below, meth, c, im_n S, im_z S) rfl ⟨B.exec, B.bytes, hml, B.returns, hown, fun w hw => hts w (List.mem_cons_of_mem _ hw), B.notSynchronized, hSt, hin, Nat.le_refl _, Nat.le_refl _⟩ rfl rfl rfl rfl s.heap [] _ hH va_S.rf (im_entry k as _ hn) ⟨Nat.le_refl _, Nat.le_refl _, by show im_n S - im_n S ≤ _; omega, by show im_z S - im_z S ≤ _; omega⟩
  have e1 : im_n S - im_n S = 0 := Nat.sub_self _
  have e2 : im_z S - im_z S = 0 := Nat.sub_self _
  simp only [xn, xz, e1, e2] at h0
  exact h0
