/-! THE LAW'S STATE: own's rows and the program's rows tell the same trees -/
def sz_ (f : Nat → Nat → Int32) : Nat → Nat → Nat
  | 0, _ => 1
  | n + 1, j => if f j 0 < 2 then 1 else 1 + sz_ f n (f j 1).toNatClampNeg + sz_ f n (f j 2).toNatClampNeg
termination_by n => n
theorem sz_s {f : Nat → Nat → Int32} {n j : Nat} : sz_ f (n + 1) j = if f j 0 < 2 then 1 else 1 + sz_ f n (f j 1).toNatClampNeg + sz_ f n (f j 2).toNatClampNeg := by rw [sz_]
/-- how many nodes a node's tree has -/
def szOf (f : Nat → Nat → Int32) (j : Nat) : Nat := sz_ f (j + 1) j
theorem nodesOk_part {f : Nat → Nat → Int32} {nn j : Nat} (h : nodesOk f nn) (hn : nn ≤ 1000) (hj : j < nn) (c : ¬ f j 0 < 2) : (f j 1).toNatClampNeg < j ∧ (f j 2).toNatClampNeg < j := by
  obtain ⟨⟨x, hx, e1⟩, y, hy, e2⟩ := (h j hj).2 c
  rw [e1, e2, ofNat_nat (by omega), ofNat_nat (by omega)]
  exact ⟨hx, hy⟩
theorem sz_fuel {f : Nat → Nat → Int32} {nn : Nat} (h : nodesOk f nn) (hn : nn ≤ 1000) : ∀ (n m j : Nat), j < nn → j < n → j < m → sz_ f n j = sz_ f m j := by
  intro n
  induction n with
  | zero => intro m j _ h1; omega
  | succ n ih =>
    intro m j hj h1 h2
    obtain ⟨m, rfl⟩ : ∃ q, m = q + 1 := ⟨m - 1, by omega⟩
    rw [sz_s, sz_s]
    split
    · rfl
    · next c =>
      obtain ⟨p1, p2⟩ := nodesOk_part h hn hj c
      rw [ih m _ (by omega) (by omega) (by omega), ih m _ (by omega) (by omega) (by omega)]
theorem szOf_leaf {f : Nat → Nat → Int32} {j : Nat} (c : f j 0 < 2) : szOf f j = 1 := by
  unfold szOf
  rw [sz_s, if_pos c]
theorem szOf_node {f : Nat → Nat → Int32} {nn j : Nat} (h : nodesOk f nn) (hn : nn ≤ 1000) (hj : j < nn) (c : ¬ f j 0 < 2) : szOf f j = 1 + szOf f (f j 1).toNatClampNeg + szOf f (f j 2).toNatClampNeg := by
  obtain ⟨p1, p2⟩ := nodesOk_part h hn hj c
  unfold szOf
  rw [sz_s, if_neg c, sz_fuel h hn j ((f j 1).toNatClampNeg + 1) _ (by omega) (by omega) (by omega), sz_fuel h hn j ((f j 2).toNatClampNeg + 1) _ (by omega) (by omega) (by omega)]
theorem sz_congr {f g : Nat → Nat → Int32} {nn : Nat} (h : nodesOk f nn) (hn : nn ≤ 1000) (he : ∀ j, j < nn → f j = g j) : ∀ (n j : Nat), j < nn → j < n → sz_ f n j = sz_ g n j := by
  intro n
  induction n with
  | zero => intro j _ h1; omega
  | succ n ih =>
    intro j hj h1
    rw [sz_s, sz_s, ← he j hj]
    split
    · rfl
    · next c =>
      obtain ⟨p1, p2⟩ := nodesOk_part h hn hj c
      rw [ih _ (by omega) (by omega), ih _ (by omega) (by omega)]
theorem szOf_congr {f g : Nat → Nat → Int32} {nn j : Nat} (h : nodesOk f nn) (hn : nn ≤ 1000) (he : ∀ j, j < nn → f j = g j) (hj : j < nn) : szOf f j = szOf g j := sz_congr h hn he _ _ hj (by omega)
def sumTo (g : Nat → Nat) : Nat → Nat
  | 0 => 0
  | n + 1 => sumTo g n + g n
theorem sumTo_congr {g h : Nat → Nat} : ∀ {n : Nat}, (∀ j, j < n → g j = h j) → sumTo g n = sumTo h n
  | 0, _ => rfl
  | n + 1, e => by
    show sumTo g n + g n = sumTo h n + h n
    rw [sumTo_congr (n := n) (fun j hj => e j (by omega)), e n (by omega)]
/-- one member less -/
theorem sumTo_take {g h : Nat → Nat} {x : Nat} : ∀ {n : Nat}, x < n → (∀ j, j < n → j ≠ x → h j = g j) → h x = 0 → sumTo h n + g x = sumTo g n
  | 0, hx, _, _ => by omega
  | n + 1, hx, e, h0 => by
    show sumTo h n + h n + g x = sumTo g n + g n
    by_cases c : x = n
    · subst c
      rw [h0, sumTo_congr (n := x) (fun j hj => e j (by omega) (by omega))]
      omega
    · rw [e n (by omega) (by omega)]
      have := sumTo_take (g := g) (h := h) (x := x) (n := n) (by omega) (fun j hj hne => e j (by omega) hne) h0
      omega
theorem sumTo_le {g : Nat → Nat} {x : Nat} : ∀ {n : Nat}, x < n → g x ≤ sumTo g n
  | 0, hx => by omega
  | n + 1, hx => by
    show g x ≤ sumTo g n + g n
    by_cases c : x = n
    · subst c; omega
    · have := sumTo_le (g := g) (x := x) (n := n) (by omega)
      omega
/-- how many of the statements before t are in block b -/
def inBlock (g : Nat → Nat → Int32) (b : Int32) : Nat → Nat
  | 0 => 0
  | t + 1 => inBlock g b t + if g t 0 = b then 1 else 0
/-- what is loose in the program's row -/
def looseSz (I : im_I) (f : Nat → Nat → Int32) (j : Nat) : Nat := if I 8 j = 0 then szOf f j else 0
def rootSz (f g : Nat → Nat → Int32) (t : Nat) : Nat := szOf f (g t 2).toNatClampNeg
