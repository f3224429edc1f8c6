/-! FROM THE LAW'S STATE TO THE PLAN: the program is well told -/
theorem ofNat_inj4 {x y : Nat} (hx : x < 1000) (hy : y < 1000) (e : Int32.ofNat x = Int32.ofNat y) : x = y := nI_inj (by omega) (by omega) e
theorem int_nat {x : Int32} {n : Nat} (h0 : 0 ≤ x.toInt) (h1 : x.toInt ≤ n) (hn : n < 2 ^ 31) : ∃ q, q ≤ n ∧ x = nI q := by
  refine ⟨x.toInt.toNat, by omega, ?_⟩
  apply Int32.toInt_inj.mp
  rw [nI_toInt (by omega)]
  omega
section LwPg
variable {S : im_S} {I : im_I} {rn nn rs ns : Nat}
theorem Lw_pgOk (h : Lw S I rn nn rs ns) : pgOk (I 5) (I 6) (I 7) nn := by
  refine ⟨Lw_n80 h, fun j hj => ?_⟩
  have n80 := Lw_n80 h
  rw [Lw_n5 h j hj, Lw_n6 h j hj, Lw_n7 h j hj]
  obtain ⟨k1, k2⟩ := Lw_kinds h j hj
  obtain ⟨q, q1, q2⟩ := int_nat (n := 5) k1 k2 (by decide)
  obtain ⟨n1, n2⟩ := Lw_nodes h j hj
  rw [q2] at n1 n2 ⊢
  have hc : q = 0 ∨ q = 1 ∨ q = 2 ∨ q = 3 ∨ q = 4 ∨ q = 5 := by omega
  have big : ∀ q : Nat, q < 6 → 2 ≤ q → ¬ nI q < 2 := by decide
  rcases hc with rfl | rfl | rfl | rfl | rfl | rfl
  · exact Or.inl (Or.inl nI_0)
  · refine Or.inl (Or.inr ⟨rfl, ?_⟩)
    have hv := n1 (by decide) (by decide)
    have hn := vp_nat hv
    rw [vp_in_iff] at hv
    obtain ⟨v, v1, v2⟩ := int_nat (n := 7) hv.1 (by omega) (by decide)
    exact ⟨v, by omega, v2⟩
  all_goals
    obtain ⟨⟨x, x1, x2⟩, y, y1, y2⟩ := n2 (big _ (by decide) (by decide))
    refine Or.inr ⟨by first | exact Or.inl rfl | exact Or.inr (Or.inl rfl) | exact Or.inr (Or.inr (Or.inl rfl)) | exact Or.inr (Or.inr (Or.inr rfl)), x, y, x1, y1, x2, y2⟩
/-- sizes read a row's first three numbers alone -/
theorem sz_congr3 {f g : Nat → Nat → Int32} {nn : Nat} (h : nodesOk f nn) (hn : nn ≤ 1000) (he : ∀ j, j < nn → g j 0 = f j 0 ∧ g j 1 = f j 1 ∧ g j 2 = f j 2) : ∀ (n j : Nat), j < nn → j < n → sz_ g n j = sz_ f n j := by
  intro n
  induction n with
  | zero => intro j _ h1; omega
  | succ n ih =>
    intro j hj h1
    obtain ⟨e0, e1, e2⟩ := he j hj
    rw [sz_s, sz_s, e0, e1, e2]
    split
    · rfl
    · next c =>
      obtain ⟨p1, p2⟩ := nodesOk_part h hn hj c
      rw [ih _ (by omega) (by omega), ih _ (by omega) (by omega)]
theorem Lw_szP (h : Lw S I rn nn rs ns) {j : Nat} (hj : j < nn) : szP (I 5) (I 6) (I 7) j = szOf (rowAt S I rn) j := by
  have n80 := Lw_n80 h
  exact sz_congr3 (Lw_nodes h) (by omega) (fun i hi => ⟨Lw_n5 h i hi, Lw_n6 h i hi, Lw_n7 h i hi⟩) _ _ hj (by omega)
theorem inBlock_find {g : Nat → Nat → Int32} {z : Int32} : ∀ {n k : Nat}, k < inBlock g z n → ∃ t, t < n ∧ g t 0 = z ∧ inBlock g z t = k
  | 0, k, h => absurd h (by show ¬ k < 0; omega)
  | n + 1, k, h => by
    have h' : k < inBlock g z n + if g n 0 = z then 1 else 0 := h
    by_cases c : k < inBlock g z n
    · obtain ⟨t, t1, t2, t3⟩ := inBlock_find c
      exact ⟨t, by omega, t2, t3⟩
    · by_cases d : g n 0 = z
      · rw [if_pos d] at h'
        exact ⟨n, by omega, d, by omega⟩
      · rw [if_neg d] at h'
        omega
theorem Lw_stmtAt (h : Lw S I rn nn rs ns) {t b : Nat} (ht : t < ns) (hb : b < 4) (e : rowAt S I rs t 0 = Int32.ofNat b) : I 10 (24 * b + inBlock (rowAt S I rs) (Int32.ofNat b) t) = rowAt S I rs t 1 ∧ I 11 (24 * b + inBlock (rowAt S I rs) (Int32.ofNat b) t) = rowAt S I rs t 2 := by
  obtain ⟨blk, b1, b2, b3, b4⟩ := Lw_stm h t ht
  have : blk = b := ofNat_inj4 (by omega) (by omega) (b2.symm.trans e)
  subst this
  exact ⟨b3, b4⟩
theorem Lw_ct (h : Lw S I rn nn rs ns) {b : Nat} (hb : b < 4) : ctN I b = inBlock (rowAt S I rs) (Int32.ofNat b) ns ∧ I 9 b = nI (ctN I b) ∧ ctN I b ≤ 24 := by
  have e := Lw_cnts h b hb
  have hle := inBlock_le (g := rowAt S I rs) (z := Int32.ofNat b) (t := ns)
  have s24 := Lw_s24 h
  have e2 : ctN I b = inBlock (rowAt S I rs) (Int32.ofNat b) ns := by
    unfold ctN
    rw [e]
    exact ofN_nI (by omega)
  exact ⟨e2, by rw [e2]; exact e, by omega⟩
/-- the t-th statement, by its block and place -/
theorem Lw_place (h : Lw S I rn nn rs ns) {t b : Nat} (ht : t < ns) (hb : b < 4) (e : rowAt S I rs t 0 = Int32.ofNat b) : (rowAt S I rs t 1 = nI (vaN I b (inBlock (rowAt S I rs) (Int32.ofNat b) t)) ∧ vaN I b (inBlock (rowAt S I rs) (Int32.ofNat b) t) < 8) ∧ (rowAt S I rs t 2 = nI (roN I b (inBlock (rowAt S I rs) (Int32.ofNat b) t)) ∧ roN I b (inBlock (rowAt S I rs) (Int32.ofNat b) t) < nn) := by
  obtain ⟨e1, e2⟩ := Lw_stmtAt h ht hb e
  obtain ⟨hv, x, hx, -, ex⟩ := Lw_stOk h t ht
  have n80 := Lw_n80 h
  rw [vp_in_iff] at hv
  obtain ⟨v, v1, v2⟩ := int_nat (n := 7) hv.1 (by omega) (by decide)
  have ev : vaN I b (inBlock (rowAt S I rs) (Int32.ofNat b) t) = v := by
    unfold vaN
    rw [e1, v2, ofN_nI (by omega)]
  have er : roN I b (inBlock (rowAt S I rs) (Int32.ofNat b) t) = x := by
    unfold roN
    rw [e2, ex]
    exact ofN_nI (by omega)
  rw [ev, er]
  exact ⟨⟨v2, by omega⟩, ex, hx⟩
theorem sumTo_s {g : Nat → Nat} {n : Nat} : sumTo g (n + 1) = sumTo g n + g n := rfl
theorem Lw_tot (h : Lw S I rn nn rs ns) : ∀ n, n ≤ ns → sumTo (fun i => sumTo (szS I i) (inBlock (rowAt S I rs) (Int32.ofNat i) n)) 4 = sumTo (rootSz (rowAt S I rn) (rowAt S I rs)) n := by
  intro n
  induction n with
  | zero => intro _; rfl
  | succ n ih =>
    intro hn
    have ih := ih (by omega)
    obtain ⟨blk, b1, b2, -, -⟩ := Lw_stm h n (by omega)
    obtain ⟨-, r1, r2⟩ := Lw_place h (show n < ns by omega) b1 b2
    have es : szS I blk (inBlock (rowAt S I rs) (Int32.ofNat blk) n) = rootSz (rowAt S I rn) (rowAt S I rs) n := by
      have n80 := Lw_n80 h
      unfold szS rootSz
      rw [Lw_szP h r2, r1, nI_clamp (by omega)]
    have hstep : ∀ i, i < 4 → sumTo (szS I i) (inBlock (rowAt S I rs) (Int32.ofNat i) (n + 1)) = sumTo (szS I i) (inBlock (rowAt S I rs) (Int32.ofNat i) n) + if i = blk then rootSz (rowAt S I rn) (rowAt S I rs) n else 0 := by
      intro i hi
      show sumTo (szS I i) (inBlock (rowAt S I rs) (Int32.ofNat i) n + if rowAt S I rs n 0 = Int32.ofNat i then 1 else 0) = _
      by_cases c : i = blk
      · subst c
        rw [if_pos b2, if_pos rfl, sumTo_s, es]
      · rw [if_neg (fun e => c (ofNat_inj4 (by omega) (by omega) (e.symm.trans b2))), if_neg c]
        rfl
    have eS : sumTo (rootSz (rowAt S I rn) (rowAt S I rs)) (n + 1) = sumTo (rootSz (rowAt S I rn) (rowAt S I rs)) n + rootSz (rowAt S I rn) (rowAt S I rs) n := rfl
    rw [eS, ← ih]
    simp only [sumTo]
    rw [hstep 0 (by decide), hstep 1 (by decide), hstep 2 (by decide), hstep 3 (by decide)]
    have hc : blk = 0 ∨ blk = 1 ∨ blk = 2 ∨ blk = 3 := by omega
    rcases hc with rfl | rfl | rfl | rfl <;> simp <;> omega
theorem Lw_PgOk (h : Lw S I rn nn rs ns) : PgOk I nn := by
  have n80 := Lw_n80 h
  refine ⟨Lw_c0 h, Lw_pgOk h, fun b hb => ?_, ?_⟩
  · obtain ⟨c1, c2, c3⟩ := Lw_ct h hb
    refine ⟨c2, c3, fun k hk => ?_⟩
    rw [c1] at hk
    obtain ⟨t, t1, t2, t3⟩ := inBlock_find hk
    obtain ⟨⟨v1, v2⟩, r1, r2⟩ := Lw_place h t1 hb t2
    obtain ⟨e1, e2⟩ := Lw_stmtAt h t1 hb t2
    rw [t3] at v1 v2 r1 r2 e1 e2
    exact ⟨e1.trans v1, v2, e2.trans r1, r2⟩
  · have ht := Lw_tot h ns (Nat.le_refl _)
    have e : totB I 4 = sumTo (fun i => sumTo (szS I i) (inBlock (rowAt S I rs) (Int32.ofNat i) ns)) 4 := sumTo_congr fun i hi => by rw [(Lw_ct h hi).1]
    rw [e, ht]
    have := Lw_sum h
    omega
end LwPg
