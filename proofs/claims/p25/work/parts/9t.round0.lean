/-! the law's state under changes that it doesn't see -/
section
variable {S S' : im_S} {I J : im_I} {rn nn rs ns : Nat}
theorem Lw_ext (h : Lw S I rn nn rs ns) (hD : oldS S') (hO : o_X12 S' 125 rn nn rs ns) (hN : rowsOk S' rn nn) (hR : rowsOk S' rs ns) (hf : ∀ j, j < nn → rowAt S' J rn j = rowAt S I rn j) (hg : ∀ j, j < ns → rowAt S' J rs j = rowAt S I rs j) (e0 : J 3 0 = I 3 0) (e1 : J 3 1 = I 3 1) (e : ∀ z, 5 ≤ z → z ≤ 11 → J z = I z) : Lw S' J rn nn rs ns := by
  have q5 := e 5 (by decide) (by decide)
  have q6 := e 6 (by decide) (by decide)
  have q7 := e 7 (by decide) (by decide)
  have q8 := e 8 (by decide) (by decide)
  have q9 := e 9 (by decide) (by decide)
  have q10 := e 10 (by decide) (by decide)
  have q11 := e 11 (by decide) (by decide)
  have n80 := Lw_n80 h
  have hib : ∀ z t, t ≤ ns → inBlock (rowAt S' J rs) z t = inBlock (rowAt S I rs) z t := fun z t ht => inBlock_congr fun j hj => hg j (by omega)
  have hsz : ∀ j, j < nn → szOf (rowAt S' J rn) j = szOf (rowAt S I rn) j := fun j hj => (szOf_congr (Lw_nodes h) (by omega) (fun i hi => (hf i hi).symm) hj).symm
  refine ⟨hD, hO, hN, hR, n80, Lw_s24 h, e0.trans (Lw_c0 h), e1.trans (Lw_c1 h), fun j hj => ?_, fun j hj => ?_, fun j hj => ?_, nodesOk_congr (fun j hj => (hf j hj).symm) (Lw_nodes h), fun j hj => ?_, fun t ht => ?_, stmtsOk_congr (fun j hj => (hg j hj).symm) (Lw_stOk h), fun b hb => ?_, ?_⟩
  · rw [q5, hf j hj]; exact Lw_n5 h j hj
  · rw [q6, hf j hj]; exact Lw_n6 h j hj
  · rw [q7, hf j hj]; exact Lw_n7 h j hj
  · rw [hf j hj]; exact Lw_kinds h j hj
  · obtain ⟨b, b1, b2, b3, b4⟩ := Lw_stm h t ht
    refine ⟨b, b1, ?_, ?_, ?_⟩
    · rw [hg t ht]; exact b2
    · rw [hg t ht, q10, hib _ t (by omega)]; exact b3
    · rw [hg t ht, q11, hib _ t (by omega)]; exact b4
  · rw [q9, hib _ ns (Nat.le_refl _)]; exact Lw_cnts h b hb
  · have s1 : sumTo (looseSz J (rowAt S' J rn)) nn = sumTo (looseSz I (rowAt S I rn)) nn := sumTo_congr fun j hj => by
      unfold looseSz
      rw [q8, hsz j hj]
    have s2 : sumTo (rootSz (rowAt S' J rn) (rowAt S' J rs)) ns = sumTo (rootSz (rowAt S I rn) (rowAt S I rs)) ns := sumTo_congr fun t ht => by
      obtain ⟨-, x, hx, -, ex⟩ := Lw_stOk h t ht
      unfold rootSz
      rw [hg t ht, ex, ofNat_nat (by omega)]
      exact hsz x hx
    rw [s1, s2]
    exact Lw_sum h
theorem Lw_fr (h : Lw S I rn nn rs ns) (e0 : J 3 0 = I 3 0) (e1 : J 3 1 = I 3 1) (e : ∀ z, 5 ≤ z → z ≤ 11 → J z = I z) (ec : ∀ c, im_k S c = (20, 3) → J c = I c) : Lw S J rn nn rs ns :=
  Lw_ext h (Lw_old h) (Lw_own h) (Lw_rowsN h) (Lw_rowsS h) (fun j hj => ec _ (Lw_rowsN h j hj).2) (fun j hj => ec _ (Lw_rowsS h j hj).2) e0 e1 e
theorem Lw_ne (h : Lw S I rn nn rs ns) {b : Nat} (hb : im_n S + 2 = b) : 125 < b ∧ 128 < b ∧ 129 < b ∧ rn < b ∧ rs < b :=
  ⟨Lw_lt hb (o_X12_k (Lw_own h)) (by decide), Lw_lt hb (o_X12_a2 (Lw_own h)) (by decide), Lw_lt hb (o_X12_a3 (Lw_own h)) (by decide), Lw_lt hb (o_X12_a0 (Lw_own h)) (show 21 < 99 by decide), Lw_lt hb (o_X12_a1 (Lw_own h)) (show 21 < 99 by decide)⟩
theorem Lw_al (h : Lw S I rn nn rs ns) {b t n : Nat} (hb : im_n S + 2 = b) (e : ∀ z, z < b → J z = I z) : Lw (im_alS S b t n) J rn nn rs ns := by
  obtain ⟨b1, b2, b3, b4, b5⟩ := Lw_ne h hb
  have hrow : ∀ r m, r < b → rowsOk S r m → rowsOk (im_alS S b t n) r m ∧ ∀ j, j < m → rowAt (im_alS S b t n) J r j = rowAt S I r j := fun r m hr hk => by
    have er : ∀ j, im_r (im_alS S b t n) r j = im_r S r j := fun j => rr_al (by omega) rfl
    refine ⟨fun j hj => ?_, fun j hj => ?_⟩
    · rw [er]
      exact ⟨(hk j hj).1, kk_al hb (hk j hj).2 (by decide)⟩
    · funext q
      show J (im_r (im_alS S b t n) r j - 1) q = I (im_r S r j - 1) q
      rw [er, e _ (Lw_lt hb (hk j hj).2 (by decide))]
  obtain ⟨n1, n2⟩ := hrow rn nn b4 (Lw_rowsN h)
  obtain ⟨s1, s2⟩ := hrow rs ns b5 (Lw_rowsS h)
  exact Lw_ext h (oldS_al hb (by omega) (Lw_old h)) (o_X12_al hb (Lw_own h) (by omega)) n1 s1 n2 s2 (congrFun (e 3 (by omega)) 0) (congrFun (e 3 (by omega)) 1) fun z z1 z2 => e z (by omega)
end
theorem below_nat {v n : Int32} {m : Nat} (hn : n = nI m) (h0 : 0 < m) (h9 : m < 2 ^ 31) : ∃ t : Nat, below_ v n = nI t ∧ t < m := by
  have e : n.toInt = m := by rw [hn]; exact nI_toInt h9
  obtain ⟨h1, h2⟩ := below_range (v := v) (n := n) (by omega)
  refine ⟨(below_ v n).toInt.toNat, ?_, by omega⟩
  apply Int32.toInt_inj.mp
  rw [nI_toInt (by omega)]
  omega
theorem keeps_mach : ∀ R, R < 12 → 5 ≤ R → ∀ z, z < 256 → isMachine_ (nI R) (nI z &&& (1 <<< ((nI R - 3) &&& 31) - 4)) = true := by decide +kernel
theorem keeps_mask : ∀ R, R < 12 → 5 ≤ R → ∀ g, g < 32 → hb (1 <<< ((nI R - 3) &&& 31) - 4) g = true → 2 ≤ g ∧ g + 3 < R := by decide +kernel
