section R2q
variable {X : im_X} {k : im_K} {Y : im_Y} {d : Nat} {Q : State → Prop} {pc : Nat} {L : List (Option Value)} {st : List Value} {S : im_S} {I : im_I}
theorem r_callVq (hX : im_Ok X k Y d) {ix a t n d' : Nat} {as rest : List Value} {Z : im_Y} {v : Option Value} {S' : im_S} {I' : im_I} (hd : decode Y.2.1 pc = .ok (.invokevirtual ix, 3)) (hw : Cond.methodLink Y.1.cls ix Z.1 ∈ im_W) (hz : im_mV Z n) (ht : t < 13 ∧ Z.1.cls = im_C t) (hk : im_k S a = (t, im_N t))
    (hr : im_Runs (xl X) k d' Z (.ref a :: as) (S, I) v (S', I')) (hs : st = as.reverse ++ (.ref a :: rest)) (hn : as.length = n) (hq : (rest.map fun v => v.category).sum ≤ 8) (hdd : d' < d) (hl : L.length = Y.2.2.1) (hroom : S' = S ∨ im_n S' - xn X ≤ (xR X).cells ∧ im_z S' - xz X ≤ (xR X).slots)
    (h : im_E X k Q (pc + 3) L (v.toList ++ rest) S' I') : im_E X k Q pc L st S I := by
  subst hs
  intro H locs ls hH hS hL hB
  obtain ⟨hx, hb, hml, hret, hown, hts, hlk, hSt, hnm, hfr, hlo⟩ := id hX
  obtain ⟨i, rfl, hi⟩ := im_k_lt hk (by omega)
  have hB2 := hB
  obtain ⟨b1, b2, b3, b4⟩ := hB2
  obtain ⟨m1, m2⟩ := hr.1
  have hrr : im_n S - xn X + (im_n S' - im_n S) ≤ (xR X).cells ∧ im_z S - xz X + (im_z S' - im_z S) ≤ (xR X).slots := by
    rcases hroom with rfl | ⟨r1, r2⟩
    · constructor <;> omega
    · constructor <;> (dsimp only at m1 m2; omega)
  have hl20 := hz.1.2.2.1
  have he := im_w_at (k := k) (M := (S, I)) hi
  rw [im_e_obj ht.1 hk] at he
  refine im_call (rest := rest) (v := v) (a := (Value.ref (kB k + i) :: as.map (im_v k)).toArray) hr.1 hS hL hB hroom (va_runV (C := Z.1.cls) (ret := Z.2.2.2) (maxL := Z.2.2.1) (bytes := Z.2.1) (As := as.map (im_v k)) (n := n) (nL := Y.2.2.1) (b := kB k + i) (index := ix) ⟨hx, hb, hml, hown, hts⟩ hr.2
    ⟨⟨rfl, rfl, by show d' + 1 ≤ _; omega, by show 8 + (Z.2.2.1 + 11) + 40 * d' ≤ _; omega, pay_in hts (im_goodC hz.1), List.mem_cons_self, hts _ hz.1.2.1, hts _ hz.1.1, hz.1.2.2.2.1, im_len hz.1 rfl, hts _ hw⟩, hts _ hz.2.1, hts _ hz.2.2⟩
    ⟨im_blind, ?_, fun U hU hW => ⟨by simp [im_v, im_rho], by rw [hU]; exact hH, hSt.warm hS hU hW⟩⟩ rfl (by simpa using hn) (by rw [hL.1, hl]) ?_ ?_ hd hrr) h
  · obtain ⟨cell, g1, g2, g3⟩ := va_recv hSt.1 hH.2 (im_cl t ht.1) he
    exact ⟨cell, g1, g2, by rw [ht.2]; exact g3⟩
  · simp [im_v, im_rho]
  · have e9 : ((rest.map (im_v k)).map fun v => v.category) = rest.map fun v => v.category := by
      rw [List.map_map]
      exact List.map_congr_left (fun v _ => im_v_cat k v)
    show 2 * 0 + ((rest.map (im_v k)).map fun v => v.category).sum ≤ 8
    rw [e9]
    omega
end R2q
