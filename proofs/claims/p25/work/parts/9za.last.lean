/-! the law's end -/
section
variable {k : im_K} {S : im_S} {I : im_I} {rn nn rs ns : Nat} {tm : Nat → Nat}
set_option maxHeartbeats 1000000 in
theorem law_last {X : im_X} {Q : State → Prop} {i : Int32} (hX : im_Ok X k mL_law 100) (h : Rd S I rn nn rs ns tm) (h351 : ∀ (L : List (Option Value)) (Z : im_I), L.length = 11 → im_E X k Q 351 L [.int 1] S Z) :
    im_E X k Q 296 [some (.ref 0), some (.ref 2), some (.ref 125), some (.int i), none, none, none, none, none, none, none] [] S I := by
  obtain ⟨g, g8, gB, g29⟩ := Rd_now h
  have hpg := Rd_pg g
  obtain ⟨R, hm⟩ := g.2.2.2.1.1
  have hl := g.2.2.2.1.2.1
  have hz := g.2.2.2.1.2.2
  have hN := (g.2.2.2.2.2 g8).2
  have ht3 := Rd_t3 g
  have ht9 := Rd_t9 g
  have hrt := rt_1000 h.2.1
  have h11 := g.2.1
  have hz0 := h.2.2.2.1.2.2
  have fK : ∀ z, z ≠ 2 ∧ (z < 12 ∨ 14 < z) → meantNow_ (builtNow_ I 2) 2 z = builtNow_ I 2 z := fun z hz => meantNow_f hz
  have fK8 : meantNow_ (builtNow_ I 2) 2 2 8 = builtNow_ I 2 2 8 := meantNow_8
  have n1 : NowE (meantNow_ (builtNow_ I 2) 2) (digestM_ (builtNow_ I 2) 2) := digestM_now
  have i1 : builtNow_ (digestM_ (builtNow_ I 2) 2) 2 = digestM_ (builtNow_ I 2) 2 := builtNow_id (by rw [n1 2 (by decide), fK8]; exact g8)
  have n2 : NowE (meantNow_ (builtNow_ I 2) 2) (few_ (digestM_ (builtNow_ I 2) 2)).2 := NowE_tr n1 few_now
  have i2 : builtNow_ (few_ (digestM_ (builtNow_ I 2) 2)).2 2 = (few_ (digestM_ (builtNow_ I 2) 2)).2 := builtNow_id (by rw [n2 2 (by decide), fK8]; exact g8)
  have n3 : NowE (meantNow_ (builtNow_ I 2) 2) (unordM_ (few_ (digestM_ (builtNow_ I 2) 2)).2) := NowE_tr n2 unord_now
  have i3 : builtNow_ (unordM_ (few_ (digestM_ (builtNow_ I 2) 2)).2) 2 = unordM_ (few_ (digestM_ (builtNow_ I 2) 2)).2 := builtNow_id (by rw [n3 2 (by decide), fK8]; exact g8)
  have hdg := digest_twice (J := unordM_ (few_ (digestM_ (builtNow_ I 2) 2)).2) gB hpg hm ht9 n3
  have v5 := few_v (I := digestM_ (builtNow_ I 2) 2)
  have e2 : ∀ z, 3 ≤ z ∧ z ≤ 11 ∨ z = 15 ∨ z = 16 ∨ 91 ≤ z ∧ z ≤ 107 → (few_ (digestM_ (builtNow_ I 2) 2)).2 z = builtNow_ I 2 z := fun z hz => (n2 z (by omega)).trans (fK z (by omega))
  obtain ⟨n, B, hn, hT⟩ := hN
  have hun := unord_bound (I := (few_ (digestM_ (builtNow_ I 2) 2)).2) (nn := nn) (R := R) (n := n) (B := B) (tm := tm) (PgOk_E hpg fun z z1 z2 => e2 z (by omega)) (McOk_fr hm (e2 15 (by decide))) (LatOk_f hl (e2 (15 + 1) (by decide))) (fun b hb => by rw [e2 4 (by decide)]; exact ht3 b hb) hn (TmI_fr hT fun z z1 z2 => e2 z (by omega))
  have q1 : digestM_ (builtNow_ I 2) 2 15 = builtNow_ I 2 15 := (n1 15 (by decide)).trans (fK 15 (by decide))
  have q2 : (few_ (digestM_ (builtNow_ I 2) 2)).2 15 = builtNow_ I 2 15 := e2 15 (by decide)
  have q3 : unordM_ (few_ (digestM_ (builtNow_ I 2) 2)).2 15 = builtNow_ I 2 15 := (n3 15 (by decide)).trans (fK 15 (by decide))
  have q4 : unordM_ (few_ (digestM_ (builtNow_ I 2) 2)).2 29 = builtNow_ I 2 29 := (n3 29 (by decide)).trans (fK 29 (by decide))
  have q5 : unordM_ (few_ (digestM_ (builtNow_ I 2) 2)).2 11 = builtNow_ I 2 11 := (n3 11 (by decide)).trans (fK 11 (by decide))
  refine law_end hX (old_o (Lw_old h.1)) (Lw_own h.1) hrt hz0 g29 ?_ ?_ ?_ ?_ ?_ ?_ ?_ ?_ ?_ (fun L hL => h351 L _ hL)
  · rw [q1]; exact hz
  · rw [i1, q2]; exact hz
  · rw [i1, i2, q3]; exact hz
  · rw [i1, i2]
    exact rt_1000 fun j => by rw [q5]; exact h11 j
  · rw [i1, i2, i3, q4]; exact g29
  · rw [i1]; exact v5.1
  · rw [i1]; exact v5.2
  · rw [i1, i2]; exact hun
  · rw [i1, i2, i3]; exact hdg.symm
end
