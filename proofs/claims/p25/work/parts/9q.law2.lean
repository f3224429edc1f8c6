/-! the law's end: digest, enough, unordered, digest again -/
theorem lg_eq {x y : Int64} (h : y = x) : lg_cmp x y = 0 := by
  subst h
  unfold lg_cmp
  rw [if_neg (show ¬ y > y from Int64.lt_irrefl), if_pos rfl]
set_option maxRecDepth 100000 in
set_option maxHeartbeats 1000000 in
theorem law_end {X : im_X} {k : im_K} {Q : State → Prop} {S : im_S} {I : im_I} {rn nn rs ns : Nat} {i : Int32} (hX : im_Ok X k mL_law 100) (hm : o_X11 S 2) (ho : o_X12 S 125 rn nn rs ns) (hrt : ∀ b j : Int32, rootOf_ I 3 b j < 2147483647) (hz : (I 15 3 = 0 ∨ I 15 3 = 1) ∧ (I 15 4 = 0 ∨ I 15 4 = 1)) (he1 : builtNow_ I 2 29 0 < 2147483647)
    (hz2 : (((digestM_ (builtNow_ I 2) 2) 15 3 = 0 ∨ (digestM_ (builtNow_ I 2) 2) 15 3 = 1) ∧ ((digestM_ (builtNow_ I 2) 2) 15 4 = 0 ∨ (digestM_ (builtNow_ I 2) 2) 15 4 = 1))) (hz3 : (((few_ (builtNow_ (digestM_ (builtNow_ I 2) 2) 2)).2 15 3 = 0 ∨ (few_ (builtNow_ (digestM_ (builtNow_ I 2) 2) 2)).2 15 3 = 1) ∧ ((few_ (builtNow_ (digestM_ (builtNow_ I 2) 2) 2)).2 15 4 = 0 ∨ (few_ (builtNow_ (digestM_ (builtNow_ I 2) 2) 2)).2 15 4 = 1))) (hz4 : (((unordM_ (builtNow_ (few_ (builtNow_ (digestM_ (builtNow_ I 2) 2) 2)).2 2)) 15 3 = 0 ∨ (unordM_ (builtNow_ (few_ (builtNow_ (digestM_ (builtNow_ I 2) 2) 2)).2 2)) 15 3 = 1) ∧ ((unordM_ (builtNow_ (few_ (builtNow_ (digestM_ (builtNow_ I 2) 2) 2)).2 2)) 15 4 = 0 ∨ (unordM_ (builtNow_ (few_ (builtNow_ (digestM_ (builtNow_ I 2) 2) 2)).2 2)) 15 4 = 1))) (hrt4 : ∀ b j : Int32, rootOf_ (unordM_ (builtNow_ (few_ (builtNow_ (digestM_ (builtNow_ I 2) 2) 2)).2 2)) 3 b j < 2147483647) (he4 : builtNow_ (unordM_ (builtNow_ (few_ (builtNow_ (digestM_ (builtNow_ I 2) 2) 2)).2 2)) 2 29 0 < 2147483647)
    (hen5 : ¬ (few_ (builtNow_ (digestM_ (builtNow_ I 2) 2) 2)).1 < 0 → ¬ (few_ (builtNow_ (digestM_ (builtNow_ I 2) 2) 2)).1 < 5) (hen11 : ¬ (few_ (builtNow_ (digestM_ (builtNow_ I 2) 2) 2)).1 < 0 → ¬ (few_ (builtNow_ (digestM_ (builtNow_ I 2) 2) 2)).1 > 11) (hun : -9999 ≤ (unordM_ (builtNow_ (few_ (builtNow_ (digestM_ (builtNow_ I 2) 2) 2)).2 2)) 120 1 - (unordM_ (builtNow_ (few_ (builtNow_ (digestM_ (builtNow_ I 2) 2) 2)).2 2)) 103 1)
    (hdg : digestV_ (builtNow_ I 2) 2 = digestV_ (builtNow_ (unordM_ (builtNow_ (few_ (builtNow_ (digestM_ (builtNow_ I 2) 2) 2)).2 2)) 2) 2)
    (h351 : ∀ L : List (Option Value), L.length = 11 → im_E X k Q 351 L [.int 1] S (digestM_ (builtNow_ (unordM_ (builtNow_ (few_ (builtNow_ (digestM_ (builtNow_ I 2) 2) 2)).2 2)) 2) 2)) : im_E X k Q 296 [some (.ref 0), some (.ref 2), some (.ref 125), some (.int i), none, none, none, none, none, none, none] [] S I := by
  refine r_aload_n (pc := 296) hX dL_law_296 rfl ?_
  refine r_callV (Z := mX11_digest) (t := 11) (pc := 297) hX dL_law_297 ml_L_117 mX11_digest_w ⟨by decide, rfl⟩ (o_X11_k hm) (sp_X11_digest hm (by decide) hrt hz he1) rfl rfl (Nat.le_of_ble_eq_true rfl) (by decide) rfl (Or.inl rfl) ?_
  refine r_lstore_n (pc := 300) hX (L' := [_, _, _, _, _, _, _, _, _, _, _]) dL_law_300 rfl rfl (Nat.le_of_ble_eq_true rfl) ?_
  refine r_aload_n (pc := 301) hX dL_law_301 rfl ?_
  refine r_callV (Z := mX11_enough) (t := 11) (pc := 302) hX dL_law_302 ml_L_121 mX11_enough_w ⟨by decide, rfl⟩ (o_X11_k hm) (sp_X11_enough hm (by decide) hz2) rfl rfl (Nat.le_of_ble_eq_true rfl) (by decide) rfl (Or.inl rfl) ?_
  refine r_istore (pc := 305) hX (L' := [_, _, _, _, _, _, _, _, _, _, _]) dL_law_305 rfl rfl (Nat.le_of_ble_eq_true rfl) ?_
  refine r_iload (pc := 307) hX dL_law_307 rfl ?_
  refine r_if_lt (pc := 309) hX 325 dL_law_309 (by decide) (fun c309 => ?_) (fun c309 => ?_)
  · have c309d := Int32.not_le.mpr c309
    refine r_aload_n (pc := 325) hX dL_law_325 rfl ?_
    refine r_callV (Z := mX11_unordered) (t := 11) (pc := 326) hX dL_law_326 ml_L_125 mX11_unordered_w ⟨by decide, rfl⟩ (o_X11_k hm) (sp_X11_unordered hm (by decide) hz3) rfl rfl (Nat.le_of_ble_eq_true rfl) (by decide) rfl (Or.inl rfl) ?_
    refine r_sipush (pc := 329) hX (-9999) dL_law_329 (by decide) ?_
    refine r_icmp_ge (pc := 332) hX 337 dL_law_332 (by decide) (fun c332 => ?_) (fun c332 => ?_)
    · have c332d := Int32.not_lt.mpr c332
      refine r_aload_n (pc := 337) hX dL_law_337 rfl ?_
      refine r_callV (Z := mX11_digest) (t := 11) (pc := 338) hX dL_law_338 ml_L_117 mX11_digest_w ⟨by decide, rfl⟩ (o_X11_k hm) (sp_X11_digest hm (by decide) hrt4 hz4 he4) rfl rfl (Nat.le_of_ble_eq_true rfl) (by decide) rfl (Or.inl rfl) ?_
      refine r_lload_n (pc := 341) hX dL_law_341 rfl ?_
      refine r_lcmp (pc := 342) hX dL_law_342 ?_
      refine r_if_ne (pc := 343) hX 350 dL_law_343 (by decide) (fun c343 => ?_) (fun c343 => ?_)
      · exact absurd (lg_eq hdg) c343
      · refine r_iconst (pc := 346) hX 1 dL_law_346 (by decide) ?_
        refine r_goto (pc := 347) hX (tgt := 351) dL_law_347 (by decide) ?_
        exact h351 _ rfl
    · have c332d := Int32.not_le.mp c332
      exact absurd hun c332
  · have c309d := Int32.not_lt.mp c309
    refine r_iload (pc := 312) hX dL_law_312 rfl ?_
    refine r_iconst (pc := 314) hX 5 dL_law_314 (by decide) ?_
    refine r_icmp_lt (pc := 315) hX 335 dL_law_315 (by decide) (fun c315 => ?_) (fun c315 => ?_)
    · have c315d := Int32.not_le.mpr c315
      exact absurd c315 (hen5 c309)
    · have c315d := Int32.not_lt.mp c315
      refine r_iload (pc := 318) hX dL_law_318 rfl ?_
      refine r_bipush (pc := 320) hX 11 dL_law_320 (by decide) ?_
      refine r_icmp_gt (pc := 322) hX 335 dL_law_322 (by decide) (fun c322 => ?_) (fun c322 => ?_)
      · have c322d := Int32.not_le.mpr c322
        exact absurd c322 (hen11 c309)
      · have c322d := Int32.not_lt.mp c322
        refine r_aload_n (pc := 325) hX dL_law_325 rfl ?_
        refine r_callV (Z := mX11_unordered) (t := 11) (pc := 326) hX dL_law_326 ml_L_125 mX11_unordered_w ⟨by decide, rfl⟩ (o_X11_k hm) (sp_X11_unordered hm (by decide) hz3) rfl rfl (Nat.le_of_ble_eq_true rfl) (by decide) rfl (Or.inl rfl) ?_
        refine r_sipush (pc := 329) hX (-9999) dL_law_329 (by decide) ?_
        refine r_icmp_ge (pc := 332) hX 337 dL_law_332 (by decide) (fun c332 => ?_) (fun c332 => ?_)
        · have c332d := Int32.not_lt.mpr c332
          refine r_aload_n (pc := 337) hX dL_law_337 rfl ?_
          refine r_callV (Z := mX11_digest) (t := 11) (pc := 338) hX dL_law_338 ml_L_117 mX11_digest_w ⟨by decide, rfl⟩ (o_X11_k hm) (sp_X11_digest hm (by decide) hrt4 hz4 he4) rfl rfl (Nat.le_of_ble_eq_true rfl) (by decide) rfl (Or.inl rfl) ?_
          refine r_lload_n (pc := 341) hX dL_law_341 rfl ?_
          refine r_lcmp (pc := 342) hX dL_law_342 ?_
          refine r_if_ne (pc := 343) hX 350 dL_law_343 (by decide) (fun c343 => ?_) (fun c343 => ?_)
          · exact absurd (lg_eq hdg) c343
          · refine r_iconst (pc := 346) hX 1 dL_law_346 (by decide) ?_
            refine r_goto (pc := 347) hX (tgt := 351) dL_law_347 (by decide) ?_
            exact h351 _ rfl
        · have c332d := Int32.not_le.mp c332
          exact absurd hun c332
