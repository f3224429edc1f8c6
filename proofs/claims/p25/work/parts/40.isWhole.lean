/-! the law's isWhole, by gen19.py -/
theorem pos_step {i e : Int32} (h : ¬ i < 1) (c : ¬ e ≤ i) : ¬ i + 1 < 1 := by
  have c1 := Int32.le_iff_toInt_le.mp (Int32.not_lt.mp h)
  have c2 := Int32.lt_iff_toInt_lt.mp (Int32.not_le.mp c)
  have e1 : (1 : Int32).toInt = 1 := by decide
  have hm := e.toInt_le
  have hm2 : Int32.maxValue.toInt = 2147483647 := by decide
  rw [Int32.lt_iff_toInt_lt, Int32.toInt_add, e1, Int.bmod_eq_of_le (by omega) (by omega)]
  omega
theorem below5 {i : Int32} (h : ¬ i < 1) (c : ¬ 5 ≤ i) : isBelow_ i 8 = true := by
  have c1 := Int32.le_iff_toInt_le.mp (Int32.not_lt.mp h)
  have c2 := Int32.lt_iff_toInt_lt.mp (Int32.not_le.mp c)
  have e1 : (1 : Int32).toInt = 1 := by decide
  have e5 : (5 : Int32).toInt = 5 := by decide
  have e8 : (8 : Int32).toInt = 8 := by decide
  have e0 : (0 : Int32).toInt = 0 := by decide
  refine below_ok ?_ ?_
  · rw [Int32.lt_iff_toInt_lt]; omega
  · rw [Int32.le_iff_toInt_le]; omega
set_option maxRecDepth 100000 in
set_option maxHeartbeats 1000000 in
theorem sp_L_isWhole {l : Launch} {k : im_K} {S : im_S} {I : im_I} {a rn nn rs ns : Nat} {p2 : Int32} (hm : o_X11 S 2) (ho : o_X12 S a rn nn rs ns) (h8 : ¬ I 2 8 = 0) (he : I 29 0 < 2147483647)
    (hV : ∀ pt w : Int32, ¬ pt < 0 → ¬ I 29 0 ≤ pt → ¬ w < 1 → ¬ 5 ≤ w → ¬ tellLine_ I 19 pt w < 0 → wholeAt I p2 (tellLine_ I 19 pt w))
    (hS : tellMany_ I 91 19 5 = 0 ↔ sp3_ I = 0) (h7 : tellMany_ I 91 19 7 = 0 → tellMany_ I 91 19 11 ≤ 0) (h12 : ¬ tellMany_ I 91 19 12 ≤ 0 → ¬ tellMany_ I 91 19 13 < tellMany_ I 91 19 12 + tellMany_ I 91 19 14 ∧ tellMany_ I 91 19 13 ≤ tellMany_ I 91 19 12 + tellMany_ I 91 19 14 + 8)
    (h9 : ¬ tellMany_ I 91 19 9 < tellMany_ I 91 19 10 + tellMany_ I 91 19 11) (h15 : ¬ tellMany_ I 91 19 4 < tellMany_ I 91 19 15) (h2 : Int32.ofNat ns = tellMany_ I 91 19 2) :
    im_Runs l k 8 mL_isWhole [.ref 2, .ref a, .int p2] (S, I) (some (.int 1)) (S, I) := by
  have hc3 : tellMany_ I 91 19 3 = I 29 0 := by simp [tellMany_]
  refine im_run (by decide +kernel) ⟨Nat.le_refl _, Nat.le_refl _⟩ (Nat.le_of_ble_eq_true rfl) ?_
  intro X hl hX hxn hxz hxc hxs
  subst hl
  change im_E X k _ 0 [some (.ref 2), some (.ref a), some (.int p2), none, none, none, none, none, none] [] S I
  refine r_iconst (pc := 0) hX 0 dL_isWhole_0 (by decide) ?_
  refine r_istore_n (pc := 1) hX (L' := [_, _, _, _, _, _, _, _, _]) dL_isWhole_1 rfl rfl (Nat.le_of_ble_eq_true rfl) ?_
  refine r_iconst (pc := 2) hX 0 dL_isWhole_2 (by decide) ?_
  refine r_istore (pc := 3) hX (L' := [_, _, _, _, _, _, _, _, _]) dL_isWhole_3 rfl rfl (Nat.le_of_ble_eq_true rfl) ?_
  have hL5 : ∀ (w1 : Nat) (i1 : Int32) (J1 : Int32), ¬ i1 < 0 → cnt i1 (tellMany_ I 91 19 3) = w1 → loopN w1 i1 (sp2_ I) J1 = loopN (cnt (0) (tellMany_ I 91 19 3)) (0) (sp2_ I) (0) → im_E X k (im_Q X k (some (.int 1)) (S, I)) 5 [some (.ref 2), some (.ref a), some (.int p2), some (.int J1), some (.int i1), none, none, none, none] [] S I := by
    intro w1
    induction w1 with
    | zero =>
      intro i1 J1 hp1 hm1 hR1
      refine r_iload (pc := 5) hX dL_isWhole_5 rfl ?_
      refine r_aload_n (pc := 7) hX dL_isWhole_7 rfl ?_
      refine r_iconst (pc := 8) hX 3 dL_isWhole_8 (by decide) ?_
      refine r_callV (Z := mX11_many) (t := 11) (pc := 9) hX dL_isWhole_9 ml_L_103 mX11_many_w ⟨by decide, rfl⟩ (o_X11_k hm) (sp_many_b hm h8 he (by decide)) rfl rfl (Nat.le_of_ble_eq_true rfl) (by decide) rfl (Or.inl rfl) ?_
      refine r_icmp_ge (pc := 12) hX 150 dL_isWhole_12 (by decide) (fun c12 => ?_) (fun c12 => ?_)
      · have c12d := Int32.not_lt.mpr c12
        rw [loopN_0] at hR1
        subst hR1
        refine r_aload_n (pc := 150) hX dL_isWhole_150 rfl ?_
        refine r_iconst (pc := 151) hX 5 dL_isWhole_151 (by decide) ?_
        refine r_callV (Z := mX11_many) (t := 11) (pc := 152) hX dL_isWhole_152 ml_L_103 mX11_many_w ⟨by decide, rfl⟩ (o_X11_k hm) (sp_many_b hm h8 he (by decide)) rfl rfl (Nat.le_of_ble_eq_true rfl) (by decide) rfl (Or.inl rfl) ?_
        refine r_if_ne (pc := 155) hX 162 dL_isWhole_155 (by decide) (fun c155 => ?_) (fun c155 => ?_)
        · refine r_iconst (pc := 162) hX 0 dL_isWhole_162 (by decide) ?_
          refine r_iload_n (pc := 163) hX dL_isWhole_163 rfl ?_
          refine r_if_ne (pc := 164) hX 171 dL_isWhole_164 (by decide) (fun c164 => ?_) (fun c164 => ?_)
          · refine r_iconst (pc := 171) hX 0 dL_isWhole_171 (by decide) ?_
            refine r_icmp_ne (pc := 172) hX 193 dL_isWhole_172 (by decide) (fun c172 => ?_) (fun c172 => ?_)
            · exact absurd c172 (by decide)
            · refine r_aload_n (pc := 175) hX dL_isWhole_175 rfl ?_
              refine r_bipush (pc := 176) hX 7 dL_isWhole_176 (by decide) ?_
              refine r_callV (Z := mX11_many) (t := 11) (pc := 178) hX dL_isWhole_178 ml_L_103 mX11_many_w ⟨by decide, rfl⟩ (o_X11_k hm) (sp_many_b hm h8 he (by decide)) rfl rfl (Nat.le_of_ble_eq_true rfl) (by decide) rfl (Or.inl rfl) ?_
              refine r_if_ne (pc := 181) hX 195 dL_isWhole_181 (by decide) (fun c181 => ?_) (fun c181 => ?_)
              · refine r_aload_n (pc := 195) hX dL_isWhole_195 rfl ?_
                refine r_bipush (pc := 196) hX 12 dL_isWhole_196 (by decide) ?_
                refine r_callV (Z := mX11_many) (t := 11) (pc := 198) hX dL_isWhole_198 ml_L_103 mX11_many_w ⟨by decide, rfl⟩ (o_X11_k hm) (sp_many_b hm h8 he (by decide)) rfl rfl (Nat.le_of_ble_eq_true rfl) (by decide) rfl (Or.inl rfl) ?_
                refine r_if_le (pc := 201) hX 253 dL_isWhole_201 (by decide) (fun c201 => ?_) (fun c201 => ?_)
                · have c201d := Int32.not_lt.mpr c201
                  refine r_aload_n (pc := 253) hX dL_isWhole_253 rfl ?_
                  refine r_bipush (pc := 254) hX 9 dL_isWhole_254 (by decide) ?_
                  refine r_callV (Z := mX11_many) (t := 11) (pc := 256) hX dL_isWhole_256 ml_L_103 mX11_many_w ⟨by decide, rfl⟩ (o_X11_k hm) (sp_many_b hm h8 he (by decide)) rfl rfl (Nat.le_of_ble_eq_true rfl) (by decide) rfl (Or.inl rfl) ?_
                  refine r_aload_n (pc := 259) hX dL_isWhole_259 rfl ?_
                  refine r_bipush (pc := 260) hX 10 dL_isWhole_260 (by decide) ?_
                  refine r_callV (Z := mX11_many) (t := 11) (pc := 262) hX dL_isWhole_262 ml_L_103 mX11_many_w ⟨by decide, rfl⟩ (o_X11_k hm) (sp_many_b hm h8 he (by decide)) rfl rfl (Nat.le_of_ble_eq_true rfl) (by decide) rfl (Or.inl rfl) ?_
                  refine r_aload_n (pc := 265) hX dL_isWhole_265 rfl ?_
                  refine r_bipush (pc := 266) hX 11 dL_isWhole_266 (by decide) ?_
                  refine r_callV (Z := mX11_many) (t := 11) (pc := 268) hX dL_isWhole_268 ml_L_103 mX11_many_w ⟨by decide, rfl⟩ (o_X11_k hm) (sp_many_b hm h8 he (by decide)) rfl rfl (Nat.le_of_ble_eq_true rfl) (by decide) rfl (Or.inl rfl) ?_
                  refine r_iadd (pc := 271) hX dL_isWhole_271 ?_
                  refine r_icmp_lt (pc := 272) hX 306 dL_isWhole_272 (by decide) (fun c272 => ?_) (fun c272 => ?_)
                  · have c272d := Int32.not_le.mpr c272
                    exact False.elim (by first | exact h9 c272 | exact h15 c286 | exact c299 h2 )
                  · have c272d := Int32.not_lt.mp c272
                    refine r_aload_n (pc := 275) hX dL_isWhole_275 rfl ?_
                    refine r_bipush (pc := 276) hX 15 dL_isWhole_276 (by decide) ?_
                    refine r_callV (Z := mX11_many) (t := 11) (pc := 278) hX dL_isWhole_278 ml_L_103 mX11_many_w ⟨by decide, rfl⟩ (o_X11_k hm) (sp_many_b hm h8 he (by decide)) rfl rfl (Nat.le_of_ble_eq_true rfl) (by decide) rfl (Or.inl rfl) ?_
                    refine r_aload_n (pc := 281) hX dL_isWhole_281 rfl ?_
                    refine r_iconst (pc := 282) hX 4 dL_isWhole_282 (by decide) ?_
                    refine r_callV (Z := mX11_many) (t := 11) (pc := 283) hX dL_isWhole_283 ml_L_103 mX11_many_w ⟨by decide, rfl⟩ (o_X11_k hm) (sp_many_b hm h8 he (by decide)) rfl rfl (Nat.le_of_ble_eq_true rfl) (by decide) rfl (Or.inl rfl) ?_
                    refine r_icmp_gt (pc := 286) hX 306 dL_isWhole_286 (by decide) (fun c286 => ?_) (fun c286 => ?_)
                    · have c286d := Int32.not_le.mpr c286
                      exact False.elim (by first | exact h9 c272 | exact h15 c286 | exact c299 h2 )
                    · have c286d := Int32.not_lt.mp c286
                      refine r_aload_n (pc := 289) hX dL_isWhole_289 rfl ?_
                      refine r_getr (pc := 290) hX dL_isWhole_290 fl_L_47 rfl (o_X12_k ho) (o_X12_r1 ho) ?_
                      refine r_alenR (pc := 293) hX _ dL_isWhole_293 (o_X12_a1 ho) rfl ?_
                      refine r_aload_n (pc := 294) hX dL_isWhole_294 rfl ?_
                      refine r_iconst (pc := 295) hX 2 dL_isWhole_295 (by decide) ?_
                      refine r_callV (Z := mX11_many) (t := 11) (pc := 296) hX dL_isWhole_296 ml_L_103 mX11_many_w ⟨by decide, rfl⟩ (o_X11_k hm) (sp_many_b hm h8 he (by decide)) rfl rfl (Nat.le_of_ble_eq_true rfl) (by decide) rfl (Or.inl rfl) ?_
                      refine r_icmp_ne (pc := 299) hX 306 dL_isWhole_299 (by decide) (fun c299 => ?_) (fun c299 => ?_)
                      · exact False.elim (by first | exact h9 c272 | exact h15 c286 | exact c299 h2 )
                      · refine r_iconst (pc := 302) hX 1 dL_isWhole_302 (by decide) ?_
                        refine r_goto (pc := 303) hX (tgt := 307) dL_isWhole_303 (by decide) ?_
                        exact r_ireturn (pc := 307) hX dL_isWhole_307 rfl rfl (by first | with_reducible rfl | (simp only [eq_true c12, eq_false c12d, eq_false c155, eq_false c164, eq_false c181, eq_true c201, eq_false c201d, eq_false c272, eq_true c272d, eq_false c286, eq_true c286d, eq_true c299, ↓reduceIte, if_true, if_false, decide_true, decide_false, eq_self, b2i_t, b2i_f, Bool.false_eq_true, and_true, true_and, and_false, false_and, or_true, true_or, or_false, false_or, not_true_eq_false, not_false_eq_true] <;> rfl) | simp [eq_true c12, eq_false c12d, eq_false c155, eq_false c164, eq_false c181, eq_true c201, eq_false c201d, eq_false c272, eq_true c272d, eq_false c286, eq_true c286d, eq_true c299]) rfl
                · have c201d := Int32.not_le.mp c201
                  refine r_aload_n (pc := 204) hX dL_isWhole_204 rfl ?_
                  refine r_bipush (pc := 205) hX 13 dL_isWhole_205 (by decide) ?_
                  refine r_callV (Z := mX11_many) (t := 11) (pc := 207) hX dL_isWhole_207 ml_L_103 mX11_many_w ⟨by decide, rfl⟩ (o_X11_k hm) (sp_many_b hm h8 he (by decide)) rfl rfl (Nat.le_of_ble_eq_true rfl) (by decide) rfl (Or.inl rfl) ?_
                  refine r_aload_n (pc := 210) hX dL_isWhole_210 rfl ?_
                  refine r_bipush (pc := 211) hX 12 dL_isWhole_211 (by decide) ?_
                  refine r_callV (Z := mX11_many) (t := 11) (pc := 213) hX dL_isWhole_213 ml_L_103 mX11_many_w ⟨by decide, rfl⟩ (o_X11_k hm) (sp_many_b hm h8 he (by decide)) rfl rfl (Nat.le_of_ble_eq_true rfl) (by decide) rfl (Or.inl rfl) ?_
                  refine r_aload_n (pc := 216) hX dL_isWhole_216 rfl ?_
                  refine r_bipush (pc := 217) hX 14 dL_isWhole_217 (by decide) ?_
                  refine r_callV (Z := mX11_many) (t := 11) (pc := 219) hX dL_isWhole_219 ml_L_103 mX11_many_w ⟨by decide, rfl⟩ (o_X11_k hm) (sp_many_b hm h8 he (by decide)) rfl rfl (Nat.le_of_ble_eq_true rfl) (by decide) rfl (Or.inl rfl) ?_
                  refine r_iadd (pc := 222) hX dL_isWhole_222 ?_
                  refine r_icmp_lt (pc := 223) hX 251 dL_isWhole_223 (by decide) (fun c223 => ?_) (fun c223 => ?_)
                  · have c223d := Int32.not_le.mpr c223
                    exact False.elim (by first | exact (h12 c201).1 c223 | exact c248 (h12 c201).2 )
                  · have c223d := Int32.not_lt.mp c223
                    refine r_aload_n (pc := 226) hX dL_isWhole_226 rfl ?_
                    refine r_bipush (pc := 227) hX 13 dL_isWhole_227 (by decide) ?_
                    refine r_callV (Z := mX11_many) (t := 11) (pc := 229) hX dL_isWhole_229 ml_L_103 mX11_many_w ⟨by decide, rfl⟩ (o_X11_k hm) (sp_many_b hm h8 he (by decide)) rfl rfl (Nat.le_of_ble_eq_true rfl) (by decide) rfl (Or.inl rfl) ?_
                    refine r_aload_n (pc := 232) hX dL_isWhole_232 rfl ?_
                    refine r_bipush (pc := 233) hX 12 dL_isWhole_233 (by decide) ?_
                    refine r_callV (Z := mX11_many) (t := 11) (pc := 235) hX dL_isWhole_235 ml_L_103 mX11_many_w ⟨by decide, rfl⟩ (o_X11_k hm) (sp_many_b hm h8 he (by decide)) rfl rfl (Nat.le_of_ble_eq_true rfl) (by decide) rfl (Or.inl rfl) ?_
                    refine r_aload_n (pc := 238) hX dL_isWhole_238 rfl ?_
                    refine r_bipush (pc := 239) hX 14 dL_isWhole_239 (by decide) ?_
                    refine r_callV (Z := mX11_many) (t := 11) (pc := 241) hX dL_isWhole_241 ml_L_103 mX11_many_w ⟨by decide, rfl⟩ (o_X11_k hm) (sp_many_b hm h8 he (by decide)) rfl rfl (Nat.le_of_ble_eq_true rfl) (by decide) rfl (Or.inl rfl) ?_
                    refine r_iadd (pc := 244) hX dL_isWhole_244 ?_
                    refine r_bipush (pc := 245) hX 8 dL_isWhole_245 (by decide) ?_
                    refine r_iadd (pc := 247) hX dL_isWhole_247 ?_
                    refine r_icmp_le (pc := 248) hX 253 dL_isWhole_248 (by decide) (fun c248 => ?_) (fun c248 => ?_)
                    · have c248d := Int32.not_lt.mpr c248
                      refine r_aload_n (pc := 253) hX dL_isWhole_253 rfl ?_
                      refine r_bipush (pc := 254) hX 9 dL_isWhole_254 (by decide) ?_
                      refine r_callV (Z := mX11_many) (t := 11) (pc := 256) hX dL_isWhole_256 ml_L_103 mX11_many_w ⟨by decide, rfl⟩ (o_X11_k hm) (sp_many_b hm h8 he (by decide)) rfl rfl (Nat.le_of_ble_eq_true rfl) (by decide) rfl (Or.inl rfl) ?_
                      refine r_aload_n (pc := 259) hX dL_isWhole_259 rfl ?_
                      refine r_bipush (pc := 260) hX 10 dL_isWhole_260 (by decide) ?_
                      refine r_callV (Z := mX11_many) (t := 11) (pc := 262) hX dL_isWhole_262 ml_L_103 mX11_many_w ⟨by decide, rfl⟩ (o_X11_k hm) (sp_many_b hm h8 he (by decide)) rfl rfl (Nat.le_of_ble_eq_true rfl) (by decide) rfl (Or.inl rfl) ?_
                      refine r_aload_n (pc := 265) hX dL_isWhole_265 rfl ?_
                      refine r_bipush (pc := 266) hX 11 dL_isWhole_266 (by decide) ?_
                      refine r_callV (Z := mX11_many) (t := 11) (pc := 268) hX dL_isWhole_268 ml_L_103 mX11_many_w ⟨by decide, rfl⟩ (o_X11_k hm) (sp_many_b hm h8 he (by decide)) rfl rfl (Nat.le_of_ble_eq_true rfl) (by decide) rfl (Or.inl rfl) ?_
                      refine r_iadd (pc := 271) hX dL_isWhole_271 ?_
                      refine r_icmp_lt (pc := 272) hX 306 dL_isWhole_272 (by decide) (fun c272 => ?_) (fun c272 => ?_)
                      · have c272d := Int32.not_le.mpr c272
                        exact False.elim (by first | exact h9 c272 | exact h15 c286 | exact c299 h2 )
                      · have c272d := Int32.not_lt.mp c272
                        refine r_aload_n (pc := 275) hX dL_isWhole_275 rfl ?_
                        refine r_bipush (pc := 276) hX 15 dL_isWhole_276 (by decide) ?_
                        refine r_callV (Z := mX11_many) (t := 11) (pc := 278) hX dL_isWhole_278 ml_L_103 mX11_many_w ⟨by decide, rfl⟩ (o_X11_k hm) (sp_many_b hm h8 he (by decide)) rfl rfl (Nat.le_of_ble_eq_true rfl) (by decide) rfl (Or.inl rfl) ?_
                        refine r_aload_n (pc := 281) hX dL_isWhole_281 rfl ?_
                        refine r_iconst (pc := 282) hX 4 dL_isWhole_282 (by decide) ?_
                        refine r_callV (Z := mX11_many) (t := 11) (pc := 283) hX dL_isWhole_283 ml_L_103 mX11_many_w ⟨by decide, rfl⟩ (o_X11_k hm) (sp_many_b hm h8 he (by decide)) rfl rfl (Nat.le_of_ble_eq_true rfl) (by decide) rfl (Or.inl rfl) ?_
                        refine r_icmp_gt (pc := 286) hX 306 dL_isWhole_286 (by decide) (fun c286 => ?_) (fun c286 => ?_)
                        · have c286d := Int32.not_le.mpr c286
                          exact False.elim (by first | exact h9 c272 | exact h15 c286 | exact c299 h2 )
                        · have c286d := Int32.not_lt.mp c286
                          refine r_aload_n (pc := 289) hX dL_isWhole_289 rfl ?_
                          refine r_getr (pc := 290) hX dL_isWhole_290 fl_L_47 rfl (o_X12_k ho) (o_X12_r1 ho) ?_
                          refine r_alenR (pc := 293) hX _ dL_isWhole_293 (o_X12_a1 ho) rfl ?_
                          refine r_aload_n (pc := 294) hX dL_isWhole_294 rfl ?_
                          refine r_iconst (pc := 295) hX 2 dL_isWhole_295 (by decide) ?_
                          refine r_callV (Z := mX11_many) (t := 11) (pc := 296) hX dL_isWhole_296 ml_L_103 mX11_many_w ⟨by decide, rfl⟩ (o_X11_k hm) (sp_many_b hm h8 he (by decide)) rfl rfl (Nat.le_of_ble_eq_true rfl) (by decide) rfl (Or.inl rfl) ?_
                          refine r_icmp_ne (pc := 299) hX 306 dL_isWhole_299 (by decide) (fun c299 => ?_) (fun c299 => ?_)
                          · exact False.elim (by first | exact h9 c272 | exact h15 c286 | exact c299 h2 )
                          · refine r_iconst (pc := 302) hX 1 dL_isWhole_302 (by decide) ?_
                            refine r_goto (pc := 303) hX (tgt := 307) dL_isWhole_303 (by decide) ?_
                            exact r_ireturn (pc := 307) hX dL_isWhole_307 rfl rfl (by first | with_reducible rfl | (simp only [eq_true c12, eq_false c12d, eq_false c155, eq_false c164, eq_false c181, eq_false c201, eq_true c201d, eq_false c223, eq_true c223d, eq_true c248, eq_false c248d, eq_false c272, eq_true c272d, eq_false c286, eq_true c286d, eq_true c299, ↓reduceIte, if_true, if_false, decide_true, decide_false, eq_self, b2i_t, b2i_f, Bool.false_eq_true, and_true, true_and, and_false, false_and, or_true, true_or, or_false, false_or, not_true_eq_false, not_false_eq_true] <;> rfl) | simp [eq_true c12, eq_false c12d, eq_false c155, eq_false c164, eq_false c181, eq_false c201, eq_true c201d, eq_false c223, eq_true c223d, eq_true c248, eq_false c248d, eq_false c272, eq_true c272d, eq_false c286, eq_true c286d, eq_true c299]) rfl
                    · have c248d := Int32.not_le.mp c248
                      exact False.elim (by first | exact (h12 c201).1 c223 | exact c248 (h12 c201).2 )
              · refine r_aload_n (pc := 184) hX dL_isWhole_184 rfl ?_
                refine r_bipush (pc := 185) hX 11 dL_isWhole_185 (by decide) ?_
                refine r_callV (Z := mX11_many) (t := 11) (pc := 187) hX dL_isWhole_187 ml_L_103 mX11_many_w ⟨by decide, rfl⟩ (o_X11_k hm) (sp_many_b hm h8 he (by decide)) rfl rfl (Nat.le_of_ble_eq_true rfl) (by decide) rfl (Or.inl rfl) ?_
                refine r_if_le (pc := 190) hX 195 dL_isWhole_190 (by decide) (fun c190 => ?_) (fun c190 => ?_)
                · have c190d := Int32.not_lt.mpr c190
                  refine r_aload_n (pc := 195) hX dL_isWhole_195 rfl ?_
                  refine r_bipush (pc := 196) hX 12 dL_isWhole_196 (by decide) ?_
                  refine r_callV (Z := mX11_many) (t := 11) (pc := 198) hX dL_isWhole_198 ml_L_103 mX11_many_w ⟨by decide, rfl⟩ (o_X11_k hm) (sp_many_b hm h8 he (by decide)) rfl rfl (Nat.le_of_ble_eq_true rfl) (by decide) rfl (Or.inl rfl) ?_
                  refine r_if_le (pc := 201) hX 253 dL_isWhole_201 (by decide) (fun c201 => ?_) (fun c201 => ?_)
                  · have c201d := Int32.not_lt.mpr c201
                    refine r_aload_n (pc := 253) hX dL_isWhole_253 rfl ?_
                    refine r_bipush (pc := 254) hX 9 dL_isWhole_254 (by decide) ?_
                    refine r_callV (Z := mX11_many) (t := 11) (pc := 256) hX dL_isWhole_256 ml_L_103 mX11_many_w ⟨by decide, rfl⟩ (o_X11_k hm) (sp_many_b hm h8 he (by decide)) rfl rfl (Nat.le_of_ble_eq_true rfl) (by decide) rfl (Or.inl rfl) ?_
                    refine r_aload_n (pc := 259) hX dL_isWhole_259 rfl ?_
                    refine r_bipush (pc := 260) hX 10 dL_isWhole_260 (by decide) ?_
                    refine r_callV (Z := mX11_many) (t := 11) (pc := 262) hX dL_isWhole_262 ml_L_103 mX11_many_w ⟨by decide, rfl⟩ (o_X11_k hm) (sp_many_b hm h8 he (by decide)) rfl rfl (Nat.le_of_ble_eq_true rfl) (by decide) rfl (Or.inl rfl) ?_
                    refine r_aload_n (pc := 265) hX dL_isWhole_265 rfl ?_
                    refine r_bipush (pc := 266) hX 11 dL_isWhole_266 (by decide) ?_
                    refine r_callV (Z := mX11_many) (t := 11) (pc := 268) hX dL_isWhole_268 ml_L_103 mX11_many_w ⟨by decide, rfl⟩ (o_X11_k hm) (sp_many_b hm h8 he (by decide)) rfl rfl (Nat.le_of_ble_eq_true rfl) (by decide) rfl (Or.inl rfl) ?_
                    refine r_iadd (pc := 271) hX dL_isWhole_271 ?_
                    refine r_icmp_lt (pc := 272) hX 306 dL_isWhole_272 (by decide) (fun c272 => ?_) (fun c272 => ?_)
                    · have c272d := Int32.not_le.mpr c272
                      exact False.elim (by first | exact h9 c272 | exact h15 c286 | exact c299 h2 )
                    · have c272d := Int32.not_lt.mp c272
                      refine r_aload_n (pc := 275) hX dL_isWhole_275 rfl ?_
                      refine r_bipush (pc := 276) hX 15 dL_isWhole_276 (by decide) ?_
                      refine r_callV (Z := mX11_many) (t := 11) (pc := 278) hX dL_isWhole_278 ml_L_103 mX11_many_w ⟨by decide, rfl⟩ (o_X11_k hm) (sp_many_b hm h8 he (by decide)) rfl rfl (Nat.le_of_ble_eq_true rfl) (by decide) rfl (Or.inl rfl) ?_
                      refine r_aload_n (pc := 281) hX dL_isWhole_281 rfl ?_
                      refine r_iconst (pc := 282) hX 4 dL_isWhole_282 (by decide) ?_
                      refine r_callV (Z := mX11_many) (t := 11) (pc := 283) hX dL_isWhole_283 ml_L_103 mX11_many_w ⟨by decide, rfl⟩ (o_X11_k hm) (sp_many_b hm h8 he (by decide)) rfl rfl (Nat.le_of_ble_eq_true rfl) (by decide) rfl (Or.inl rfl) ?_
                      refine r_icmp_gt (pc := 286) hX 306 dL_isWhole_286 (by decide) (fun c286 => ?_) (fun c286 => ?_)
                      · have c286d := Int32.not_le.mpr c286
                        exact False.elim (by first | exact h9 c272 | exact h15 c286 | exact c299 h2 )
                      · have c286d := Int32.not_lt.mp c286
                        refine r_aload_n (pc := 289) hX dL_isWhole_289 rfl ?_
                        refine r_getr (pc := 290) hX dL_isWhole_290 fl_L_47 rfl (o_X12_k ho) (o_X12_r1 ho) ?_
                        refine r_alenR (pc := 293) hX _ dL_isWhole_293 (o_X12_a1 ho) rfl ?_
                        refine r_aload_n (pc := 294) hX dL_isWhole_294 rfl ?_
                        refine r_iconst (pc := 295) hX 2 dL_isWhole_295 (by decide) ?_
                        refine r_callV (Z := mX11_many) (t := 11) (pc := 296) hX dL_isWhole_296 ml_L_103 mX11_many_w ⟨by decide, rfl⟩ (o_X11_k hm) (sp_many_b hm h8 he (by decide)) rfl rfl (Nat.le_of_ble_eq_true rfl) (by decide) rfl (Or.inl rfl) ?_
                        refine r_icmp_ne (pc := 299) hX 306 dL_isWhole_299 (by decide) (fun c299 => ?_) (fun c299 => ?_)
                        · exact False.elim (by first | exact h9 c272 | exact h15 c286 | exact c299 h2 )
                        · refine r_iconst (pc := 302) hX 1 dL_isWhole_302 (by decide) ?_
                          refine r_goto (pc := 303) hX (tgt := 307) dL_isWhole_303 (by decide) ?_
                          exact r_ireturn (pc := 307) hX dL_isWhole_307 rfl rfl (by first | with_reducible rfl | (simp only [eq_true c12, eq_false c12d, eq_false c155, eq_false c164, eq_true c181, eq_true c190, eq_false c190d, eq_true c201, eq_false c201d, eq_false c272, eq_true c272d, eq_false c286, eq_true c286d, eq_true c299, ↓reduceIte, if_true, if_false, decide_true, decide_false, eq_self, b2i_t, b2i_f, Bool.false_eq_true, and_true, true_and, and_false, false_and, or_true, true_or, or_false, false_or, not_true_eq_false, not_false_eq_true] <;> rfl) | simp [eq_true c12, eq_false c12d, eq_false c155, eq_false c164, eq_true c181, eq_true c190, eq_false c190d, eq_true c201, eq_false c201d, eq_false c272, eq_true c272d, eq_false c286, eq_true c286d, eq_true c299]) rfl
                  · have c201d := Int32.not_le.mp c201
                    refine r_aload_n (pc := 204) hX dL_isWhole_204 rfl ?_
                    refine r_bipush (pc := 205) hX 13 dL_isWhole_205 (by decide) ?_
                    refine r_callV (Z := mX11_many) (t := 11) (pc := 207) hX dL_isWhole_207 ml_L_103 mX11_many_w ⟨by decide, rfl⟩ (o_X11_k hm) (sp_many_b hm h8 he (by decide)) rfl rfl (Nat.le_of_ble_eq_true rfl) (by decide) rfl (Or.inl rfl) ?_
                    refine r_aload_n (pc := 210) hX dL_isWhole_210 rfl ?_
                    refine r_bipush (pc := 211) hX 12 dL_isWhole_211 (by decide) ?_
                    refine r_callV (Z := mX11_many) (t := 11) (pc := 213) hX dL_isWhole_213 ml_L_103 mX11_many_w ⟨by decide, rfl⟩ (o_X11_k hm) (sp_many_b hm h8 he (by decide)) rfl rfl (Nat.le_of_ble_eq_true rfl) (by decide) rfl (Or.inl rfl) ?_
                    refine r_aload_n (pc := 216) hX dL_isWhole_216 rfl ?_
                    refine r_bipush (pc := 217) hX 14 dL_isWhole_217 (by decide) ?_
                    refine r_callV (Z := mX11_many) (t := 11) (pc := 219) hX dL_isWhole_219 ml_L_103 mX11_many_w ⟨by decide, rfl⟩ (o_X11_k hm) (sp_many_b hm h8 he (by decide)) rfl rfl (Nat.le_of_ble_eq_true rfl) (by decide) rfl (Or.inl rfl) ?_
                    refine r_iadd (pc := 222) hX dL_isWhole_222 ?_
                    refine r_icmp_lt (pc := 223) hX 251 dL_isWhole_223 (by decide) (fun c223 => ?_) (fun c223 => ?_)
                    · have c223d := Int32.not_le.mpr c223
                      exact False.elim (by first | exact (h12 c201).1 c223 | exact c248 (h12 c201).2 )
                    · have c223d := Int32.not_lt.mp c223
                      refine r_aload_n (pc := 226) hX dL_isWhole_226 rfl ?_
                      refine r_bipush (pc := 227) hX 13 dL_isWhole_227 (by decide) ?_
                      refine r_callV (Z := mX11_many) (t := 11) (pc := 229) hX dL_isWhole_229 ml_L_103 mX11_many_w ⟨by decide, rfl⟩ (o_X11_k hm) (sp_many_b hm h8 he (by decide)) rfl rfl (Nat.le_of_ble_eq_true rfl) (by decide) rfl (Or.inl rfl) ?_
                      refine r_aload_n (pc := 232) hX dL_isWhole_232 rfl ?_
                      refine r_bipush (pc := 233) hX 12 dL_isWhole_233 (by decide) ?_
                      refine r_callV (Z := mX11_many) (t := 11) (pc := 235) hX dL_isWhole_235 ml_L_103 mX11_many_w ⟨by decide, rfl⟩ (o_X11_k hm) (sp_many_b hm h8 he (by decide)) rfl rfl (Nat.le_of_ble_eq_true rfl) (by decide) rfl (Or.inl rfl) ?_
                      refine r_aload_n (pc := 238) hX dL_isWhole_238 rfl ?_
                      refine r_bipush (pc := 239) hX 14 dL_isWhole_239 (by decide) ?_
                      refine r_callV (Z := mX11_many) (t := 11) (pc := 241) hX dL_isWhole_241 ml_L_103 mX11_many_w ⟨by decide, rfl⟩ (o_X11_k hm) (sp_many_b hm h8 he (by decide)) rfl rfl (Nat.le_of_ble_eq_true rfl) (by decide) rfl (Or.inl rfl) ?_
                      refine r_iadd (pc := 244) hX dL_isWhole_244 ?_
                      refine r_bipush (pc := 245) hX 8 dL_isWhole_245 (by decide) ?_
                      refine r_iadd (pc := 247) hX dL_isWhole_247 ?_
                      refine r_icmp_le (pc := 248) hX 253 dL_isWhole_248 (by decide) (fun c248 => ?_) (fun c248 => ?_)
                      · have c248d := Int32.not_lt.mpr c248
                        refine r_aload_n (pc := 253) hX dL_isWhole_253 rfl ?_
                        refine r_bipush (pc := 254) hX 9 dL_isWhole_254 (by decide) ?_
                        refine r_callV (Z := mX11_many) (t := 11) (pc := 256) hX dL_isWhole_256 ml_L_103 mX11_many_w ⟨by decide, rfl⟩ (o_X11_k hm) (sp_many_b hm h8 he (by decide)) rfl rfl (Nat.le_of_ble_eq_true rfl) (by decide) rfl (Or.inl rfl) ?_
                        refine r_aload_n (pc := 259) hX dL_isWhole_259 rfl ?_
                        refine r_bipush (pc := 260) hX 10 dL_isWhole_260 (by decide) ?_
                        refine r_callV (Z := mX11_many) (t := 11) (pc := 262) hX dL_isWhole_262 ml_L_103 mX11_many_w ⟨by decide, rfl⟩ (o_X11_k hm) (sp_many_b hm h8 he (by decide)) rfl rfl (Nat.le_of_ble_eq_true rfl) (by decide) rfl (Or.inl rfl) ?_
                        refine r_aload_n (pc := 265) hX dL_isWhole_265 rfl ?_
                        refine r_bipush (pc := 266) hX 11 dL_isWhole_266 (by decide) ?_
                        refine r_callV (Z := mX11_many) (t := 11) (pc := 268) hX dL_isWhole_268 ml_L_103 mX11_many_w ⟨by decide, rfl⟩ (o_X11_k hm) (sp_many_b hm h8 he (by decide)) rfl rfl (Nat.le_of_ble_eq_true rfl) (by decide) rfl (Or.inl rfl) ?_
                        refine r_iadd (pc := 271) hX dL_isWhole_271 ?_
                        refine r_icmp_lt (pc := 272) hX 306 dL_isWhole_272 (by decide) (fun c272 => ?_) (fun c272 => ?_)
                        · have c272d := Int32.not_le.mpr c272
                          exact False.elim (by first | exact h9 c272 | exact h15 c286 | exact c299 h2 )
                        · have c272d := Int32.not_lt.mp c272
                          refine r_aload_n (pc := 275) hX dL_isWhole_275 rfl ?_
                          refine r_bipush (pc := 276) hX 15 dL_isWhole_276 (by decide) ?_
                          refine r_callV (Z := mX11_many) (t := 11) (pc := 278) hX dL_isWhole_278 ml_L_103 mX11_many_w ⟨by decide, rfl⟩ (o_X11_k hm) (sp_many_b hm h8 he (by decide)) rfl rfl (Nat.le_of_ble_eq_true rfl) (by decide) rfl (Or.inl rfl) ?_
                          refine r_aload_n (pc := 281) hX dL_isWhole_281 rfl ?_
                          refine r_iconst (pc := 282) hX 4 dL_isWhole_282 (by decide) ?_
                          refine r_callV (Z := mX11_many) (t := 11) (pc := 283) hX dL_isWhole_283 ml_L_103 mX11_many_w ⟨by decide, rfl⟩ (o_X11_k hm) (sp_many_b hm h8 he (by decide)) rfl rfl (Nat.le_of_ble_eq_true rfl) (by decide) rfl (Or.inl rfl) ?_
                          refine r_icmp_gt (pc := 286) hX 306 dL_isWhole_286 (by decide) (fun c286 => ?_) (fun c286 => ?_)
                          · have c286d := Int32.not_le.mpr c286
                            exact False.elim (by first | exact h9 c272 | exact h15 c286 | exact c299 h2 )
                          · have c286d := Int32.not_lt.mp c286
                            refine r_aload_n (pc := 289) hX dL_isWhole_289 rfl ?_
                            refine r_getr (pc := 290) hX dL_isWhole_290 fl_L_47 rfl (o_X12_k ho) (o_X12_r1 ho) ?_
                            refine r_alenR (pc := 293) hX _ dL_isWhole_293 (o_X12_a1 ho) rfl ?_
                            refine r_aload_n (pc := 294) hX dL_isWhole_294 rfl ?_
                            refine r_iconst (pc := 295) hX 2 dL_isWhole_295 (by decide) ?_
                            refine r_callV (Z := mX11_many) (t := 11) (pc := 296) hX dL_isWhole_296 ml_L_103 mX11_many_w ⟨by decide, rfl⟩ (o_X11_k hm) (sp_many_b hm h8 he (by decide)) rfl rfl (Nat.le_of_ble_eq_true rfl) (by decide) rfl (Or.inl rfl) ?_
                            refine r_icmp_ne (pc := 299) hX 306 dL_isWhole_299 (by decide) (fun c299 => ?_) (fun c299 => ?_)
                            · exact False.elim (by first | exact h9 c272 | exact h15 c286 | exact c299 h2 )
                            · refine r_iconst (pc := 302) hX 1 dL_isWhole_302 (by decide) ?_
                              refine r_goto (pc := 303) hX (tgt := 307) dL_isWhole_303 (by decide) ?_
                              exact r_ireturn (pc := 307) hX dL_isWhole_307 rfl rfl (by first | with_reducible rfl | (simp only [eq_true c12, eq_false c12d, eq_false c155, eq_false c164, eq_true c181, eq_true c190, eq_false c190d, eq_false c201, eq_true c201d, eq_false c223, eq_true c223d, eq_true c248, eq_false c248d, eq_false c272, eq_true c272d, eq_false c286, eq_true c286d, eq_true c299, ↓reduceIte, if_true, if_false, decide_true, decide_false, eq_self, b2i_t, b2i_f, Bool.false_eq_true, and_true, true_and, and_false, false_and, or_true, true_or, or_false, false_or, not_true_eq_false, not_false_eq_true] <;> rfl) | simp [eq_true c12, eq_false c12d, eq_false c155, eq_false c164, eq_true c181, eq_true c190, eq_false c190d, eq_false c201, eq_true c201d, eq_false c223, eq_true c223d, eq_true c248, eq_false c248d, eq_false c272, eq_true c272d, eq_false c286, eq_true c286d, eq_true c299]) rfl
                      · have c248d := Int32.not_le.mp c248
                        exact False.elim (by first | exact (h12 c201).1 c223 | exact c248 (h12 c201).2 )
                · have c190d := Int32.not_le.mp c190
                  exact False.elim (by first | exact c164 (hS.mp c155) | exact c155 (hS.mpr c164) | exact c190 (h7 c181) )
          · refine r_iconst (pc := 167) hX 1 dL_isWhole_167 (by decide) ?_
            refine r_goto (pc := 168) hX (tgt := 172) dL_isWhole_168 (by decide) ?_
            refine r_icmp_ne (pc := 172) hX 193 dL_isWhole_172 (by decide) (fun c172 => ?_) (fun c172 => ?_)
            · exact False.elim (by first | exact c164 (hS.mp c155) | exact c155 (hS.mpr c164) | exact c190 (h7 c181) )
            · exact absurd c172 (by decide)
        · refine r_iconst (pc := 158) hX 1 dL_isWhole_158 (by decide) ?_
          refine r_goto (pc := 159) hX (tgt := 163) dL_isWhole_159 (by decide) ?_
          refine r_iload_n (pc := 163) hX dL_isWhole_163 rfl ?_
          refine r_if_ne (pc := 164) hX 171 dL_isWhole_164 (by decide) (fun c164 => ?_) (fun c164 => ?_)
          · refine r_iconst (pc := 171) hX 0 dL_isWhole_171 (by decide) ?_
            refine r_icmp_ne (pc := 172) hX 193 dL_isWhole_172 (by decide) (fun c172 => ?_) (fun c172 => ?_)
            · exact False.elim (by first | exact c164 (hS.mp c155) | exact c155 (hS.mpr c164) | exact c190 (h7 c181) )
            · exact absurd c172 (by decide)
          · refine r_iconst (pc := 167) hX 1 dL_isWhole_167 (by decide) ?_
            refine r_goto (pc := 168) hX (tgt := 172) dL_isWhole_168 (by decide) ?_
            refine r_icmp_ne (pc := 172) hX 193 dL_isWhole_172 (by decide) (fun c172 => ?_) (fun c172 => ?_)
            · exact absurd c172 (by decide)
            · refine r_aload_n (pc := 175) hX dL_isWhole_175 rfl ?_
              refine r_bipush (pc := 176) hX 7 dL_isWhole_176 (by decide) ?_
              refine r_callV (Z := mX11_many) (t := 11) (pc := 178) hX dL_isWhole_178 ml_L_103 mX11_many_w ⟨by decide, rfl⟩ (o_X11_k hm) (sp_many_b hm h8 he (by decide)) rfl rfl (Nat.le_of_ble_eq_true rfl) (by decide) rfl (Or.inl rfl) ?_
              refine r_if_ne (pc := 181) hX 195 dL_isWhole_181 (by decide) (fun c181 => ?_) (fun c181 => ?_)
              · refine r_aload_n (pc := 195) hX dL_isWhole_195 rfl ?_
                refine r_bipush (pc := 196) hX 12 dL_isWhole_196 (by decide) ?_
                refine r_callV (Z := mX11_many) (t := 11) (pc := 198) hX dL_isWhole_198 ml_L_103 mX11_many_w ⟨by decide, rfl⟩ (o_X11_k hm) (sp_many_b hm h8 he (by decide)) rfl rfl (Nat.le_of_ble_eq_true rfl) (by decide) rfl (Or.inl rfl) ?_
                refine r_if_le (pc := 201) hX 253 dL_isWhole_201 (by decide) (fun c201 => ?_) (fun c201 => ?_)
                · have c201d := Int32.not_lt.mpr c201
                  refine r_aload_n (pc := 253) hX dL_isWhole_253 rfl ?_
                  refine r_bipush (pc := 254) hX 9 dL_isWhole_254 (by decide) ?_
                  refine r_callV (Z := mX11_many) (t := 11) (pc := 256) hX dL_isWhole_256 ml_L_103 mX11_many_w ⟨by decide, rfl⟩ (o_X11_k hm) (sp_many_b hm h8 he (by decide)) rfl rfl (Nat.le_of_ble_eq_true rfl) (by decide) rfl (Or.inl rfl) ?_
                  refine r_aload_n (pc := 259) hX dL_isWhole_259 rfl ?_
                  refine r_bipush (pc := 260) hX 10 dL_isWhole_260 (by decide) ?_
                  refine r_callV (Z := mX11_many) (t := 11) (pc := 262) hX dL_isWhole_262 ml_L_103 mX11_many_w ⟨by decide, rfl⟩ (o_X11_k hm) (sp_many_b hm h8 he (by decide)) rfl rfl (Nat.le_of_ble_eq_true rfl) (by decide) rfl (Or.inl rfl) ?_
                  refine r_aload_n (pc := 265) hX dL_isWhole_265 rfl ?_
                  refine r_bipush (pc := 266) hX 11 dL_isWhole_266 (by decide) ?_
                  refine r_callV (Z := mX11_many) (t := 11) (pc := 268) hX dL_isWhole_268 ml_L_103 mX11_many_w ⟨by decide, rfl⟩ (o_X11_k hm) (sp_many_b hm h8 he (by decide)) rfl rfl (Nat.le_of_ble_eq_true rfl) (by decide) rfl (Or.inl rfl) ?_
                  refine r_iadd (pc := 271) hX dL_isWhole_271 ?_
                  refine r_icmp_lt (pc := 272) hX 306 dL_isWhole_272 (by decide) (fun c272 => ?_) (fun c272 => ?_)
                  · have c272d := Int32.not_le.mpr c272
                    exact False.elim (by first | exact h9 c272 | exact h15 c286 | exact c299 h2 )
                  · have c272d := Int32.not_lt.mp c272
                    refine r_aload_n (pc := 275) hX dL_isWhole_275 rfl ?_
                    refine r_bipush (pc := 276) hX 15 dL_isWhole_276 (by decide) ?_
                    refine r_callV (Z := mX11_many) (t := 11) (pc := 278) hX dL_isWhole_278 ml_L_103 mX11_many_w ⟨by decide, rfl⟩ (o_X11_k hm) (sp_many_b hm h8 he (by decide)) rfl rfl (Nat.le_of_ble_eq_true rfl) (by decide) rfl (Or.inl rfl) ?_
                    refine r_aload_n (pc := 281) hX dL_isWhole_281 rfl ?_
                    refine r_iconst (pc := 282) hX 4 dL_isWhole_282 (by decide) ?_
                    refine r_callV (Z := mX11_many) (t := 11) (pc := 283) hX dL_isWhole_283 ml_L_103 mX11_many_w ⟨by decide, rfl⟩ (o_X11_k hm) (sp_many_b hm h8 he (by decide)) rfl rfl (Nat.le_of_ble_eq_true rfl) (by decide) rfl (Or.inl rfl) ?_
                    refine r_icmp_gt (pc := 286) hX 306 dL_isWhole_286 (by decide) (fun c286 => ?_) (fun c286 => ?_)
                    · have c286d := Int32.not_le.mpr c286
                      exact False.elim (by first | exact h9 c272 | exact h15 c286 | exact c299 h2 )
                    · have c286d := Int32.not_lt.mp c286
                      refine r_aload_n (pc := 289) hX dL_isWhole_289 rfl ?_
                      refine r_getr (pc := 290) hX dL_isWhole_290 fl_L_47 rfl (o_X12_k ho) (o_X12_r1 ho) ?_
                      refine r_alenR (pc := 293) hX _ dL_isWhole_293 (o_X12_a1 ho) rfl ?_
                      refine r_aload_n (pc := 294) hX dL_isWhole_294 rfl ?_
                      refine r_iconst (pc := 295) hX 2 dL_isWhole_295 (by decide) ?_
                      refine r_callV (Z := mX11_many) (t := 11) (pc := 296) hX dL_isWhole_296 ml_L_103 mX11_many_w ⟨by decide, rfl⟩ (o_X11_k hm) (sp_many_b hm h8 he (by decide)) rfl rfl (Nat.le_of_ble_eq_true rfl) (by decide) rfl (Or.inl rfl) ?_
                      refine r_icmp_ne (pc := 299) hX 306 dL_isWhole_299 (by decide) (fun c299 => ?_) (fun c299 => ?_)
                      · exact False.elim (by first | exact h9 c272 | exact h15 c286 | exact c299 h2 )
                      · refine r_iconst (pc := 302) hX 1 dL_isWhole_302 (by decide) ?_
                        refine r_goto (pc := 303) hX (tgt := 307) dL_isWhole_303 (by decide) ?_
                        exact r_ireturn (pc := 307) hX dL_isWhole_307 rfl rfl (by first | with_reducible rfl | (simp only [eq_true c12, eq_false c12d, eq_true c155, eq_true c164, eq_false c181, eq_true c201, eq_false c201d, eq_false c272, eq_true c272d, eq_false c286, eq_true c286d, eq_true c299, ↓reduceIte, if_true, if_false, decide_true, decide_false, eq_self, b2i_t, b2i_f, Bool.false_eq_true, and_true, true_and, and_false, false_and, or_true, true_or, or_false, false_or, not_true_eq_false, not_false_eq_true] <;> rfl) | simp [eq_true c12, eq_false c12d, eq_true c155, eq_true c164, eq_false c181, eq_true c201, eq_false c201d, eq_false c272, eq_true c272d, eq_false c286, eq_true c286d, eq_true c299]) rfl
                · have c201d := Int32.not_le.mp c201
                  refine r_aload_n (pc := 204) hX dL_isWhole_204 rfl ?_
                  refine r_bipush (pc := 205) hX 13 dL_isWhole_205 (by decide) ?_
                  refine r_callV (Z := mX11_many) (t := 11) (pc := 207) hX dL_isWhole_207 ml_L_103 mX11_many_w ⟨by decide, rfl⟩ (o_X11_k hm) (sp_many_b hm h8 he (by decide)) rfl rfl (Nat.le_of_ble_eq_true rfl) (by decide) rfl (Or.inl rfl) ?_
                  refine r_aload_n (pc := 210) hX dL_isWhole_210 rfl ?_
                  refine r_bipush (pc := 211) hX 12 dL_isWhole_211 (by decide) ?_
                  refine r_callV (Z := mX11_many) (t := 11) (pc := 213) hX dL_isWhole_213 ml_L_103 mX11_many_w ⟨by decide, rfl⟩ (o_X11_k hm) (sp_many_b hm h8 he (by decide)) rfl rfl (Nat.le_of_ble_eq_true rfl) (by decide) rfl (Or.inl rfl) ?_
                  refine r_aload_n (pc := 216) hX dL_isWhole_216 rfl ?_
                  refine r_bipush (pc := 217) hX 14 dL_isWhole_217 (by decide) ?_
                  refine r_callV (Z := mX11_many) (t := 11) (pc := 219) hX dL_isWhole_219 ml_L_103 mX11_many_w ⟨by decide, rfl⟩ (o_X11_k hm) (sp_many_b hm h8 he (by decide)) rfl rfl (Nat.le_of_ble_eq_true rfl) (by decide) rfl (Or.inl rfl) ?_
                  refine r_iadd (pc := 222) hX dL_isWhole_222 ?_
                  refine r_icmp_lt (pc := 223) hX 251 dL_isWhole_223 (by decide) (fun c223 => ?_) (fun c223 => ?_)
                  · have c223d := Int32.not_le.mpr c223
                    exact False.elim (by first | exact (h12 c201).1 c223 | exact c248 (h12 c201).2 )
                  · have c223d := Int32.not_lt.mp c223
                    refine r_aload_n (pc := 226) hX dL_isWhole_226 rfl ?_
                    refine r_bipush (pc := 227) hX 13 dL_isWhole_227 (by decide) ?_
                    refine r_callV (Z := mX11_many) (t := 11) (pc := 229) hX dL_isWhole_229 ml_L_103 mX11_many_w ⟨by decide, rfl⟩ (o_X11_k hm) (sp_many_b hm h8 he (by decide)) rfl rfl (Nat.le_of_ble_eq_true rfl) (by decide) rfl (Or.inl rfl) ?_
                    refine r_aload_n (pc := 232) hX dL_isWhole_232 rfl ?_
                    refine r_bipush (pc := 233) hX 12 dL_isWhole_233 (by decide) ?_
                    refine r_callV (Z := mX11_many) (t := 11) (pc := 235) hX dL_isWhole_235 ml_L_103 mX11_many_w ⟨by decide, rfl⟩ (o_X11_k hm) (sp_many_b hm h8 he (by decide)) rfl rfl (Nat.le_of_ble_eq_true rfl) (by decide) rfl (Or.inl rfl) ?_
                    refine r_aload_n (pc := 238) hX dL_isWhole_238 rfl ?_
                    refine r_bipush (pc := 239) hX 14 dL_isWhole_239 (by decide) ?_
                    refine r_callV (Z := mX11_many) (t := 11) (pc := 241) hX dL_isWhole_241 ml_L_103 mX11_many_w ⟨by decide, rfl⟩ (o_X11_k hm) (sp_many_b hm h8 he (by decide)) rfl rfl (Nat.le_of_ble_eq_true rfl) (by decide) rfl (Or.inl rfl) ?_
                    refine r_iadd (pc := 244) hX dL_isWhole_244 ?_
                    refine r_bipush (pc := 245) hX 8 dL_isWhole_245 (by decide) ?_
                    refine r_iadd (pc := 247) hX dL_isWhole_247 ?_
                    refine r_icmp_le (pc := 248) hX 253 dL_isWhole_248 (by decide) (fun c248 => ?_) (fun c248 => ?_)
                    · have c248d := Int32.not_lt.mpr c248
                      refine r_aload_n (pc := 253) hX dL_isWhole_253 rfl ?_
                      refine r_bipush (pc := 254) hX 9 dL_isWhole_254 (by decide) ?_
                      refine r_callV (Z := mX11_many) (t := 11) (pc := 256) hX dL_isWhole_256 ml_L_103 mX11_many_w ⟨by decide, rfl⟩ (o_X11_k hm) (sp_many_b hm h8 he (by decide)) rfl rfl (Nat.le_of_ble_eq_true rfl) (by decide) rfl (Or.inl rfl) ?_
                      refine r_aload_n (pc := 259) hX dL_isWhole_259 rfl ?_
                      refine r_bipush (pc := 260) hX 10 dL_isWhole_260 (by decide) ?_
                      refine r_callV (Z := mX11_many) (t := 11) (pc := 262) hX dL_isWhole_262 ml_L_103 mX11_many_w ⟨by decide, rfl⟩ (o_X11_k hm) (sp_many_b hm h8 he (by decide)) rfl rfl (Nat.le_of_ble_eq_true rfl) (by decide) rfl (Or.inl rfl) ?_
                      refine r_aload_n (pc := 265) hX dL_isWhole_265 rfl ?_
                      refine r_bipush (pc := 266) hX 11 dL_isWhole_266 (by decide) ?_
                      refine r_callV (Z := mX11_many) (t := 11) (pc := 268) hX dL_isWhole_268 ml_L_103 mX11_many_w ⟨by decide, rfl⟩ (o_X11_k hm) (sp_many_b hm h8 he (by decide)) rfl rfl (Nat.le_of_ble_eq_true rfl) (by decide) rfl (Or.inl rfl) ?_
                      refine r_iadd (pc := 271) hX dL_isWhole_271 ?_
                      refine r_icmp_lt (pc := 272) hX 306 dL_isWhole_272 (by decide) (fun c272 => ?_) (fun c272 => ?_)
                      · have c272d := Int32.not_le.mpr c272
                        exact False.elim (by first | exact h9 c272 | exact h15 c286 | exact c299 h2 )
                      · have c272d := Int32.not_lt.mp c272
                        refine r_aload_n (pc := 275) hX dL_isWhole_275 rfl ?_
                        refine r_bipush (pc := 276) hX 15 dL_isWhole_276 (by decide) ?_
                        refine r_callV (Z := mX11_many) (t := 11) (pc := 278) hX dL_isWhole_278 ml_L_103 mX11_many_w ⟨by decide, rfl⟩ (o_X11_k hm) (sp_many_b hm h8 he (by decide)) rfl rfl (Nat.le_of_ble_eq_true rfl) (by decide) rfl (Or.inl rfl) ?_
                        refine r_aload_n (pc := 281) hX dL_isWhole_281 rfl ?_
                        refine r_iconst (pc := 282) hX 4 dL_isWhole_282 (by decide) ?_
                        refine r_callV (Z := mX11_many) (t := 11) (pc := 283) hX dL_isWhole_283 ml_L_103 mX11_many_w ⟨by decide, rfl⟩ (o_X11_k hm) (sp_many_b hm h8 he (by decide)) rfl rfl (Nat.le_of_ble_eq_true rfl) (by decide) rfl (Or.inl rfl) ?_
                        refine r_icmp_gt (pc := 286) hX 306 dL_isWhole_286 (by decide) (fun c286 => ?_) (fun c286 => ?_)
                        · have c286d := Int32.not_le.mpr c286
                          exact False.elim (by first | exact h9 c272 | exact h15 c286 | exact c299 h2 )
                        · have c286d := Int32.not_lt.mp c286
                          refine r_aload_n (pc := 289) hX dL_isWhole_289 rfl ?_
                          refine r_getr (pc := 290) hX dL_isWhole_290 fl_L_47 rfl (o_X12_k ho) (o_X12_r1 ho) ?_
                          refine r_alenR (pc := 293) hX _ dL_isWhole_293 (o_X12_a1 ho) rfl ?_
                          refine r_aload_n (pc := 294) hX dL_isWhole_294 rfl ?_
                          refine r_iconst (pc := 295) hX 2 dL_isWhole_295 (by decide) ?_
                          refine r_callV (Z := mX11_many) (t := 11) (pc := 296) hX dL_isWhole_296 ml_L_103 mX11_many_w ⟨by decide, rfl⟩ (o_X11_k hm) (sp_many_b hm h8 he (by decide)) rfl rfl (Nat.le_of_ble_eq_true rfl) (by decide) rfl (Or.inl rfl) ?_
                          refine r_icmp_ne (pc := 299) hX 306 dL_isWhole_299 (by decide) (fun c299 => ?_) (fun c299 => ?_)
                          · exact False.elim (by first | exact h9 c272 | exact h15 c286 | exact c299 h2 )
                          · refine r_iconst (pc := 302) hX 1 dL_isWhole_302 (by decide) ?_
                            refine r_goto (pc := 303) hX (tgt := 307) dL_isWhole_303 (by decide) ?_
                            exact r_ireturn (pc := 307) hX dL_isWhole_307 rfl rfl (by first | with_reducible rfl | (simp only [eq_true c12, eq_false c12d, eq_true c155, eq_true c164, eq_false c181, eq_false c201, eq_true c201d, eq_false c223, eq_true c223d, eq_true c248, eq_false c248d, eq_false c272, eq_true c272d, eq_false c286, eq_true c286d, eq_true c299, ↓reduceIte, if_true, if_false, decide_true, decide_false, eq_self, b2i_t, b2i_f, Bool.false_eq_true, and_true, true_and, and_false, false_and, or_true, true_or, or_false, false_or, not_true_eq_false, not_false_eq_true] <;> rfl) | simp [eq_true c12, eq_false c12d, eq_true c155, eq_true c164, eq_false c181, eq_false c201, eq_true c201d, eq_false c223, eq_true c223d, eq_true c248, eq_false c248d, eq_false c272, eq_true c272d, eq_false c286, eq_true c286d, eq_true c299]) rfl
                    · have c248d := Int32.not_le.mp c248
                      exact False.elim (by first | exact (h12 c201).1 c223 | exact c248 (h12 c201).2 )
              · refine r_aload_n (pc := 184) hX dL_isWhole_184 rfl ?_
                refine r_bipush (pc := 185) hX 11 dL_isWhole_185 (by decide) ?_
                refine r_callV (Z := mX11_many) (t := 11) (pc := 187) hX dL_isWhole_187 ml_L_103 mX11_many_w ⟨by decide, rfl⟩ (o_X11_k hm) (sp_many_b hm h8 he (by decide)) rfl rfl (Nat.le_of_ble_eq_true rfl) (by decide) rfl (Or.inl rfl) ?_
                refine r_if_le (pc := 190) hX 195 dL_isWhole_190 (by decide) (fun c190 => ?_) (fun c190 => ?_)
                · have c190d := Int32.not_lt.mpr c190
                  refine r_aload_n (pc := 195) hX dL_isWhole_195 rfl ?_
                  refine r_bipush (pc := 196) hX 12 dL_isWhole_196 (by decide) ?_
                  refine r_callV (Z := mX11_many) (t := 11) (pc := 198) hX dL_isWhole_198 ml_L_103 mX11_many_w ⟨by decide, rfl⟩ (o_X11_k hm) (sp_many_b hm h8 he (by decide)) rfl rfl (Nat.le_of_ble_eq_true rfl) (by decide) rfl (Or.inl rfl) ?_
                  refine r_if_le (pc := 201) hX 253 dL_isWhole_201 (by decide) (fun c201 => ?_) (fun c201 => ?_)
                  · have c201d := Int32.not_lt.mpr c201
                    refine r_aload_n (pc := 253) hX dL_isWhole_253 rfl ?_
                    refine r_bipush (pc := 254) hX 9 dL_isWhole_254 (by decide) ?_
                    refine r_callV (Z := mX11_many) (t := 11) (pc := 256) hX dL_isWhole_256 ml_L_103 mX11_many_w ⟨by decide, rfl⟩ (o_X11_k hm) (sp_many_b hm h8 he (by decide)) rfl rfl (Nat.le_of_ble_eq_true rfl) (by decide) rfl (Or.inl rfl) ?_
                    refine r_aload_n (pc := 259) hX dL_isWhole_259 rfl ?_
                    refine r_bipush (pc := 260) hX 10 dL_isWhole_260 (by decide) ?_
                    refine r_callV (Z := mX11_many) (t := 11) (pc := 262) hX dL_isWhole_262 ml_L_103 mX11_many_w ⟨by decide, rfl⟩ (o_X11_k hm) (sp_many_b hm h8 he (by decide)) rfl rfl (Nat.le_of_ble_eq_true rfl) (by decide) rfl (Or.inl rfl) ?_
                    refine r_aload_n (pc := 265) hX dL_isWhole_265 rfl ?_
                    refine r_bipush (pc := 266) hX 11 dL_isWhole_266 (by decide) ?_
                    refine r_callV (Z := mX11_many) (t := 11) (pc := 268) hX dL_isWhole_268 ml_L_103 mX11_many_w ⟨by decide, rfl⟩ (o_X11_k hm) (sp_many_b hm h8 he (by decide)) rfl rfl (Nat.le_of_ble_eq_true rfl) (by decide) rfl (Or.inl rfl) ?_
                    refine r_iadd (pc := 271) hX dL_isWhole_271 ?_
                    refine r_icmp_lt (pc := 272) hX 306 dL_isWhole_272 (by decide) (fun c272 => ?_) (fun c272 => ?_)
                    · have c272d := Int32.not_le.mpr c272
                      exact False.elim (by first | exact h9 c272 | exact h15 c286 | exact c299 h2 )
                    · have c272d := Int32.not_lt.mp c272
                      refine r_aload_n (pc := 275) hX dL_isWhole_275 rfl ?_
                      refine r_bipush (pc := 276) hX 15 dL_isWhole_276 (by decide) ?_
                      refine r_callV (Z := mX11_many) (t := 11) (pc := 278) hX dL_isWhole_278 ml_L_103 mX11_many_w ⟨by decide, rfl⟩ (o_X11_k hm) (sp_many_b hm h8 he (by decide)) rfl rfl (Nat.le_of_ble_eq_true rfl) (by decide) rfl (Or.inl rfl) ?_
                      refine r_aload_n (pc := 281) hX dL_isWhole_281 rfl ?_
                      refine r_iconst (pc := 282) hX 4 dL_isWhole_282 (by decide) ?_
                      refine r_callV (Z := mX11_many) (t := 11) (pc := 283) hX dL_isWhole_283 ml_L_103 mX11_many_w ⟨by decide, rfl⟩ (o_X11_k hm) (sp_many_b hm h8 he (by decide)) rfl rfl (Nat.le_of_ble_eq_true rfl) (by decide) rfl (Or.inl rfl) ?_
                      refine r_icmp_gt (pc := 286) hX 306 dL_isWhole_286 (by decide) (fun c286 => ?_) (fun c286 => ?_)
                      · have c286d := Int32.not_le.mpr c286
                        exact False.elim (by first | exact h9 c272 | exact h15 c286 | exact c299 h2 )
                      · have c286d := Int32.not_lt.mp c286
                        refine r_aload_n (pc := 289) hX dL_isWhole_289 rfl ?_
                        refine r_getr (pc := 290) hX dL_isWhole_290 fl_L_47 rfl (o_X12_k ho) (o_X12_r1 ho) ?_
                        refine r_alenR (pc := 293) hX _ dL_isWhole_293 (o_X12_a1 ho) rfl ?_
                        refine r_aload_n (pc := 294) hX dL_isWhole_294 rfl ?_
                        refine r_iconst (pc := 295) hX 2 dL_isWhole_295 (by decide) ?_
                        refine r_callV (Z := mX11_many) (t := 11) (pc := 296) hX dL_isWhole_296 ml_L_103 mX11_many_w ⟨by decide, rfl⟩ (o_X11_k hm) (sp_many_b hm h8 he (by decide)) rfl rfl (Nat.le_of_ble_eq_true rfl) (by decide) rfl (Or.inl rfl) ?_
                        refine r_icmp_ne (pc := 299) hX 306 dL_isWhole_299 (by decide) (fun c299 => ?_) (fun c299 => ?_)
                        · exact False.elim (by first | exact h9 c272 | exact h15 c286 | exact c299 h2 )
                        · refine r_iconst (pc := 302) hX 1 dL_isWhole_302 (by decide) ?_
                          refine r_goto (pc := 303) hX (tgt := 307) dL_isWhole_303 (by decide) ?_
                          exact r_ireturn (pc := 307) hX dL_isWhole_307 rfl rfl (by first | with_reducible rfl | (simp only [eq_true c12, eq_false c12d, eq_true c155, eq_true c164, eq_true c181, eq_true c190, eq_false c190d, eq_true c201, eq_false c201d, eq_false c272, eq_true c272d, eq_false c286, eq_true c286d, eq_true c299, ↓reduceIte, if_true, if_false, decide_true, decide_false, eq_self, b2i_t, b2i_f, Bool.false_eq_true, and_true, true_and, and_false, false_and, or_true, true_or, or_false, false_or, not_true_eq_false, not_false_eq_true] <;> rfl) | simp [eq_true c12, eq_false c12d, eq_true c155, eq_true c164, eq_true c181, eq_true c190, eq_false c190d, eq_true c201, eq_false c201d, eq_false c272, eq_true c272d, eq_false c286, eq_true c286d, eq_true c299]) rfl
                  · have c201d := Int32.not_le.mp c201
                    refine r_aload_n (pc := 204) hX dL_isWhole_204 rfl ?_
                    refine r_bipush (pc := 205) hX 13 dL_isWhole_205 (by decide) ?_
                    refine r_callV (Z := mX11_many) (t := 11) (pc := 207) hX dL_isWhole_207 ml_L_103 mX11_many_w ⟨by decide, rfl⟩ (o_X11_k hm) (sp_many_b hm h8 he (by decide)) rfl rfl (Nat.le_of_ble_eq_true rfl) (by decide) rfl (Or.inl rfl) ?_
                    refine r_aload_n (pc := 210) hX dL_isWhole_210 rfl ?_
                    refine r_bipush (pc := 211) hX 12 dL_isWhole_211 (by decide) ?_
                    refine r_callV (Z := mX11_many) (t := 11) (pc := 213) hX dL_isWhole_213 ml_L_103 mX11_many_w ⟨by decide, rfl⟩ (o_X11_k hm) (sp_many_b hm h8 he (by decide)) rfl rfl (Nat.le_of_ble_eq_true rfl) (by decide) rfl (Or.inl rfl) ?_
                    refine r_aload_n (pc := 216) hX dL_isWhole_216 rfl ?_
                    refine r_bipush (pc := 217) hX 14 dL_isWhole_217 (by decide) ?_
                    refine r_callV (Z := mX11_many) (t := 11) (pc := 219) hX dL_isWhole_219 ml_L_103 mX11_many_w ⟨by decide, rfl⟩ (o_X11_k hm) (sp_many_b hm h8 he (by decide)) rfl rfl (Nat.le_of_ble_eq_true rfl) (by decide) rfl (Or.inl rfl) ?_
                    refine r_iadd (pc := 222) hX dL_isWhole_222 ?_
                    refine r_icmp_lt (pc := 223) hX 251 dL_isWhole_223 (by decide) (fun c223 => ?_) (fun c223 => ?_)
                    · have c223d := Int32.not_le.mpr c223
                      exact False.elim (by first | exact (h12 c201).1 c223 | exact c248 (h12 c201).2 )
                    · have c223d := Int32.not_lt.mp c223
                      refine r_aload_n (pc := 226) hX dL_isWhole_226 rfl ?_
                      refine r_bipush (pc := 227) hX 13 dL_isWhole_227 (by decide) ?_
                      refine r_callV (Z := mX11_many) (t := 11) (pc := 229) hX dL_isWhole_229 ml_L_103 mX11_many_w ⟨by decide, rfl⟩ (o_X11_k hm) (sp_many_b hm h8 he (by decide)) rfl rfl (Nat.le_of_ble_eq_true rfl) (by decide) rfl (Or.inl rfl) ?_
                      refine r_aload_n (pc := 232) hX dL_isWhole_232 rfl ?_
                      refine r_bipush (pc := 233) hX 12 dL_isWhole_233 (by decide) ?_
                      refine r_callV (Z := mX11_many) (t := 11) (pc := 235) hX dL_isWhole_235 ml_L_103 mX11_many_w ⟨by decide, rfl⟩ (o_X11_k hm) (sp_many_b hm h8 he (by decide)) rfl rfl (Nat.le_of_ble_eq_true rfl) (by decide) rfl (Or.inl rfl) ?_
                      refine r_aload_n (pc := 238) hX dL_isWhole_238 rfl ?_
                      refine r_bipush (pc := 239) hX 14 dL_isWhole_239 (by decide) ?_
                      refine r_callV (Z := mX11_many) (t := 11) (pc := 241) hX dL_isWhole_241 ml_L_103 mX11_many_w ⟨by decide, rfl⟩ (o_X11_k hm) (sp_many_b hm h8 he (by decide)) rfl rfl (Nat.le_of_ble_eq_true rfl) (by decide) rfl (Or.inl rfl) ?_
                      refine r_iadd (pc := 244) hX dL_isWhole_244 ?_
                      refine r_bipush (pc := 245) hX 8 dL_isWhole_245 (by decide) ?_
                      refine r_iadd (pc := 247) hX dL_isWhole_247 ?_
                      refine r_icmp_le (pc := 248) hX 253 dL_isWhole_248 (by decide) (fun c248 => ?_) (fun c248 => ?_)
                      · have c248d := Int32.not_lt.mpr c248
                        refine r_aload_n (pc := 253) hX dL_isWhole_253 rfl ?_
                        refine r_bipush (pc := 254) hX 9 dL_isWhole_254 (by decide) ?_
                        refine r_callV (Z := mX11_many) (t := 11) (pc := 256) hX dL_isWhole_256 ml_L_103 mX11_many_w ⟨by decide, rfl⟩ (o_X11_k hm) (sp_many_b hm h8 he (by decide)) rfl rfl (Nat.le_of_ble_eq_true rfl) (by decide) rfl (Or.inl rfl) ?_
                        refine r_aload_n (pc := 259) hX dL_isWhole_259 rfl ?_
                        refine r_bipush (pc := 260) hX 10 dL_isWhole_260 (by decide) ?_
                        refine r_callV (Z := mX11_many) (t := 11) (pc := 262) hX dL_isWhole_262 ml_L_103 mX11_many_w ⟨by decide, rfl⟩ (o_X11_k hm) (sp_many_b hm h8 he (by decide)) rfl rfl (Nat.le_of_ble_eq_true rfl) (by decide) rfl (Or.inl rfl) ?_
                        refine r_aload_n (pc := 265) hX dL_isWhole_265 rfl ?_
                        refine r_bipush (pc := 266) hX 11 dL_isWhole_266 (by decide) ?_
                        refine r_callV (Z := mX11_many) (t := 11) (pc := 268) hX dL_isWhole_268 ml_L_103 mX11_many_w ⟨by decide, rfl⟩ (o_X11_k hm) (sp_many_b hm h8 he (by decide)) rfl rfl (Nat.le_of_ble_eq_true rfl) (by decide) rfl (Or.inl rfl) ?_
                        refine r_iadd (pc := 271) hX dL_isWhole_271 ?_
                        refine r_icmp_lt (pc := 272) hX 306 dL_isWhole_272 (by decide) (fun c272 => ?_) (fun c272 => ?_)
                        · have c272d := Int32.not_le.mpr c272
                          exact False.elim (by first | exact h9 c272 | exact h15 c286 | exact c299 h2 )
                        · have c272d := Int32.not_lt.mp c272
                          refine r_aload_n (pc := 275) hX dL_isWhole_275 rfl ?_
                          refine r_bipush (pc := 276) hX 15 dL_isWhole_276 (by decide) ?_
                          refine r_callV (Z := mX11_many) (t := 11) (pc := 278) hX dL_isWhole_278 ml_L_103 mX11_many_w ⟨by decide, rfl⟩ (o_X11_k hm) (sp_many_b hm h8 he (by decide)) rfl rfl (Nat.le_of_ble_eq_true rfl) (by decide) rfl (Or.inl rfl) ?_
                          refine r_aload_n (pc := 281) hX dL_isWhole_281 rfl ?_
                          refine r_iconst (pc := 282) hX 4 dL_isWhole_282 (by decide) ?_
                          refine r_callV (Z := mX11_many) (t := 11) (pc := 283) hX dL_isWhole_283 ml_L_103 mX11_many_w ⟨by decide, rfl⟩ (o_X11_k hm) (sp_many_b hm h8 he (by decide)) rfl rfl (Nat.le_of_ble_eq_true rfl) (by decide) rfl (Or.inl rfl) ?_
                          refine r_icmp_gt (pc := 286) hX 306 dL_isWhole_286 (by decide) (fun c286 => ?_) (fun c286 => ?_)
                          · have c286d := Int32.not_le.mpr c286
                            exact False.elim (by first | exact h9 c272 | exact h15 c286 | exact c299 h2 )
                          · have c286d := Int32.not_lt.mp c286
                            refine r_aload_n (pc := 289) hX dL_isWhole_289 rfl ?_
                            refine r_getr (pc := 290) hX dL_isWhole_290 fl_L_47 rfl (o_X12_k ho) (o_X12_r1 ho) ?_
                            refine r_alenR (pc := 293) hX _ dL_isWhole_293 (o_X12_a1 ho) rfl ?_
                            refine r_aload_n (pc := 294) hX dL_isWhole_294 rfl ?_
                            refine r_iconst (pc := 295) hX 2 dL_isWhole_295 (by decide) ?_
                            refine r_callV (Z := mX11_many) (t := 11) (pc := 296) hX dL_isWhole_296 ml_L_103 mX11_many_w ⟨by decide, rfl⟩ (o_X11_k hm) (sp_many_b hm h8 he (by decide)) rfl rfl (Nat.le_of_ble_eq_true rfl) (by decide) rfl (Or.inl rfl) ?_
                            refine r_icmp_ne (pc := 299) hX 306 dL_isWhole_299 (by decide) (fun c299 => ?_) (fun c299 => ?_)
                            · exact False.elim (by first | exact h9 c272 | exact h15 c286 | exact c299 h2 )
                            · refine r_iconst (pc := 302) hX 1 dL_isWhole_302 (by decide) ?_
                              refine r_goto (pc := 303) hX (tgt := 307) dL_isWhole_303 (by decide) ?_
                              exact r_ireturn (pc := 307) hX dL_isWhole_307 rfl rfl (by first | with_reducible rfl | (simp only [eq_true c12, eq_false c12d, eq_true c155, eq_true c164, eq_true c181, eq_true c190, eq_false c190d, eq_false c201, eq_true c201d, eq_false c223, eq_true c223d, eq_true c248, eq_false c248d, eq_false c272, eq_true c272d, eq_false c286, eq_true c286d, eq_true c299, ↓reduceIte, if_true, if_false, decide_true, decide_false, eq_self, b2i_t, b2i_f, Bool.false_eq_true, and_true, true_and, and_false, false_and, or_true, true_or, or_false, false_or, not_true_eq_false, not_false_eq_true] <;> rfl) | simp [eq_true c12, eq_false c12d, eq_true c155, eq_true c164, eq_true c181, eq_true c190, eq_false c190d, eq_false c201, eq_true c201d, eq_false c223, eq_true c223d, eq_true c248, eq_false c248d, eq_false c272, eq_true c272d, eq_false c286, eq_true c286d, eq_true c299]) rfl
                      · have c248d := Int32.not_le.mp c248
                        exact False.elim (by first | exact (h12 c201).1 c223 | exact c248 (h12 c201).2 )
                · have c190d := Int32.not_le.mp c190
                  exact False.elim (by first | exact c164 (hS.mp c155) | exact c155 (hS.mpr c164) | exact c190 (h7 c181) )
      · have c12d := Int32.not_le.mp c12
        exact (cnt_ex hm1  c12).elim
    | succ w1 ih1 =>
      intro i1 J1 hp1 hm1 hR1
      refine r_iload (pc := 5) hX dL_isWhole_5 rfl ?_
      refine r_aload_n (pc := 7) hX dL_isWhole_7 rfl ?_
      refine r_iconst (pc := 8) hX 3 dL_isWhole_8 (by decide) ?_
      refine r_callV (Z := mX11_many) (t := 11) (pc := 9) hX dL_isWhole_9 ml_L_103 mX11_many_w ⟨by decide, rfl⟩ (o_X11_k hm) (sp_many_b hm h8 he (by decide)) rfl rfl (Nat.le_of_ble_eq_true rfl) (by decide) rfl (Or.inl rfl) ?_
      refine r_icmp_ge (pc := 12) hX 150 dL_isWhole_12 (by decide) (fun c12 => ?_) (fun c12 => ?_)
      · have c12d := Int32.not_lt.mpr c12
        exact (cnt_go hm1  c12).elim
      · have c12d := Int32.not_le.mp c12
        refine r_iconst (pc := 15) hX 1 dL_isWhole_15 (by decide) ?_
        refine r_istore (pc := 16) hX (L' := [_, _, _, _, _, _, _, _, _]) dL_isWhole_16 rfl rfl (Nat.le_of_ble_eq_true rfl) ?_
        have hL18 : ∀ (w2 : Nat) (i2 : Int32) (J2 : Int32), ¬ i2 < 1 → cnt i2 (5) = w2 → loopN w2 i2 (sp1_ I i1) J2 = loopN (cnt (1) (5)) (1) (sp1_ I i1) (J1) → im_E X k (im_Q X k (some (.int 1)) (S, I)) 18 [some (.ref 2), some (.ref a), some (.int p2), some (.int J2), some (.int i1), some (.int i2), none, none, none] [] S I := by
          intro w2
          induction w2 with
          | zero =>
            intro i2 J2 hp2 hm2 hR2
            refine r_iload (pc := 18) hX dL_isWhole_18 rfl ?_
            refine r_iconst (pc := 20) hX 5 dL_isWhole_20 (by decide) ?_
            refine r_icmp_ge (pc := 21) hX 144 dL_isWhole_21 (by decide) (fun c21 => ?_) (fun c21 => ?_)
            · have c21d := Int32.not_lt.mpr c21
              rw [loopN_0] at hR2
              subst hR2
              refine r_iinc (pc := 144) hX 1 (L' := [_, _, _, _, _, _, _, _, _]) dL_isWhole_144 rfl (by decide) rfl rfl ?_
              refine r_goto (pc := 147) hX (tgt := 5) dL_isWhole_147 (by decide) ?_
              refine r_weak (L' := [some _, some _, some _, some _, some _, none, none, none, none]) (And.intro rfl (And.intro rfl (And.intro rfl (And.intro rfl (And.intro rfl trivial))))) ?_
              exact ih1 _ _ (nneg_step hp1 c12) (cnt_nx hm1) (by refine Eq.trans (congrArg (loopN w1 (i1 + 1) (sp2_ I)) ?_) (loopN_s.symm.trans hR1); exact (by first | with_reducible rfl | (simp only [sp2_, loopC, eq_false c12, eq_true c12d, eq_true c21, eq_false c21d, ↓reduceIte, if_true, if_false, decide_true, decide_false, eq_self, b2i_t, b2i_f, Bool.false_eq_true, and_true, true_and, and_false, false_and, or_true, true_or, or_false, false_or, not_true_eq_false, not_false_eq_true] <;> rfl) | simp [sp2_, loopC, eq_false c12, eq_true c12d, eq_true c21, eq_false c21d]))
            · have c21d := Int32.not_le.mp c21
              exact (cnt_ex hm2  c21).elim
          | succ w2 ih2 =>
            intro i2 J2 hp2 hm2 hR2
            refine r_iload (pc := 18) hX dL_isWhole_18 rfl ?_
            refine r_iconst (pc := 20) hX 5 dL_isWhole_20 (by decide) ?_
            refine r_icmp_ge (pc := 21) hX 144 dL_isWhole_21 (by decide) (fun c21 => ?_) (fun c21 => ?_)
            · have c21d := Int32.not_lt.mpr c21
              exact (cnt_go hm2  c21).elim
            · have c21d := Int32.not_le.mp c21
              have hlt : isBelow_ i1 (I 29 0) = true := below_ok hp1 (by rw [← hc3]; exact c12)
              have hw5 : isBelow_ i2 8 = true := below5 hp2 c21
              refine r_aload_n (pc := 24) hX dL_isWhole_24 rfl ?_
              refine r_iload (pc := 25) hX dL_isWhole_25 rfl ?_
              refine r_iload (pc := 27) hX dL_isWhole_27 rfl ?_
              refine r_callV (Z := mX11_chosen) (t := 11) (pc := 29) hX dL_isWhole_29 ml_L_137 mX11_chosen_w ⟨by decide, rfl⟩ (o_X11_k hm) (sp_chosen_b hm h8 hlt hw5) rfl rfl (Nat.le_of_ble_eq_true rfl) (by decide) rfl (Or.inl rfl) ?_
              refine r_istore (pc := 32) hX (L' := [_, _, _, _, _, _, _, _, _]) dL_isWhole_32 rfl rfl (Nat.le_of_ble_eq_true rfl) ?_
              refine r_iload (pc := 34) hX dL_isWhole_34 rfl ?_
              refine r_if_ge (pc := 36) hX 42 dL_isWhole_36 (by decide) (fun c36 => ?_) (fun c36 => ?_)
              · have c36d := Int32.not_lt.mpr c36
                have hq := hV i1 i2 hp1 (by rw [← hc3]; exact c12) hp2 c21 (Int32.not_lt.mpr c36)
                refine r_aload_n (pc := 42) hX dL_isWhole_42 rfl ?_
                refine r_iload (pc := 43) hX dL_isWhole_43 rfl ?_
                refine r_iconst (pc := 45) hX 3 dL_isWhole_45 (by decide) ?_
                refine r_callV (Z := mX11_ofValue) (t := 11) (pc := 46) hX dL_isWhole_46 ml_L_140 mX11_ofValue_w ⟨by decide, rfl⟩ (o_X11_k hm) (sp_ofValue_b hm h8 hq.1 (by decide)) rfl rfl (Nat.le_of_ble_eq_true rfl) (by decide) rfl (Or.inl rfl) ?_
                refine r_istore (pc := 49) hX (L' := [_, _, _, _, _, _, _, _, _]) dL_isWhole_49 rfl rfl (Nat.le_of_ble_eq_true rfl) ?_
                refine r_iload (pc := 51) hX dL_isWhole_51 rfl ?_
                refine r_if_ge (pc := 53) hX 60 dL_isWhole_53 (by decide) (fun c53 => ?_) (fun c53 => ?_)
                · have c53d := Int32.not_lt.mpr c53
                  refine r_iconst (pc := 60) hX 0 dL_isWhole_60 (by decide) ?_
                  refine r_istore (pc := 61) hX (L' := [_, _, _, _, _, _, _, _, _]) dL_isWhole_61 rfl rfl (Nat.le_of_ble_eq_true rfl) ?_
                  refine r_iload (pc := 63) hX dL_isWhole_63 rfl ?_
                  refine r_if_eq (pc := 65) hX 105 dL_isWhole_65 (by decide) (fun c65 => ?_) (fun c65 => ?_)
                  · refine r_iload (pc := 105) hX dL_isWhole_105 rfl ?_
                    refine r_iload_n (pc := 107) hX dL_isWhole_107 rfl ?_
                    refine r_iconst (pc := 108) hX 4 dL_isWhole_108 (by decide) ?_
                    refine r_isub (pc := 109) hX dL_isWhole_109 ?_
                    refine r_icmp_gt (pc := 110) hX 123 dL_isWhole_110 (by decide) (fun c110 => ?_) (fun c110 => ?_)
                    · have c110d := Int32.not_le.mpr c110
                      exact False.elim (by first | exact c91 ((hq.2.1 c53).mp c75) | exact (hq.2.1 c53).mpr c91 c75 | exact (hq.2.2 c53).1 c110 | exact c120 (hq.2.2 c53).2 )
                    · have c110d := Int32.not_lt.mp c110
                      refine r_aload_n (pc := 113) hX dL_isWhole_113 rfl ?_
                      refine r_iload (pc := 114) hX dL_isWhole_114 rfl ?_
                      refine r_iconst (pc := 116) hX 4 dL_isWhole_116 (by decide) ?_
                      refine r_callV (Z := mX11_ofValue) (t := 11) (pc := 117) hX dL_isWhole_117 ml_L_140 mX11_ofValue_w ⟨by decide, rfl⟩ (o_X11_k hm) (sp_ofValue_b hm h8 hq.1 (by decide)) rfl rfl (Nat.le_of_ble_eq_true rfl) (by decide) rfl (Or.inl rfl) ?_
                      refine r_if_lt (pc := 120) hX 125 dL_isWhole_120 (by decide) (fun c120 => ?_) (fun c120 => ?_)
                      · have c120d := Int32.not_le.mpr c120
                        refine r_iload_n (pc := 125) hX dL_isWhole_125 rfl ?_
                        refine r_iload (pc := 126) hX dL_isWhole_126 rfl ?_
                        refine r_if_eq (pc := 128) hX 135 dL_isWhole_128 (by decide) (fun c128 => ?_) (fun c128 => ?_)
                        · refine r_iconst (pc := 135) hX 0 dL_isWhole_135 (by decide) ?_
                          refine r_iadd (pc := 136) hX dL_isWhole_136 ?_
                          refine r_istore_n (pc := 137) hX (L' := [_, _, _, _, _, _, _, _, _]) dL_isWhole_137 rfl rfl (Nat.le_of_ble_eq_true rfl) ?_
                          refine r_iinc (pc := 138) hX 1 (L' := [_, _, _, _, _, _, _, _, _]) dL_isWhole_138 rfl (by decide) rfl rfl ?_
                          refine r_goto (pc := 141) hX (tgt := 18) dL_isWhole_141 (by decide) ?_
                          refine r_weak (L' := [some _, some _, some _, some _, some _, some _, none, none, none]) (And.intro rfl (And.intro rfl (And.intro rfl (And.intro rfl (And.intro rfl (And.intro rfl trivial)))))) ?_
                          exact ih2 _ _ (pos_step hp2 c21) (cnt_nx hm2) (by refine Eq.trans (congrArg (loopN w2 (i2 + 1) (sp1_ I i1)) ?_) (loopN_s.symm.trans hR2); exact (by first | with_reducible rfl | (simp only [sp1_, eq_false c12, eq_true c12d, eq_false c21, eq_true c21d, eq_true c36, eq_false c36d, eq_true c53, eq_false c53d, eq_false c110, eq_true c110d, eq_true c120, eq_false c120d, ↓reduceIte, if_true, if_false, decide_true, decide_false, eq_self, b2i_t, b2i_f, Bool.false_eq_true, and_true, true_and, and_false, false_and, or_true, true_or, or_false, false_or, not_true_eq_false, not_false_eq_true] <;> rfl) | simp [sp1_, eq_false c12, eq_true c12d, eq_false c21, eq_true c21d, eq_true c36, eq_false c36d, eq_true c53, eq_false c53d, eq_false c110, eq_true c110d, eq_true c120, eq_false c120d]))
                        · exact absurd c128 (by decide)
                      · have c120d := Int32.not_lt.mp c120
                        exact False.elim (by first | exact c91 ((hq.2.1 c53).mp c75) | exact (hq.2.1 c53).mpr c91 c75 | exact (hq.2.2 c53).1 c110 | exact c120 (hq.2.2 c53).2 )
                  · exact absurd c65 (by decide)
                · have c53d := Int32.not_le.mp c53
                  refine r_iconst (pc := 56) hX 1 dL_isWhole_56 (by decide) ?_
                  refine r_goto (pc := 57) hX (tgt := 61) dL_isWhole_57 (by decide) ?_
                  refine r_istore (pc := 61) hX (L' := [_, _, _, _, _, _, _, _, _]) dL_isWhole_61 rfl rfl (Nat.le_of_ble_eq_true rfl) ?_
                  refine r_iload (pc := 63) hX dL_isWhole_63 rfl ?_
                  refine r_if_eq (pc := 65) hX 105 dL_isWhole_65 (by decide) (fun c65 => ?_) (fun c65 => ?_)
                  · exact absurd c65 (by decide)
                  · refine r_aload_n (pc := 68) hX dL_isWhole_68 rfl ?_
                    refine r_iload (pc := 69) hX dL_isWhole_69 rfl ?_
                    refine r_iconst (pc := 71) hX 4 dL_isWhole_71 (by decide) ?_
                    refine r_callV (Z := mX11_ofValue) (t := 11) (pc := 72) hX dL_isWhole_72 ml_L_140 mX11_ofValue_w ⟨by decide, rfl⟩ (o_X11_k hm) (sp_ofValue_b hm h8 hq.1 (by decide)) rfl rfl (Nat.le_of_ble_eq_true rfl) (by decide) rfl (Or.inl rfl) ?_
                    refine r_if_ge (pc := 75) hX 82 dL_isWhole_75 (by decide) (fun c75 => ?_) (fun c75 => ?_)
                    · have c75d := Int32.not_lt.mpr c75
                      refine r_iconst (pc := 82) hX 0 dL_isWhole_82 (by decide) ?_
                      refine r_aload_n (pc := 83) hX dL_isWhole_83 rfl ?_
                      refine r_iload (pc := 84) hX dL_isWhole_84 rfl ?_
                      refine r_iconst (pc := 86) hX 5 dL_isWhole_86 (by decide) ?_
                      refine r_callV (Z := mX11_ofValue) (t := 11) (pc := 87) hX dL_isWhole_87 ml_L_140 mX11_ofValue_w ⟨by decide, rfl⟩ (o_X11_k hm) (sp_ofValue_b hm h8 hq.1 (by decide)) rfl rfl (Nat.le_of_ble_eq_true rfl) (by decide) rfl (Or.inl rfl) ?_
                      refine r_iconst (pc := 90) hX 1 dL_isWhole_90 (by decide) ?_
                      refine r_icmp_ne (pc := 91) hX 98 dL_isWhole_91 (by decide) (fun c91 => ?_) (fun c91 => ?_)
                      · refine r_iconst (pc := 98) hX 0 dL_isWhole_98 (by decide) ?_
                        refine r_icmp_eq (pc := 99) hX 125 dL_isWhole_99 (by decide) (fun c99 => ?_) (fun c99 => ?_)
                        · refine r_iload_n (pc := 125) hX dL_isWhole_125 rfl ?_
                          refine r_iload (pc := 126) hX dL_isWhole_126 rfl ?_
                          refine r_if_eq (pc := 128) hX 135 dL_isWhole_128 (by decide) (fun c128 => ?_) (fun c128 => ?_)
                          · exact absurd c128 (by decide)
                          · refine r_iconst (pc := 131) hX 1 dL_isWhole_131 (by decide) ?_
                            refine r_goto (pc := 132) hX (tgt := 136) dL_isWhole_132 (by decide) ?_
                            refine r_iadd (pc := 136) hX dL_isWhole_136 ?_
                            refine r_istore_n (pc := 137) hX (L' := [_, _, _, _, _, _, _, _, _]) dL_isWhole_137 rfl rfl (Nat.le_of_ble_eq_true rfl) ?_
                            refine r_iinc (pc := 138) hX 1 (L' := [_, _, _, _, _, _, _, _, _]) dL_isWhole_138 rfl (by decide) rfl rfl ?_
                            refine r_goto (pc := 141) hX (tgt := 18) dL_isWhole_141 (by decide) ?_
                            refine r_weak (L' := [some _, some _, some _, some _, some _, some _, none, none, none]) (And.intro rfl (And.intro rfl (And.intro rfl (And.intro rfl (And.intro rfl (And.intro rfl trivial)))))) ?_
                            exact ih2 _ _ (pos_step hp2 c21) (cnt_nx hm2) (by refine Eq.trans (congrArg (loopN w2 (i2 + 1) (sp1_ I i1)) ?_) (loopN_s.symm.trans hR2); exact (by first | with_reducible rfl | (simp only [sp1_, eq_false c12, eq_true c12d, eq_false c21, eq_true c21d, eq_true c36, eq_false c36d, eq_false c53, eq_true c53d, eq_true c75, eq_false c75d, eq_false c91, ↓reduceIte, if_true, if_false, decide_true, decide_false, eq_self, b2i_t, b2i_f, Bool.false_eq_true, and_true, true_and, and_false, false_and, or_true, true_or, or_false, false_or, not_true_eq_false, not_false_eq_true] <;> rfl) | simp [sp1_, eq_false c12, eq_true c12d, eq_false c21, eq_true c21d, eq_true c36, eq_false c36d, eq_false c53, eq_true c53d, eq_true c75, eq_false c75d, eq_false c91]))
                        · exact absurd c99 (by decide)
                      · refine r_iconst (pc := 94) hX 1 dL_isWhole_94 (by decide) ?_
                        refine r_goto (pc := 95) hX (tgt := 99) dL_isWhole_95 (by decide) ?_
                        refine r_icmp_eq (pc := 99) hX 125 dL_isWhole_99 (by decide) (fun c99 => ?_) (fun c99 => ?_)
                        · exact absurd c99 (by decide)
                        · refine r_goto (pc := 102) hX (tgt := 123) dL_isWhole_102 (by decide) ?_
                          exact False.elim (by first | exact c91 ((hq.2.1 c53).mp c75) | exact (hq.2.1 c53).mpr c91 c75 | exact (hq.2.2 c53).1 c110 | exact c120 (hq.2.2 c53).2 )
                    · have c75d := Int32.not_le.mp c75
                      refine r_iconst (pc := 78) hX 1 dL_isWhole_78 (by decide) ?_
                      refine r_goto (pc := 79) hX (tgt := 83) dL_isWhole_79 (by decide) ?_
                      refine r_aload_n (pc := 83) hX dL_isWhole_83 rfl ?_
                      refine r_iload (pc := 84) hX dL_isWhole_84 rfl ?_
                      refine r_iconst (pc := 86) hX 5 dL_isWhole_86 (by decide) ?_
                      refine r_callV (Z := mX11_ofValue) (t := 11) (pc := 87) hX dL_isWhole_87 ml_L_140 mX11_ofValue_w ⟨by decide, rfl⟩ (o_X11_k hm) (sp_ofValue_b hm h8 hq.1 (by decide)) rfl rfl (Nat.le_of_ble_eq_true rfl) (by decide) rfl (Or.inl rfl) ?_
                      refine r_iconst (pc := 90) hX 1 dL_isWhole_90 (by decide) ?_
                      refine r_icmp_ne (pc := 91) hX 98 dL_isWhole_91 (by decide) (fun c91 => ?_) (fun c91 => ?_)
                      · refine r_iconst (pc := 98) hX 0 dL_isWhole_98 (by decide) ?_
                        refine r_icmp_eq (pc := 99) hX 125 dL_isWhole_99 (by decide) (fun c99 => ?_) (fun c99 => ?_)
                        · exact absurd c99 (by decide)
                        · refine r_goto (pc := 102) hX (tgt := 123) dL_isWhole_102 (by decide) ?_
                          exact False.elim (by first | exact c91 ((hq.2.1 c53).mp c75) | exact (hq.2.1 c53).mpr c91 c75 | exact (hq.2.2 c53).1 c110 | exact c120 (hq.2.2 c53).2 )
                      · refine r_iconst (pc := 94) hX 1 dL_isWhole_94 (by decide) ?_
                        refine r_goto (pc := 95) hX (tgt := 99) dL_isWhole_95 (by decide) ?_
                        refine r_icmp_eq (pc := 99) hX 125 dL_isWhole_99 (by decide) (fun c99 => ?_) (fun c99 => ?_)
                        · refine r_iload_n (pc := 125) hX dL_isWhole_125 rfl ?_
                          refine r_iload (pc := 126) hX dL_isWhole_126 rfl ?_
                          refine r_if_eq (pc := 128) hX 135 dL_isWhole_128 (by decide) (fun c128 => ?_) (fun c128 => ?_)
                          · exact absurd c128 (by decide)
                          · refine r_iconst (pc := 131) hX 1 dL_isWhole_131 (by decide) ?_
                            refine r_goto (pc := 132) hX (tgt := 136) dL_isWhole_132 (by decide) ?_
                            refine r_iadd (pc := 136) hX dL_isWhole_136 ?_
                            refine r_istore_n (pc := 137) hX (L' := [_, _, _, _, _, _, _, _, _]) dL_isWhole_137 rfl rfl (Nat.le_of_ble_eq_true rfl) ?_
                            refine r_iinc (pc := 138) hX 1 (L' := [_, _, _, _, _, _, _, _, _]) dL_isWhole_138 rfl (by decide) rfl rfl ?_
                            refine r_goto (pc := 141) hX (tgt := 18) dL_isWhole_141 (by decide) ?_
                            refine r_weak (L' := [some _, some _, some _, some _, some _, some _, none, none, none]) (And.intro rfl (And.intro rfl (And.intro rfl (And.intro rfl (And.intro rfl (And.intro rfl trivial)))))) ?_
                            exact ih2 _ _ (pos_step hp2 c21) (cnt_nx hm2) (by refine Eq.trans (congrArg (loopN w2 (i2 + 1) (sp1_ I i1)) ?_) (loopN_s.symm.trans hR2); exact (by first | with_reducible rfl | (simp only [sp1_, eq_false c12, eq_true c12d, eq_false c21, eq_true c21d, eq_true c36, eq_false c36d, eq_false c53, eq_true c53d, eq_false c75, eq_true c75d, eq_true c91, ↓reduceIte, if_true, if_false, decide_true, decide_false, eq_self, b2i_t, b2i_f, Bool.false_eq_true, and_true, true_and, and_false, false_and, or_true, true_or, or_false, false_or, not_true_eq_false, not_false_eq_true] <;> rfl) | simp [sp1_, eq_false c12, eq_true c12d, eq_false c21, eq_true c21d, eq_true c36, eq_false c36d, eq_false c53, eq_true c53d, eq_false c75, eq_true c75d, eq_true c91]))
                        · exact absurd c99 (by decide)
              · have c36d := Int32.not_le.mp c36
                refine r_goto (pc := 39) hX (tgt := 138) dL_isWhole_39 (by decide) ?_
                refine r_iinc (pc := 138) hX 1 (L' := [_, _, _, _, _, _, _, _, _]) dL_isWhole_138 rfl (by decide) rfl rfl ?_
                refine r_goto (pc := 141) hX (tgt := 18) dL_isWhole_141 (by decide) ?_
                refine r_weak (L' := [some _, some _, some _, some _, some _, some _, none, none, none]) (And.intro rfl (And.intro rfl (And.intro rfl (And.intro rfl (And.intro rfl (And.intro rfl trivial)))))) ?_
                exact ih2 _ _ (pos_step hp2 c21) (cnt_nx hm2) (by refine Eq.trans (congrArg (loopN w2 (i2 + 1) (sp1_ I i1)) ?_) (loopN_s.symm.trans hR2); exact (by first | with_reducible rfl | (simp only [sp1_, eq_false c12, eq_true c12d, eq_false c21, eq_true c21d, eq_false c36, eq_true c36d, ↓reduceIte, if_true, if_false, decide_true, decide_false, eq_self, b2i_t, b2i_f, Bool.false_eq_true, and_true, true_and, and_false, false_and, or_true, true_or, or_false, false_or, not_true_eq_false, not_false_eq_true] <;> rfl) | simp [sp1_, eq_false c12, eq_true c12d, eq_false c21, eq_true c21d, eq_false c36, eq_true c36d]))
        exact hL18 (cnt (1) (5)) (1) (J1) (by decide) rfl rfl
  exact hL5 (cnt (0) (tellMany_ I 91 19 3)) (0) (0) (by decide) rfl rfl
