/-! laws for the walks of Run, Works, Plan.build -/
theorem r_locs {X : im_X} {k : im_K} {Q : State → Prop} {pc : Nat} {L L' : List (Option Value)} {st : List Value} {S : im_S} {I : im_I} (hL : L = L') (h : im_E X k Q pc L' st S I) : im_E X k Q pc L st S I := hL ▸ h
theorem add_fr {I : im_I} {a b : Nat} {kd v bl : Int32} (hb : b < a ∨ a + 6 < b) : add_ I a kd v bl b = I b := by
  unfold add_
  split
  · rfl
  · exact (up_fr (by omega)).trans ((put_fr (by omega)).trans ((put_fr (by omega)).trans ((put_fr (by omega)).trans ((put_fr (by omega)).trans (put_fr (by omega))))))
theorem setReads_fr {I : im_I} {a b : Nat} {x y z : Int32} (hb : b < a ∨ a + 6 < b) : setReads_ I a x y z b = I b := (put_fr (by omega)).trans ((put_fr (by omega)).trans (put_fr (by omega)))
theorem setNumber_fr {I : im_I} {a b : Nat} {x : Int32} (hb : b < a ∨ a + 6 < b) : setNumber_ I a x b = I b := put_fr (by omega)
theorem setHeight_fr {I : im_I} {a b : Nat} {x y : Int32} (hb : b < a ∨ a + 6 < b) : setHeight_ I a x y b = I b := put_fr (by omega)
theorem addCopy_fr {I : im_I} {a r b : Nat} {pt : Int32} (hb : b < a ∨ a + 6 < b) : addCopy_ I a r pt b = I b := (setHeight_fr hb).trans ((setNumber_fr hb).trans ((setReads_fr hb).trans (add_fr hb)))
theorem measureHeights_fr {I : im_I} {a m b : Nat} {f t : Int32} (hb : b < a + 27 ∨ a + 33 < b) : measureHeights_ I a m f t b = I b := downN_fr (fun _ _ => setHeight_fr (by omega)) _ _ _
theorem placeAsChosen_fr {I : im_I} {a b : Nat} {f t : Int32} (hb : b < a + 10 ∨ a + 16 < b) : placeAsChosen_ I a f t b = I b := loopN_fr (fun _ _ => addCopy_fr (by omega)) _ _ _
theorem countMissing_fr {I : im_I} {a b : Nat} {f t : Int32} (hb : b ≠ a + 35) : countMissing_ I a f t b = I b := loopN_fr (fun _ _ => put_fr hb) _ _ _
theorem lessOne_fr {I : im_I} {a b : Nat} {x j : Int32} (hb : b ≠ a + 35) : lessOne_ a x j I b = I b := by
  unfold lessOne_
  split
  · rfl
  · exact put_fr hb
theorem placeN_fr {a b : Nat} {f t : Int32} (hb : b < a + 10 ∨ a + 16 < b ∧ b ≠ a + 35) : ∀ (n : Nat) (i : Int32) (I : im_I), placeN_ a f t n i I b = I b
  | 0, _, _ => by rw [placeN_0]
  | n + 1, i, I => by
    rw [placeN_s]
    split
    · rfl
    · rw [placeN_fr hb n]
      exact (loopN_fr (fun _ _ => lessOne_fr (by omega)) _ _ _).trans ((put_fr (by omega)).trans (addCopy_fr (by omega)))
theorem placeByHeight_fr {I : im_I} {a b : Nat} {f t : Int32} (hb : b < a + 10 ∨ a + 16 < b ∧ b ≠ a + 35) : placeByHeight_ I a f t b = I b := (placeN_fr hb _ _ _).trans (countMissing_fr (by omega))
theorem buildBlock_fr {I : im_I} {a m b : Nat} {o bl : Int32} (hb : b < a + 10 ∨ a + 16 < b ∧ b ≠ a + 26 ∧ (b < a + 27 ∨ a + 33 < b) ∧ b ≠ a + 35) : buildBlock_ a m o bl I b = I b := by
  unfold buildBlock_
  try simp only
  split
  · exact (placeAsChosen_fr (by omega)).trans ((measureHeights_fr (by omega)).trans (put_fr (by omega)))
  · exact (placeByHeight_fr (by omega)).trans ((measureHeights_fr (by omega)).trans (put_fr (by omega)))
theorem addEntryOne_fr {I : im_I} {a b : Nat} {e v : Int32} (hb : b < a + 10 ∨ a + 16 < b) : addEntryOne_ a e v I b = I b := by
  unfold addEntryOne_
  split
  · rfl
  · exact (setReads_fr (by omega)).trans (add_fr (by omega))
theorem addEntry_fr {I : im_I} {a b : Nat} (hb : b < a + 10 ∨ a + 16 < b) : addEntry_ I a b = I b := loopN_fr (fun _ _ => addEntryOne_fr hb) _ _ _
theorem buildFirst_34 {I : im_I} {a m : Nat} : buildFirst_ I a m (a + 34) = chooseAll_ (coverAll_ I (a + 1) m) a (a + 34) := (addEntry_fr (by omega)).trans (up_fr (by omega))
