/-! pure functions, third part: Code (1) at c, machine m: 0 length 6 point; +1 kinds +2 operands +3 points +4 starts; Run (9) at a: 0 steps 1 cycles 2 stalls 9 lastBegin; +1 begins +2 registers +3 slots +4 ready -/
def codeAdd_ (I : im_I) (c : Nat) (kd f s t u : Int32) : im_I :=
  if I c 0 < 0 then I else if ¬ I c 0 < 528 then I else
  let n := I c 0
  let J1 := im_up I (c + 1) n.toNatClampNeg kd
  let J2 := im_up J1 (c + 2) (4 * n).toNatClampNeg f
  let J3 := im_up J2 (c + 2) (4 * n + 1).toNatClampNeg s
  let J4 := im_up J3 (c + 2) (4 * n + 2).toNatClampNeg t
  let J5 := im_up J4 (c + 2) (4 * n + 3).toNatClampNeg u
  let J6 := im_up J5 (c + 3) (J5 c 0).toNatClampNeg (J5 c 6)
  im_up J6 c 0 (J6 c 0 + 1)
def addMove_ (I : im_I) (c : Nat) (d x : Int32) : im_I := if d = x then I else codeAdd_ I c 1 d x 0 0
def addOperation_ (I : im_I) (c : Nat) (kd d x y z n : Int32) : im_I :=
  if kd = 5 then codeAdd_ I c 5 d x n 0 else codeAdd_ I c kd d x y (if kd = 6 then z else 0)
def operate_ (I : im_I) (c m : Nat) (kd d x y z n : Int32) : im_I :=
  if I m 4 = 0 ∨ x = d then addOperation_ I c kd d x y z n
  else if ¬ d = y ∧ ¬ d = z then addOperation_ (addMove_ I c d x) c kd d d y z n
  else if kd = 2 ∨ kd = 4 then addOperation_ I c kd d y x z n
  else addMove_ (addOperation_ (addMove_ I c (scratch_ I m) x) c kd (scratch_ I m) (scratch_ I m) y z n) c d (scratch_ I m)
def addLoad_ (I : im_I) (c h : Nat) (x d : Int32) : im_I :=
  if at_ (I (h + 3)) 88 x = 1 then codeAdd_ I c 0 d (at_ (I (h + 4)) 88 x) 0 0 else codeAdd_ I c 7 d (at_ (I (h + 2)) 88 x) 0 0
def bring_ (I : im_I) (c h : Nat) (x d : Int32) : im_I := if isSpilled_ I h x = true then addLoad_ I c h x d else addMove_ I c d (registerOf_ I h x)
def fetchV_ (I : im_I) (c m r h : Nat) (j : Int32) : Int32 :=
  let x := readBy_ I r (I c 6) j
  if x = -1 then registerOf_ I h x else if isSpilled_ I h x = false then registerOf_ I h x else scratch_ (addLoad_ I c h x (scratch_ I m + j)) m + j
def fetch_ (I : im_I) (c m r h : Nat) (j : Int32) : im_I :=
  let x := readBy_ I r (I c 6) j
  if x = -1 then I else if isSpilled_ I h x = false then I else addLoad_ I c h x (scratch_ I m + j)
def makeTail_ (I : im_I) (c h : Nat) (x d : Int32) : im_I := if isSpilled_ I h x = true then codeAdd_ I c 8 d (slotOf_ I h x) 0 0 else I
def makeBody_ (I : im_I) (c m r : Nat) (d x y z : Int32) : im_I :=
  let kd := kindOf_ I r (I c 6)
  if kd = 0 then codeAdd_ I c 0 d (numberOf_ I r (I c 6)) 0 0
  else if kd = 1 then addMove_ I c d x
  else if kd = 5 then operate_ I c m 5 d x (-1) (-1) (numberOf_ I r (I c 6))
  else operate_ I c m kd d x y z 0
def makeOne_ (I : im_I) (c m r h : Nat) : im_I :=
  let v := writtenBy_ I r (I c 6)
  let x := fetchV_ I c m r h 0
  let I1 := fetch_ I c m r h 0
  let y := fetchV_ I1 c m r h 1
  let I2 := fetch_ I1 c m r h 1
  let z := fetchV_ I2 c m r h 2
  let I3 := fetch_ I2 c m r h 2
  let d := if isSpilled_ I3 h v = true then scratch_ I3 m else registerOf_ I3 h v
  makeTail_ (makeBody_ I3 c m r d x y z) c h v d
def callMoves_ (I : im_I) (c m h : Nat) (x y : Int32) : im_I :=
  if registerOf_ I h y = 0 ∧ registerOf_ I h x = 1 then
    let I1 := addMove_ I c (scratch_ I m) 0
    let I2 := addMove_ I1 c 0 1
    addMove_ I2 c 1 (scratch_ I2 m)
  else if registerOf_ I h y = 0 then bring_ (addMove_ I c 1 0) c h x 0
  else bring_ (bring_ I c h x 0) c h y 1
def makeCall_ (I : im_I) (c m r h : Nat) : im_I :=
  let v := writtenBy_ I r (I c 6)
  let I1 := codeAdd_ (callMoves_ I c m h (readBy_ I r (I c 6) 0) (readBy_ I r (I c 6) 1)) c 9 0 0 0 0
  if isSpilled_ I1 h v = true then codeAdd_ I1 c 8 0 (slotOf_ I1 h v) 0 0 else addMove_ I1 c (registerOf_ I1 h v) 0
def make1_ (c : Nat) (i : Int32) (J : im_I) : im_I :=
  let J1 := im_up J c 6 i
  put_ J1 (c + 4) 89 (J1 c 6) (J1 c 0)
def makeStep_ (c m r h : Nat) (i : Int32) (J : im_I) : im_I :=
  let J2 := make1_ c i J
  if kindOf_ J2 r (J2 c 6) = 9 then makeCall_ J2 c m r h else if isRemade_ J2 h (writtenBy_ J2 r (J2 c 6)) = true then J2 else makeOne_ J2 c m r h
def make_ (I : im_I) (c m r h : Nat) : im_I :=
  let J := loopC 0 (I r 0) (makeStep_ c m r h) (im_up I c 0 0)
  put_ J (c + 4) 89 (J r 0) (J c 0)
def codeKindOf_ (I : im_I) (c : Nat) (i : Int32) : Int32 := at_ (I (c + 1)) 528 i
def operandOf_ (I : im_I) (c : Nat) (i j : Int32) : Int32 := at_ (I (c + 2)) 2112 (4 * i + j - 1)
def startOf_ (I : im_I) (c : Nat) (i : Int32) : Int32 := at_ (I (c + 4)) 89 i
def tellPlace_ (I : im_I) (c : Nat) (i w : Int32) : Int32 := if w = 0 then codeKindOf_ I c i else if w = 5 then at_ (I (c + 3)) 528 i else operandOf_ I c i w
def countOf_ (I : im_I) (c : Nat) (kd : Int32) : Int32 := loopC 0 (I c 0) (fun i n => if codeKindOf_ I c i = kd then n + 1 else n) 0
-- Run
def readyFor_ (I : im_I) (a : Nat) (kd f s t u : Int32) : Int32 :=
  if kd = 1 then at_ (I (a + 4)) 11 s
  else if kd = 2 then max_ (at_ (I (a + 4)) 11 s) (at_ (I (a + 4)) 11 t)
  else if kd = 3 then max_ (at_ (I (a + 4)) 11 s) (at_ (I (a + 4)) 11 t)
  else if kd = 4 then max_ (at_ (I (a + 4)) 11 s) (at_ (I (a + 4)) 11 t)
  else if kd = 5 then at_ (I (a + 4)) 11 s
  else if kd = 6 then max_ (at_ (I (a + 4)) 11 s) (max_ (at_ (I (a + 4)) 11 t) (at_ (I (a + 4)) 11 u))
  else if kd = 7 then 0
  else if kd = 8 then at_ (I (a + 4)) 11 f
  else if kd = 9 then max_ (at_ (I (a + 4)) 11 0) (at_ (I (a + 4)) 11 1)
  else 0
def resultOf_ (I : im_I) (a : Nat) (kd s t u : Int32) : Int32 :=
  let x := at_ (I (a + 2)) 11 s
  let y := at_ (I (a + 2)) 11 t
  if kd = 0 then s else if kd = 1 then x else if kd = 2 then x + y else if kd = 3 then x - y else if kd = 4 then x * y else if kd = 5 then x + t
  else if kd = 6 then x * y + at_ (I (a + 2)) 11 u else at_ (I (a + 3)) 88 s
def loseOne_ (a m : Nat) (i : Int32) (J : im_I) : im_I :=
  if hasBit_ (J m 1) i = true then J else
  let J1 := put_ J (a + 2) 11 i (-77777)
  put_ J1 (a + 4) 11 i (J1 a 9)
def performCall_ (I : im_I) (a m : Nat) : im_I :=
  let r := 3 * at_ (I (a + 2)) 11 0 + 2 * at_ (I (a + 2)) 11 1 + 1
  let J1 := put_ (loopC 1 (I m 0) (loseOne_ a m) I) (a + 2) 11 0 r
  put_ J1 (a + 4) 11 0 (J1 a 1)
def perform_ (I : im_I) (a m : Nat) (kd f s t u : Int32) : im_I :=
  if kd = 8 then put_ I (a + 3) 88 s (at_ (I (a + 2)) 11 f)
  else if kd = 9 then performCall_ I a m
  else
    let J1 := put_ I (a + 2) 11 f (resultOf_ I a kd s t u)
    put_ J1 (a + 4) 11 f (J1 a 1)
def step1_ (a m c : Nat) (i : Int32) (J : im_I) : im_I :=
  let kd := codeKindOf_ J c i
  let bg := max_ (J a 9 + 1) (readyFor_ J a kd (operandOf_ J c i 1) (operandOf_ J c i 2) (operandOf_ J c i 3) (operandOf_ J c i 4))
  let J1 := im_up J a 2 (J a 2 + (bg - J a 9 - 1))
  let J2 := im_up J1 a 9 bg
  let J3 := im_up J2 a 0 (J2 a 0 + 1)
  let J4 := im_up J3 a 1 (bg + cyclesOf_ J3 m kd)
  if at_ (J4 (a + 1)) 528 i = -1 then put_ J4 (a + 1) 528 i bg else J4
def runStep_ (a m c : Nat) (i : Int32) (J : im_I) : im_I := perform_ (step1_ a m c i J) a m (codeKindOf_ J c i) (operandOf_ J c i 1) (operandOf_ J c i 2) (operandOf_ J c i 3) (operandOf_ J c i 4)
def goThrough_ (I : im_I) (a m c : Nat) (f t : Int32) : im_I := loopC f t (runStep_ a m c) I
def go0_ (I : im_I) (a : Nat) : im_I :=
  fillL_ (fillL_ (fillL_ (fillL_ (im_up (im_up (im_up (im_up I a 0 0) a 1 0) a 2 0) a 9 (-1)) (a + 1) 528 (-1)) (a + 2) 11 0) (a + 3) 88 0) (a + 4) 11 0
def goBlock_ (a m c x n : Nat) (b : Int32) (J : im_I) : im_I :=
  let f := startOf_ J c (at_ (J x) n b)
  let t := startOf_ J c (at_ (J x) n (b + 1))
  loopC 0 (roundsOf_ J 3 b) (fun _ K => goThrough_ K a m c f t) J
def go_ (I : im_I) (a m c x n : Nat) : im_I :=
  let J := go0_ I a
  loopC 0 4 (goBlock_ a m c x n) (goThrough_ J a m c 0 (startOf_ J c (at_ (J x) n 0)))
-- Works (10) at w, machine m, of the plan at p: homes w+1, code w+7, run w+12
def worksBuild_ (I : im_I) (w m p : Nat) : im_I :=
  let I1 := give_ I (w + 1) m (p + 10) (p + 17)
  let I2 := make_ I1 (w + 7) m (p + 10) (w + 1)
  go_ I2 (w + 12) m (w + 7) (p + 26) 5
def tellLine_ (I : im_I) (p : Nat) (pt w : Int32) : Int32 :=
  if w = 0 then kindOf_ I (p + 10) pt else if w = 1 then writtenBy_ I (p + 10) pt
  else if w = 2 then readBy_ I (p + 10) pt (w - 2) else if w = 3 then readBy_ I (p + 10) pt (w - 2) else if w = 4 then readBy_ I (p + 10) pt (w - 2)
  else if w = 5 then numberOf_ I (p + 10) pt
  else if w = 6 then blockOf_ I (p + 10) pt else if w = 7 then heightOf_ I (p + 10) pt else readBy_ I (p + 10) pt (w - 2)
def tellValue_ (I : im_I) (a p : Nat) (v w : Int32) : Int32 :=
  if w = 0 then firstOf_ I (p + 17) v else if w = 1 then lastOf_ I (p + 17) v else if w = 2 then weightOf_ I (p + 17) v
  else if w = 3 then registerOf_ I (a + 1) v else if w = 4 then slotOf_ I (a + 1) v else if w = 5 then (if isRemade_ I (a + 1) v = true then 1 else 0)
  else if w = 6 then crossedBy_ I (p + 17) v else touchesOf_ I (p + 17) v
def tellCallOne_ (I : im_I) (a p : Nat) (pt i : Int32) (s : Int32 × Int32 × Int32) : Int32 × Int32 × Int32 :=
  if isCrossing_ I (p + 17) i pt = false then s else (s.1 ||| bit_ (registerOf_ I (a + 1) i), s.2.1 ||| bit_ (slotOf_ I (a + 1) i), s.2.2 + (if isRemade_ I (a + 1) i = true then 1 else 0))
def tellCall_ (I : im_I) (a p : Nat) (c w : Int32) : Int32 :=
  let pt := pointOfCall_ I (p + 17) c
  let s := loopC 0 (I (p + 17) 0) (tellCallOne_ I a p pt) (0, 0, 0)
  if w = 0 then pt else if w = 1 then s.1 else if w = 2 then s.2.1 else s.2.2
def tellAnswer_ (I : im_I) (a p : Nat) (v : Int32) : Int32 :=
  if isLiving_ I (p + 17) v = false then 0 else if isRemade_ I (a + 1) v = true then homeNumberOf_ I (a + 1) v
  else if isSpilled_ I (a + 1) v = true then at_ (I (a + 12 + 3)) 88 (slotOf_ I (a + 1) v) else at_ (I (a + 12 + 2)) 11 (registerOf_ I (a + 1) v)
def tellMany_ (I : im_I) (a p : Nat) (w : Int32) : Int32 :=
  if w = 0 then I 3 0 else if w = 1 then looseCount_ I 3 else if w = 2 then I 3 1 else if w = 3 then I (p + 10) 0 else if w = 4 then I (p + 17) 1
  else if w = 5 then I (a + 1) 0 else if w = 6 then I (a + 1) 1 else if w = 7 then I (a + 1) 2 else if w = 8 then I (a + 1) 3
  else if w = 9 then I (a + 7) 0 else if w = 10 then countOf_ I (a + 7) 1 else if w = 11 then countOf_ I (a + 7) 7 + countOf_ I (a + 7) 8
  else if w = 12 then I (a + 12) 0 else if w = 13 then I (a + 12) 1 else if w = 14 then I (a + 12) 2
  else mostAtOnce_ I (p + 17) (I (p + 10) 0)
-- Plan.build
def buildBlock_ (a m : Nat) (o b : Int32) (I : im_I) : im_I :=
  let f := at_ (I (a + 34)) 5 b
  let t := at_ (I (a + 34)) 5 (b + 1)
  let I1 := put_ I (a + 26) 5 b (I (a + 10) 0)
  let I2 := measureHeights_ I1 a m f t
  if o = 0 then placeAsChosen_ I2 a f t else placeByHeight_ I2 a f t
def buildFirst_ (I : im_I) (a m : Nat) : im_I := addEntry_ (im_up (chooseAll_ (coverAll_ I (a + 1) m) a) (a + 10) 0 0) a
def buildAll_ (I : im_I) (a m : Nat) (o : Int32) : im_I := loopC 0 4 (buildBlock_ a m o) (buildFirst_ I a m)
def build_ (I : im_I) (a m : Nat) (o : Int32) : im_I :=
  let J := buildAll_ I a m o
  measure_ (put_ J (a + 26) 5 4 (J (a + 10) 0)) (a + 17) (a + 10) (a + 26) 5
-- frames
theorem codeAdd_fr {I : im_I} {c b : Nat} {kd f s t u : Int32} (hb : b < c ∨ c + 4 < b) : codeAdd_ I c kd f s t u b = I b := by
  unfold codeAdd_
  split
  · rfl
  · split
    · rfl
    · exact (up_fr (by omega)).trans ((up_fr (by omega)).trans ((up_fr (by omega)).trans ((up_fr (by omega)).trans ((up_fr (by omega)).trans ((up_fr (by omega)).trans (up_fr (by omega)))))))
theorem addMove_fr {I : im_I} {c b : Nat} {d x : Int32} (hb : b < c ∨ c + 4 < b) : addMove_ I c d x b = I b := by
  unfold addMove_
  split
  · rfl
  · exact codeAdd_fr hb
theorem addOperation_fr {I : im_I} {c b : Nat} {kd d x y z n : Int32} (hb : b < c ∨ c + 4 < b) : addOperation_ I c kd d x y z n b = I b := by
  unfold addOperation_
  split
  · exact codeAdd_fr hb
  · exact codeAdd_fr hb
theorem operate_fr {I : im_I} {c m b : Nat} {kd d x y z n : Int32} (hb : b < c ∨ c + 4 < b) : operate_ I c m kd d x y z n b = I b := by
  unfold operate_
  split
  · exact addOperation_fr hb
  · split
    · exact (addOperation_fr hb).trans (addMove_fr hb)
    · split
      · exact addOperation_fr hb
      · exact (addMove_fr hb).trans ((addOperation_fr hb).trans (addMove_fr hb))
theorem addLoad_fr {I : im_I} {c h b : Nat} {x d : Int32} (hb : b < c ∨ c + 4 < b) : addLoad_ I c h x d b = I b := by
  unfold addLoad_
  split
  · exact codeAdd_fr hb
  · exact codeAdd_fr hb
theorem bring_fr {I : im_I} {c h b : Nat} {x d : Int32} (hb : b < c ∨ c + 4 < b) : bring_ I c h x d b = I b := by
  unfold bring_
  split
  · exact addLoad_fr hb
  · exact addMove_fr hb
theorem fetch_fr {I : im_I} {c m r h b : Nat} {j : Int32} (hb : b < c ∨ c + 4 < b) : fetch_ I c m r h j b = I b := by
  unfold fetch_
  try simp only
  split
  · rfl
  · split
    · rfl
    · exact addLoad_fr hb
theorem makeTail_fr {I : im_I} {c h b : Nat} {x d : Int32} (hb : b < c ∨ c + 4 < b) : makeTail_ I c h x d b = I b := by
  unfold makeTail_
  split
  · exact codeAdd_fr hb
  · rfl
theorem makeBody_fr {I : im_I} {c m r b : Nat} {d x y z : Int32} (hb : b < c ∨ c + 4 < b) : makeBody_ I c m r d x y z b = I b := by
  unfold makeBody_
  try simp only
  split
  · exact codeAdd_fr hb
  · split
    · exact addMove_fr hb
    · split
      · exact operate_fr hb
      · exact operate_fr hb
theorem makeOne_fr {I : im_I} {c m r h b : Nat} (hb : b < c ∨ c + 4 < b) : makeOne_ I c m r h b = I b :=
  (makeTail_fr hb).trans ((makeBody_fr hb).trans ((fetch_fr hb).trans ((fetch_fr hb).trans (fetch_fr hb))))
theorem callMoves_fr {I : im_I} {c m h b : Nat} {x y : Int32} (hb : b < c ∨ c + 4 < b) : callMoves_ I c m h x y b = I b := by
  unfold callMoves_
  split
  · exact (addMove_fr hb).trans ((addMove_fr hb).trans (addMove_fr hb))
  · split
    · exact (bring_fr hb).trans (addMove_fr hb)
    · exact (bring_fr hb).trans (bring_fr hb)
theorem makeCall_fr {I : im_I} {c m r h b : Nat} (hb : b < c ∨ c + 4 < b) : makeCall_ I c m r h b = I b := by
  unfold makeCall_
  try simp only
  split
  · exact (codeAdd_fr hb).trans ((codeAdd_fr hb).trans (callMoves_fr hb))
  · exact (addMove_fr hb).trans ((codeAdd_fr hb).trans (callMoves_fr hb))
theorem make1_fr {I : im_I} {c b : Nat} {i : Int32} (hb : b < c ∨ c + 4 < b) : make1_ c i I b = I b := (put_fr (by omega)).trans (up_fr (by omega))
theorem makeStep_fr {I : im_I} {c m r h b : Nat} {i : Int32} (hb : b < c ∨ c + 4 < b) : makeStep_ c m r h i I b = I b := by
  unfold makeStep_
  try simp only
  split
  · exact (makeCall_fr hb).trans (make1_fr hb)
  · split
    · exact make1_fr hb
    · exact (makeOne_fr hb).trans (make1_fr hb)
theorem make_fr {I : im_I} {c m r h b : Nat} (hb : b < c ∨ c + 4 < b) : make_ I c m r h b = I b := (put_fr (by omega)).trans ((loopN_fr (fun _ _ => makeStep_fr hb) _ _ _).trans (up_fr (by omega)))
theorem loseOne_fr {I : im_I} {a m b : Nat} {i : Int32} (hb : b < a ∨ a + 4 < b) : loseOne_ a m i I b = I b := by
  unfold loseOne_
  split
  · rfl
  · exact (put_fr (by omega)).trans (put_fr (by omega))
theorem vp_eq {i j : Int32} {n : Nat} (h : i = j) (hj : vp_in j n) : vp_in i n := h ▸ hj
theorem op_toInt {x : Int32} (h1 : ¬ x < 0) (h2 : x < 528) : (4 * x).toInt = 4 * x.toInt := by
  rw [Int32.lt_iff_toInt_lt] at h1 h2
  have e0 : (0 : Int32).toInt = 0 := by decide
  have e5 : (528 : Int32).toInt = 528 := by decide
  have e4 : (4 : Int32).toInt = 4 := by decide
  rw [Int32.toInt_mul, e4]
  exact Int.bmod_eq_of_le (by omega) (by omega)
theorem vp_op0 {x : Int32} (h1 : ¬ x < 0) (h2 : x < 528) : vp_in (4 * x) 2112 := by
  rw [vp_in_iff, op_toInt h1 h2]
  rw [Int32.lt_iff_toInt_lt] at h1 h2
  have e0 : (0 : Int32).toInt = 0 := by decide
  have e5 : (528 : Int32).toInt = 528 := by decide
  omega
theorem vp_op {x j : Int32} (h1 : ¬ x < 0) (h2 : x < 528) (hj : 0 ≤ j.toInt) (hj2 : j.toInt ≤ 3) : vp_in (4 * x + j) 2112 := by
  have e := op_toInt h1 h2
  rw [Int32.lt_iff_toInt_lt] at h1 h2
  have e0 : (0 : Int32).toInt = 0 := by decide
  have e5 : (528 : Int32).toInt = 528 := by decide
  have e2 : (4 * x + j).toInt = 4 * x.toInt + j.toInt := by
    rw [Int32.toInt_add, e]
    exact Int.bmod_eq_of_le (by omega) (by omega)
  rw [vp_in_iff, e2]
  omega
