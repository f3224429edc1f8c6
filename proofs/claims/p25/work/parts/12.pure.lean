/-! WHAT THE METHODS ANSWER AND DO, as functions of the ints in memory (addresses as parts 11 has them) -/
def b2i (b : Bool) : Int32 := if b = true then 1 else 0
theorem b2i_t : b2i true = 1 := rfl
theorem b2i_f : b2i false = 0 := rfl
theorem b2i_0 {b : Bool} (h : b2i b = 0) : b = false := by cases b <;> simp_all [b2i]
theorem b2i_1 {b : Bool} (h : ¬ b2i b = 0) : b = true := by cases b <;> simp_all [b2i]
theorem b2i_n (b : Bool) : narrow .boolean (.int (b2i b)) = .int (b2i b) := by cases b <;> rfl
def loopN {σ : Type} : Nat → Int32 → (Int32 → σ → σ) → σ → σ
  | 0, _, _, s => s
  | n + 1, i, f, s => loopN n (i + 1) f (f i s)
termination_by n => n
/-- how often a loop from i while below e goes round -/
def cnt (i e : Int32) : Nat := (e.toInt - i.toInt).toNat
def loopC {σ : Type} (i e : Int32) (f : Int32 → σ → σ) (s : σ) : σ := loopN (cnt i e) i f s
def at_ (f : Nat → Int32) (n : Nat) (i : Int32) : Int32 := if i < 0 then -1 else if Int32.ofNat n ≤ i then -1 else f i.toNatClampNeg
def put_ (I : im_I) (x n : Nat) (i v : Int32) : im_I := if i < 0 then I else if Int32.ofNat n ≤ i then I else im_up I x i.toNatClampNeg v
def fillL_ (I : im_I) (x n : Nat) (v : Int32) : im_I := loopC 0 (Int32.ofNat n) (fun i J => im_up J x i.toNatClampNeg v) I
def isBelow_ (x e : Int32) : Bool := if x < 0 then false else if e ≤ x then false else true
def bit_ (k : Int32) : Int32 := if k < 0 then 0 else if 32 ≤ k then 0 else 1 <<< (k &&& 31)
def hasBit_ (s k : Int32) : Bool := if k < 0 then false else if 32 ≤ k then false else decide (s >>> (k &&& 31) &&& 1 = 1)
def isMachine_ (r kept : Int32) : Bool := if r < 5 then false else if 11 < r then false else if kept < 0 then false else decide (kept &&& ((bit_ (r - 3) - bit_ 2) ^^^ -1) = 0)
def mix_ (d v : Int64) : Int64 := d * 31 + v
-- Machine (5) at m: 0 registers 1 kept 2 small 3 fused 4 two; m+1 latencies
def scratch_ (I : im_I) (m : Nat) : Int32 := I m 0 - 3
def lkind_ (i : Int32) : Int32 := at_ im_lat 10 i
def cyclesOf_ (I : im_I) (m : Nat) (i : Int32) : Int32 := at_ (I (m + 1)) 8 (lkind_ i)
-- Program (8) at p: 0 nodeCount 1 statementCount 2 asked; +1 rounds +2 kinds +3 first +4 second +5 isPart +6 counts +7 variables +8 roots
def placeOf_ (b k : Int32) : Int32 := b * 24 + k
def isLoose_ (I : im_I) (p : Nat) (x : Int32) : Bool := if isBelow_ x (I p 0) = false then false else decide (at_ (I (p + 5)) 80 x = 0)
def statementsIn_ (I : im_I) (p : Nat) (b : Int32) : Int32 := at_ (I (p + 6)) 4 b
def variableOf_ (I : im_I) (p : Nat) (b k : Int32) : Int32 := at_ (I (p + 7)) 96 (placeOf_ b k)
def rootOf_ (I : im_I) (p : Nat) (b k : Int32) : Int32 := at_ (I (p + 8)) 96 (placeOf_ b k)
def roundsOf_ (I : im_I) (p : Nat) (b : Int32) : Int32 := if b = -1 then 1 else at_ (I (p + 1)) 4 b
-- Instructions (3) at a: 0 count; +1 kinds +2 writes +3 reads +4 numbers +5 blocks +6 heights
def kindOf_ (I : im_I) (a : Nat) (x : Int32) : Int32 := at_ (I (a + 1)) 88 x
def writtenBy_ (I : im_I) (a : Nat) (x : Int32) : Int32 := at_ (I (a + 2)) 88 x
def readBy_ (I : im_I) (a : Nat) (x j : Int32) : Int32 := at_ (I (a + 3)) 264 (3 * x + j)
def numberOf_ (I : im_I) (a : Nat) (x : Int32) : Int32 := at_ (I (a + 4)) 88 x
def blockOf_ (I : im_I) (a : Nat) (x : Int32) : Int32 := at_ (I (a + 5)) 88 x
def heightOf_ (I : im_I) (a : Nat) (x : Int32) : Int32 := at_ (I (a + 6)) 88 x
-- Machine
def beLike0_ (I : im_I) (a b : Nat) : im_I :=
  let I1 := im_up I a 0 (I b 0)
  let I2 := im_up I1 a 1 (I1 b 1)
  let I3 := im_up I2 a 2 (I2 b 2)
  let I4 := im_up I3 a 3 (I3 b 3)
  im_up I4 a 4 (I4 b 4)
def beLike_ (I : im_I) (a b : Nat) : im_I := loopC 0 8 (fun i J => put_ J (a + 1) 8 i (at_ (J (b + 1)) 8 i)) (beLike0_ I a b)
-- Program
def canBeNode_ (I : im_I) (p : Nat) (kd x y : Int32) : Bool :=
  if kd = 0 then (if x < -999 then false else if 999 < x then false else decide (y = 0))
  else if kd = 1 then (if isBelow_ x 8 = false then false else decide (y = 0))
  else if kd < 2 then false else if 5 < kd then false else if isLoose_ I p x = false then false else if isLoose_ I p y = false then false else decide (¬ x = y)
def addNode_ (I : im_I) (p : Nat) (kd x y : Int32) : im_I :=
  let nd := I p 0
  let I1 := put_ I (p + 2) 80 nd kd
  let I2 := put_ I1 (p + 3) 80 nd x
  let I3 := put_ I2 (p + 4) 80 nd y
  let I4 := put_ I3 (p + 5) 80 nd 0
  let I5 := if kd < 2 then I4 else put_ (put_ I4 (p + 5) 80 x 1) (p + 5) 80 y 1
  im_up I5 p 0 (I5 p 0 + 1)
def addStatement_ (I : im_I) (p : Nat) (b v nd : Int32) : im_I :=
  let c := statementsIn_ I p b
  let I1 := put_ I (p + 7) 96 (placeOf_ b c) v
  let I2 := put_ I1 (p + 8) 96 (placeOf_ b c) nd
  let I3 := put_ I2 (p + 5) 80 nd 1
  let I4 := put_ I3 (p + 6) 4 b (c + 1)
  im_up I4 p 1 (I4 p 1 + 1)
def looseCount_ (I : im_I) (p : Nat) : Int32 := loopC 0 (I p 0) (fun i c => if isLoose_ I p i = false then c else c + 1) 0
-- Meaning (6) at a: +1 variables +2 nodes; program 3
def valueOf_ (I : im_I) (a : Nat) (nd : Int32) : Int32 :=
  let x := at_ (I (3 + 3)) 80 nd
  let y := at_ (I (3 + 4)) 80 nd
  let kd := at_ (I (3 + 2)) 80 nd
  if kd = 0 then x else if kd = 1 then at_ (I (a + 1)) 8 x
  else if kd = 2 then at_ (I (a + 2)) 80 x + at_ (I (a + 2)) 80 y
  else if kd = 3 then at_ (I (a + 2)) 80 x - at_ (I (a + 2)) 80 y
  else if kd = 4 then at_ (I (a + 2)) 80 x * at_ (I (a + 2)) 80 y
  else 3 * at_ (I (a + 2)) 80 x + 2 * at_ (I (a + 2)) 80 y + 1
def workNodes_ (I : im_I) (a : Nat) (root : Int32) : im_I := loopC 0 (root + 1) (fun i J => put_ J (a + 2) 80 i (valueOf_ J a i)) I
def workOne_ (a : Nat) (b i : Int32) (I : im_I) : im_I :=
  let J := workNodes_ I a (rootOf_ I 3 b i)
  put_ J (a + 1) 8 (variableOf_ J 3 b i) (at_ (J (a + 2)) 80 (rootOf_ I 3 b i))
def workBlock_ (I : im_I) (a : Nat) (b : Int32) : im_I := loopC 0 (statementsIn_ I 3 b) (workOne_ a b) I
def workRounds_ (a : Nat) (b : Int32) (I : im_I) : im_I := loopC 0 (roundsOf_ I 3 b) (fun _ J => workBlock_ J a b) I
def work_ (I : im_I) (a : Nat) : im_I := loopC 0 4 (workRounds_ a) (fillL_ I (a + 1) 8 0)
-- Instructions
def add_ (I : im_I) (a : Nat) (kd v b : Int32) : im_I :=
  if 88 ≤ I a 0 then I else
  let I1 := put_ I (a + 1) 88 (I a 0) kd
  let I2 := put_ I1 (a + 2) 88 (I1 a 0) v
  let I3 := put_ I2 (a + 4) 88 (I2 a 0) 0
  let I4 := put_ I3 (a + 5) 88 (I3 a 0) b
  let I5 := put_ I4 (a + 6) 88 (I4 a 0) 0
  im_up I5 a 0 (I5 a 0 + 1)
def setReads_ (I : im_I) (a : Nat) (x y z : Int32) : im_I :=
  let p := 3 * (I a 0 - 1)
  let I1 := put_ I (a + 3) 264 p x
  let I2 := put_ I1 (a + 3) 264 (p + 1) y
  put_ I2 (a + 3) 264 (p + 2) z
def setNumber_ (I : im_I) (a : Nat) (x : Int32) : im_I := put_ I (a + 4) 88 (I a 0 - 1) x
def setHeight_ (I : im_I) (a : Nat) (pt x : Int32) : im_I := put_ I (a + 6) 88 pt x
def addCopy_ (I : im_I) (a b : Nat) (pt : Int32) : im_I :=
  let I1 := add_ I a (kindOf_ I b pt) (writtenBy_ I b pt) (blockOf_ I b pt)
  let I2 := setReads_ I1 a (readBy_ I1 b pt 0) (readBy_ I1 b pt 1) (readBy_ I1 b pt 2)
  let I3 := setNumber_ I2 a (numberOf_ I2 b pt)
  setHeight_ I3 a (I3 a 0 - 1) (heightOf_ I3 b pt)
def isReading_ (I : im_I) (a : Nat) (pt v : Int32) : Bool :=
  let p := 3 * pt
  if at_ (I (a + 3)) 264 p = v then true else if at_ (I (a + 3)) 264 (p + 1) = v then true else decide (at_ (I (a + 3)) 264 (p + 2) = v)
-- Choice (0) at c, machine m, program 3: 10 pendingCount 11 nextValue; +1 costs +2 kinds +3 numbers +4 reads +5 parts +6 values +7 pending +8 sequence
def setNodes_ (I : im_I) (x n : Nat) (nd f s t : Int32) : im_I :=
  let I1 := put_ I x n (3 * nd) f
  let I2 := put_ I1 x n (3 * nd + 1) s
  put_ I2 x n (3 * nd + 2) t
def coverLeaf_ (I : im_I) (c m : Nat) (nd kd : Int32) : im_I :=
  let I1 := setNodes_ I (c + 4) 240 nd (-1) (-1) (-1)
  let I2 := setNodes_ I1 (c + 5) 240 nd (-1) (-1) (-1)
  if kd = 1 then put_ (put_ I2 (c + 2) 80 nd 1) (c + 1) 80 nd 0
  else
    let I3 := put_ I2 (c + 2) 80 nd 0
    let I4 := put_ I3 (c + 1) 80 nd (cyclesOf_ I3 m 0)
    put_ I4 (c + 3) 80 nd (at_ (I4 (3 + 3)) 80 nd)
def coverPlain_ (I : im_I) (c m : Nat) (nd ins : Int32) : im_I :=
  let a := at_ (I (3 + 3)) 80 nd
  let b := at_ (I (3 + 4)) 80 nd
  let I1 := put_ I (c + 2) 80 nd ins
  let I2 := put_ I1 (c + 1) 80 nd (cyclesOf_ I1 m ins + at_ (I1 (c + 1)) 80 a + at_ (I1 (c + 1)) 80 b)
  let I3 := setNodes_ I2 (c + 4) 240 nd a b (-1)
  setNodes_ I3 (c + 5) 240 nd a b (-1)
def isSmall_ (I : im_I) (m : Nat) (nd : Int32) : Bool :=
  let x := at_ (I (3 + 3)) 80 nd
  if ¬ at_ (I (3 + 2)) 80 nd = 0 then false else if x < -(I m 2) then false else if I m 2 < x then false else true
def coverSmallBy_ (I : im_I) (c m : Nat) (nd kd rd ot : Int32) : im_I :=
  let price := cyclesOf_ I m 5 + at_ (I (c + 1)) 80 rd
  if at_ (I (c + 1)) 80 nd ≤ price then I else
  let num := at_ (I (3 + 3)) 80 ot
  let I1 := put_ I (c + 2) 80 nd 5
  let I2 := put_ I1 (c + 1) 80 nd price
  let I3 := put_ I2 (c + 3) 80 nd (if kd = 3 then -num else num)
  let I4 := setNodes_ I3 (c + 4) 240 nd rd (-1) (-1)
  setNodes_ I4 (c + 5) 240 nd rd (-1) (-1)
def coverSmall_ (I : im_I) (c m : Nat) (nd kd : Int32) : im_I :=
  let a := at_ (I (3 + 3)) 80 nd
  let b := at_ (I (3 + 4)) 80 nd
  if (kd = 2 ∨ kd = 3) ∧ isSmall_ I m b = true then coverSmallBy_ I c m nd kd a b
  else if kd = 2 ∧ isSmall_ I m a = true then coverSmallBy_ I c m nd kd b a
  else I
def coverFusedBy_ (I : im_I) (c m : Nat) (nd mul z : Int32) (first : Bool) : im_I :=
  let x := at_ (I (3 + 3)) 80 mul
  let y := at_ (I (3 + 4)) 80 mul
  let price := cyclesOf_ I m 6 + at_ (I (c + 1)) 80 x + at_ (I (c + 1)) 80 y + at_ (I (c + 1)) 80 z
  if at_ (I (c + 1)) 80 nd ≤ price then I else
  let I1 := put_ I (c + 2) 80 nd 6
  let I2 := put_ I1 (c + 1) 80 nd price
  let I3 := put_ I2 (c + 3) 80 nd 0
  let I4 := setNodes_ I3 (c + 4) 240 nd x y z
  if first = true then setNodes_ I4 (c + 5) 240 nd x y z else setNodes_ I4 (c + 5) 240 nd z x y
def coverFused_ (I : im_I) (c m : Nat) (nd kd : Int32) : im_I :=
  let a := at_ (I (3 + 3)) 80 nd
  let b := at_ (I (3 + 4)) 80 nd
  if I m 3 = 0 then I else if ¬ kd = 2 then I
  else if at_ (I (3 + 2)) 80 a = 4 then coverFusedBy_ I c m nd a b true
  else if at_ (I (3 + 2)) 80 b = 4 then coverFusedBy_ I c m nd b a false
  else I
def coverOne_ (c m : Nat) (nd : Int32) (I : im_I) : im_I :=
  let kd := at_ (I (3 + 2)) 80 nd
  let I1 := put_ I (c + 3) 80 nd 0
  if kd < 2 then coverLeaf_ I1 c m nd kd
  else coverFused_ (coverSmall_ (coverPlain_ I1 c m nd (if kd = 5 then 9 else kd)) c m nd kd) c m nd kd
def coverAll_ (I : im_I) (c m : Nat) : im_I := loopC 0 (I 3 0) (coverOne_ c m) (im_up I c 11 8)
def push_ (I : im_I) (c : Nat) (nd : Int32) : im_I :=
  if nd = -1 then I else
  let I1 := put_ I (c + 7) 80 (I c 10) nd
  im_up I1 c 10 (I1 c 10 + 1)
def gatherOne_ (c : Nat) (count : Int32) (I : im_I) : im_I :=
  let I1 := im_up I c 10 (I c 10 - 1)
  let nd := at_ (I1 (c + 7)) 80 (I1 c 10)
  let I2 := put_ I1 (c + 8) 80 count nd
  loopC 0 3 (fun j J => push_ J c (at_ (J (c + 5)) 240 (3 * nd + j))) I2
/-- gather's loop, n times at most: how many there are then, and the memory -/
def gatherN_ (c : Nat) : Nat → Int32 → im_I → Int32 × im_I
  | 0, count, I => (count, I)
  | n + 1, count, I => if I c 10 ≤ 0 then (count, I) else if 80 ≤ count then (count, I) else gatherN_ c n (count + 1) (gatherOne_ c count I)
termination_by n => n
def gather_ (I : im_I) (c : Nat) (root : Int32) : Int32 × im_I := gatherN_ c 81 0 (push_ (im_up I c 10 0) c root)
def valueRead_ (I : im_I) (c : Nat) (nd j : Int32) : Int32 := at_ (I (c + 6)) 80 (at_ (I (c + 4)) 240 (3 * nd + j))
def emit_ (I : im_I) (c r : Nat) (nd v b : Int32) : im_I :=
  let kd := at_ (I (c + 2)) 80 nd
  let I1 := add_ I r kd v b
  let I2 := setNumber_ I1 r (at_ (I1 (c + 3)) 80 nd)
  if kd = 1 then setReads_ I2 r (at_ (I2 (3 + 3)) 80 nd) (-1) (-1)
  else setReads_ I2 r (valueRead_ I2 c nd 0) (valueRead_ I2 c nd 1) (valueRead_ I2 c nd 2)
def chooseOne_ (c r : Nat) (b i : Int32) (I : im_I) : im_I :=
  let nd := at_ (I (c + 8)) 80 i
  if at_ (I (3 + 2)) 80 nd = 1 then put_ I (c + 6) 80 nd (at_ (I (3 + 3)) 80 nd)
  else
    let I1 := put_ I (c + 6) 80 nd (I c 11)
    let I2 := emit_ I1 c r nd (I1 c 11) b
    im_up I2 c 11 (I2 c 11 + 1)
/-- from i down to 1 -/
def downN {σ : Type} : Nat → Int32 → (Int32 → σ → σ) → σ → σ
  | 0, _, _, s => s
  | n + 1, i, f, s => downN n (i + -1) f (f i s)
termination_by n => n
/-- how often a loop from i down to e goes round -/
def cntD (i e : Int32) : Nat := (i.toInt + 1 - e.toInt).toNat
def downC {σ : Type} (i e : Int32) (f : Int32 → σ → σ) (s : σ) : σ := downN (cntD i e) i f s
def chooseStatement_ (I : im_I) (c r : Nat) (b j : Int32) : im_I :=
  let g := gather_ I c (rootOf_ I 3 b j)
  let J := downC (g.1 - 1) 1 (chooseOne_ c r b) g.2
  emit_ J c r (at_ (J (c + 8)) 80 0) (variableOf_ J 3 b j) b
-- Plan (7) at a, machine m: choice a+1, lines a+10, lives a+17, starts a+26, raw a+27, rawStarts a+34, missing a+35
def chooseBlock_ (a : Nat) (b : Int32) (I : im_I) : im_I :=
  let I1 := put_ I (a + 34) 5 b (I (a + 27) 0)
  loopC 0 (statementsIn_ I1 3 b) (fun j J => chooseStatement_ J (a + 1) (a + 27) b j) I1
def chooseAll_ (I : im_I) (a : Nat) : im_I :=
  let J := loopC 0 4 (chooseBlock_ a) (im_up I (a + 27) 0 0)
  put_ J (a + 34) 5 4 (J (a + 27) 0)
def variableBit_ (v : Int32) : Int32 := if isBelow_ v 8 = false then 0 else bit_ v
/-- (early, written) -/
def earlyOne_ (I : im_I) (r : Nat) (i : Int32) (s : Int32 × Int32) : Int32 × Int32 :=
  let e := loopC 0 3 (fun j e => e ||| (variableBit_ (readBy_ I r i j) &&& (s.2 ^^^ -1))) s.1
  (e, s.2 ||| variableBit_ (writtenBy_ I r i))
def earlyVariables_ (I : im_I) (a : Nat) : Int32 :=
  let s := loopC 0 (I (a + 27) 0) (earlyOne_ I (a + 27)) (0, 0)
  s.1 ||| (I 3 2 &&& (s.2 ^^^ -1))
def addEntryOne_ (a : Nat) (early v : Int32) (I : im_I) : im_I :=
  if hasBit_ early v = false then I else setReads_ (add_ I (a + 10) 0 v (-1)) (a + 10) (-1) (-1) (-1)
def addEntry_ (I : im_I) (a : Nat) : im_I := loopC 0 8 (addEntryOne_ a (earlyVariables_ I a)) I
def isNeeding_ (I : im_I) (r : Nat) (x y : Int32) : Bool :=
  if isReading_ I r x (writtenBy_ I r y) = true then true else if isReading_ I r y (writtenBy_ I r x) = true then true
  else if writtenBy_ I r x = writtenBy_ I r y then true else if ¬ kindOf_ I r x = 9 then false else decide (kindOf_ I r y = 9)
def aboveOf_ (I : im_I) (r : Nat) (i t : Int32) : Int32 :=
  loopC (i + 1) t (fun j ab => if heightOf_ I r j ≤ ab then ab else if isNeeding_ I r j i = false then ab else heightOf_ I r j) 0
def heightOne_ (a m : Nat) (t i : Int32) (I : im_I) : im_I := setHeight_ I (a + 27) i (cyclesOf_ I m (kindOf_ I (a + 27) i) + aboveOf_ I (a + 27) i t)
def measureHeights_ (I : im_I) (a m : Nat) (f t : Int32) : im_I := downC (t - 1) f (heightOne_ a m t) I
def placeAsChosen_ (I : im_I) (a : Nat) (f t : Int32) : im_I := loopC f t (fun i J => addCopy_ J (a + 10) (a + 27) i) I
def neededOf_ (I : im_I) (r : Nat) (f j : Int32) : Int32 := loopC f j (fun i c => if isNeeding_ I r j i = false then c else c + 1) 0
def countMissing_ (I : im_I) (a : Nat) (f t : Int32) : im_I := loopC f t (fun j J => put_ J (a + 35) 88 j (neededOf_ J (a + 27) f j)) I
def highestReady_ (I : im_I) (a : Nat) (f t : Int32) : Int32 :=
  loopC f t (fun i b => if ¬ at_ (I (a + 35)) 88 i = 0 then b else if b = -1 then i else if heightOf_ I (a + 27) i ≤ heightOf_ I (a + 27) b then b else i) (-1)
def lessOne_ (a : Nat) (best j : Int32) (I : im_I) : im_I := if isNeeding_ I (a + 27) j best = false then I else put_ I (a + 35) 88 j (at_ (I (a + 35)) 88 j - 1)
def placeN_ (a : Nat) (f t : Int32) : Nat → Int32 → im_I → im_I
  | 0, _, I => I
  | n + 1, i, I =>
    let best := highestReady_ I a f t
    if best = -1 then I else
    let I1 := addCopy_ I (a + 10) (a + 27) best
    let I2 := put_ I1 (a + 35) 88 best (-1)
    placeN_ a f t n (i + 1) (loopC (best + 1) t (lessOne_ a best) I2)
termination_by n => n
def placeByHeight_ (I : im_I) (a : Nat) (f t : Int32) : im_I := placeN_ a f t (cnt f t) f (countMissing_ I a f t)
-- Lives (4) at a, program 3: 0 valueCount 1 livingCount 2 callCount; +1 firsts +2 lasts +3 sums +4 weights +5 writes +6 reads +7 crossed +8 callPoints
def max_ (x y : Int32) : Int32 := if x < y then y else x
def touchValue_ (I : im_I) (a : Nat) (v pt t : Int32) : im_I :=
  let I1 := im_up I a 0 (max_ (I a 0) (v + 1))
  let I2 := put_ I1 (a + 2) 88 v pt
  put_ I2 (a + 3) 88 v (at_ (I2 (a + 3)) 88 v + t)
def touchRead_ (a r : Nat) (pt t j : Int32) (I : im_I) : im_I :=
  let rd := readBy_ I r pt j
  if rd = -1 then I else touchValue_ (put_ I (a + 6) 88 rd (at_ (I (a + 6)) 88 rd + 1)) a rd pt t
def touch1_ (I : im_I) (a r : Nat) (pt : Int32) : im_I :=
  let v := writtenBy_ I r pt
  if at_ (I (a + 1)) 88 v = -1 then put_ I (a + 1) 88 v pt else I
def touch2_ (I : im_I) (a r : Nat) (pt : Int32) : im_I :=
  let t := roundsOf_ I 3 (blockOf_ I r pt)
  let v := writtenBy_ I r pt
  let I1 := touch1_ I a r pt
  let I2 := put_ I1 (a + 5) 88 v (at_ (I1 (a + 5)) 88 v + 1)
  touchValue_ I2 a v pt t
def touch_ (I : im_I) (a r : Nat) (pt : Int32) : im_I :=
  let I4 := loopC 0 3 (touchRead_ a r pt (roundsOf_ I 3 (blockOf_ I r pt))) (touch2_ I a r pt)
  if kindOf_ I4 r pt = 9 then
    let I5 := put_ I4 (a + 8) 88 (I4 a 2) pt
    im_up I5 a 2 (I5 a 2 + 1)
  else I4
def firstOf_ (I : im_I) (a : Nat) (v : Int32) : Int32 := at_ (I (a + 1)) 88 v
def lastOf_ (I : im_I) (a : Nat) (v : Int32) : Int32 := at_ (I (a + 2)) 88 v
def weightOf_ (I : im_I) (a : Nat) (v : Int32) : Int32 := at_ (I (a + 4)) 88 v
def crossedBy_ (I : im_I) (a : Nat) (v : Int32) : Int32 := at_ (I (a + 7)) 88 v
def writesOf_ (I : im_I) (a : Nat) (v : Int32) : Int32 := at_ (I (a + 5)) 88 v
def touchesOf_ (I : im_I) (a : Nat) (v : Int32) : Int32 := at_ (I (a + 5)) 88 v + at_ (I (a + 6)) 88 v
def pointOfCall_ (I : im_I) (a : Nat) (c : Int32) : Int32 := at_ (I (a + 8)) 88 c
def isLiving_ (I : im_I) (a : Nat) (v : Int32) : Bool := if isBelow_ v 88 = false then false else decide (¬ at_ (I (a + 1)) 88 v = -1)
def isCrossing_ (I : im_I) (a : Nat) (v pt : Int32) : Bool := if isLiving_ I a v = false then false else if pt ≤ firstOf_ I a v then false else if lastOf_ I a v ≤ pt then false else true
def endOf_ (I : im_I) (a r x n : Nat) (v : Int32) : Int32 :=
  if v < 8 ∧ hasBit_ (I 3 2) v = true then I r 0 else
  let last := lastOf_ I a v
  let b := blockOf_ I r last
  if ¬ b = -1 ∧ 1 < roundsOf_ I 3 b ∧ firstOf_ I a v < at_ (I x) n b then at_ (I x) n (b + 1) else last
def weigh_ (I : im_I) (a : Nat) (v : Int32) : Int32 :=
  let pts := lastOf_ I a v - firstOf_ I a v + 1
  if pts ≤ 0 then 0 else 100 * at_ (I (a + 3)) 88 v / pts
def countCrossed_ (I : im_I) (a : Nat) (v : Int32) : Int32 := loopC 0 (I a 2) (fun i c => if isCrossing_ I a v (at_ (I (a + 8)) 88 i) = false then c else c + 1) 0
def livingAt_ (I : im_I) (a : Nat) (pt : Int32) : Int32 := loopC 0 (I a 0) (fun v c => if isLiving_ I a v = true ∧ firstOf_ I a v ≤ pt ∧ pt ≤ lastOf_ I a v then c + 1 else c) 0
def mostAtOnce_ (I : im_I) (a : Nat) (e : Int32) : Int32 := loopC 0 (e + 1) (fun pt m => max_ m (livingAt_ I a pt)) 0
def measure0_ (I : im_I) (a : Nat) : im_I :=
  let I1 := im_up (im_up (im_up I a 0 0) a 1 0) a 2 0
  fillL_ (fillL_ (fillL_ (fillL_ I1 (a + 1) 88 (-1)) (a + 3) 88 0) (a + 5) 88 0) (a + 6) 88 0
def measure1_ (I : im_I) (a r : Nat) : im_I := loopC 0 (I r 0) (fun i J => touch_ J a r i) (measure0_ I a)
def measureOne_ (a r x n : Nat) (v : Int32) (I : im_I) : im_I :=
  if isLiving_ I a v = false then I else
  let I1 := im_up I a 1 (I a 1 + 1)
  let I2 := put_ I1 (a + 2) 88 v (endOf_ I1 a r x n v)
  let I3 := put_ I2 (a + 4) 88 v (weigh_ I2 a v)
  put_ I3 (a + 7) 88 v (countCrossed_ I3 a v)
def measure_ (I : im_I) (a r x n : Nat) : im_I := loopC 0 (measure1_ I a r a 0) (measureOne_ a r x n) (measure1_ I a r)
