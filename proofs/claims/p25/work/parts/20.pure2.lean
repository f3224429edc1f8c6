/-! pure functions, second part: Homes (2) at h, machine m: 0 spilledCount 1 remadeCount 2 slotCount 3 frame; +1 registers +2 slots +3 isMadeAnew +4 numbers +5 isSlotTaken; lines r, lives v -/
def ushr_ (x y : Int32) : Int32 := (x.toUInt32 >>> (y.toUInt32 &&& Int32.toUInt32 31)).toInt32
def bitCount_ (x0 : Int32) : Int32 :=
  let x1 := x0 - (ushr_ x0 1 &&& 1431655765)
  let x2 := (x1 &&& 858993459) + (ushr_ x1 2 &&& 858993459)
  let x3 := (x2 + ushr_ x2 4) &&& 252645135
  let x4 := x3 + ushr_ x3 8
  let x5 := x4 + ushr_ x4 16
  x5 &&& 63
def isBirth_ (I : im_I) (r v : Nat) (pt : Int32) : Bool := decide (firstOf_ I v (writtenBy_ I r pt) = pt)
def registerOf_ (I : im_I) (h : Nat) (x : Int32) : Int32 := at_ (I (h + 1)) 88 x
def slotOf_ (I : im_I) (h : Nat) (x : Int32) : Int32 := at_ (I (h + 2)) 88 x
def isSpilled_ (I : im_I) (h : Nat) (x : Int32) : Bool := decide (at_ (I (h + 1)) 88 x = -1)
def isRemade_ (I : im_I) (h : Nat) (x : Int32) : Bool := decide (at_ (I (h + 3)) 88 x = 1)
def homeNumberOf_ (I : im_I) (h : Nat) (x : Int32) : Int32 := at_ (I (h + 4)) 88 x
def takenOne_ (I : im_I) (h v : Nat) (pt i t : Int32) : Int32 :=
  let g := at_ (I (h + 1)) 88 i
  if g = -1 then t else if lastOf_ I v i ≤ pt then t else t ||| bit_ g
def takenBehind_ (I : im_I) (h v : Nat) (pt : Int32) : Int32 := loopC 0 (I v 0) (takenOne_ I h v pt) 0
def likedRegister_ (I : im_I) (h m r : Nat) (pt : Int32) : Int32 :=
  let kd := kindOf_ I r pt
  if kd = 1 ∨ ¬ I m 4 = 0 ∧ (kd = 2 ∨ kd = 3 ∨ kd = 4) then registerOf_ I h (readBy_ I r pt 0) else -1
def smallN_ (s : Int32) : Nat → Int32 → Int32
  | 0, k => k
  | n + 1, k => if hasBit_ s k = true then k else smallN_ s n (k + 1)
termination_by n => n
def smallestOf_ (s : Int32) : Int32 := smallN_ s (cnt 0 11) 0
def isLighter_ (I : im_I) (v : Nat) (x y : Int32) : Bool :=
  let d := at_ (I (v + 4)) 88 x - at_ (I (v + 4)) 88 y
  decide (d < 0 ∨ d = 0 ∧ y < x)
def worstOne_ (I : im_I) (h v : Nat) (pt al o w : Int32) : Int32 :=
  if hasBit_ al (at_ (I (h + 1)) 88 o) = true ∧ pt < lastOf_ I v o ∧ isLighter_ I v o w = true then o else w
def worstOf_ (I : im_I) (h v : Nat) (x al : Int32) : Int32 := loopC 0 (I v 0) (worstOne_ I h v (firstOf_ I v x) al) x
def spillOne_ (I : im_I) (h v : Nat) (x al : Int32) : im_I :=
  let w := worstOf_ I h v x al
  if w = x then I else put_ (put_ I (h + 1) 88 x (at_ (I (h + 1)) 88 w)) (h + 1) 88 w (-1)
def giveRegister_ (I : im_I) (h m r v : Nat) (pt : Int32) : im_I :=
  let x := writtenBy_ I r pt
  let al := if crossedBy_ I v x ≤ 0 then bit_ (scratch_ I m) - 1 else I m 1
  let fr := al &&& (takenBehind_ I h v pt ^^^ -1)
  if fr = 0 then spillOne_ I h v x al else
  let lk := likedRegister_ I h m r pt
  put_ I (h + 1) 88 x (if hasBit_ fr lk = false then smallestOf_ fr else lk)
def markOne_ (h v : Nat) (pt i : Int32) (J : im_I) : im_I :=
  if at_ (J (h + 2)) 88 i = -1 then J else if lastOf_ J v i < pt then J else put_ J (h + 5) 88 (at_ (J (h + 2)) 88 i) 1
def freeN_ (J : im_I) (h : Nat) : Nat → Int32 → Int32
  | 0, k => k
  | n + 1, k => if at_ (J (h + 5)) 88 k = 1 then freeN_ J h n (k + 1) else k
termination_by n => n
def markAll_ (I : im_I) (h v : Nat) (pt : Int32) : im_I := loopC 0 (I v 0) (markOne_ h v pt) (fillL_ I (h + 5) 88 0)
def firstSlotFree_ (I : im_I) (h v : Nat) (pt : Int32) : Int32 := freeN_ (markAll_ I h v pt) h (cnt 0 88) 0
def giveSlot_ (I : im_I) (h r v : Nat) (pt : Int32) : im_I :=
  let x := writtenBy_ I r pt
  if writesOf_ I v x = 1 ∧ kindOf_ I r pt = 0 then
    let I1 := put_ I (h + 3) 88 x 1
    let I2 := put_ I1 (h + 4) 88 x (numberOf_ I1 r pt)
    im_up I2 h 1 (I2 h 1 + 1)
  else
    let s := firstSlotFree_ I h v pt
    let I1 := put_ (markAll_ I h v pt) (h + 2) 88 x s
    im_up I1 h 2 (max_ (I1 h 2) (s + 1))
def keptInUse_ (I : im_I) (h m : Nat) (n : Int32) : Int32 := bitCount_ (loopC 0 n (fun i u => u ||| bit_ (at_ (I (h + 1)) 88 i)) 0 &&& I m 1)
def give0_ (I : im_I) (h : Nat) : im_I := fillL_ (fillL_ (fillL_ (im_up (im_up (im_up I h 0 0) h 1 0) h 2 0) (h + 1) 88 (-1)) (h + 2) 88 (-1)) (h + 3) 88 0
def giveROne_ (h m r v : Nat) (pt : Int32) (J : im_I) : im_I := if isBirth_ J r v pt = false then J else giveRegister_ J h m r v pt
def giveSOne_ (h r v : Nat) (pt : Int32) (J : im_I) : im_I :=
  if isBirth_ J r v pt = false then J else if isSpilled_ J h (writtenBy_ J r pt) = false then J else giveSlot_ (im_up J h 0 (J h 0 + 1)) h r v pt
def give1_ (I : im_I) (h m r v : Nat) : im_I := loopC 0 (I r 0) (giveROne_ h m r v) (give0_ I h)
def give2_ (I : im_I) (h m r v : Nat) : im_I := loopC 0 (I r 0) (giveSOne_ h r v) (give1_ I h m r v)
def give_ (I : im_I) (h m r v : Nat) : im_I :=
  let I2 := give2_ I h m r v
  let I3 := im_up I2 h 3 (I2 h 2 + keptInUse_ I2 h m (I2 v 0))
  im_up I3 h 3 (I3 h 3 + (I3 h 3 &&& 1))
theorem smallN_0 {s k : Int32} : smallN_ s 0 k = k := by rw [smallN_]
theorem smallN_s {s k : Int32} {n : Nat} : smallN_ s (n + 1) k = if hasBit_ s k = true then k else smallN_ s n (k + 1) := by rw [smallN_]
theorem freeN_0 {J : im_I} {h : Nat} {k : Int32} : freeN_ J h 0 k = k := by rw [freeN_]
theorem freeN_s {J : im_I} {h : Nat} {k : Int32} {n : Nat} : freeN_ J h (n + 1) k = if at_ (J (h + 5)) 88 k = 1 then freeN_ J h n (k + 1) else k := by rw [freeN_]
theorem spillOne_fr {I : im_I} {h v b : Nat} {x al : Int32} (hb : b < h ∨ h + 5 < b) : spillOne_ I h v x al b = I b := by
  unfold spillOne_
  try simp only
  split
  · rfl
  · exact (put_fr (by omega)).trans (put_fr (by omega))
theorem giveRegister_fr {I : im_I} {h m r v b : Nat} {pt : Int32} (hb : b < h ∨ h + 5 < b) : giveRegister_ I h m r v pt b = I b := by
  have key : ∀ (c : Prop) (_ : Decidable c) (x al y : Int32) (n : Nat), (if c then spillOne_ I h v x al else put_ I (h + 1) n x y) b = I b := by
    intro c _ x al y n
    split
    · exact spillOne_fr hb
    · exact put_fr (by omega)
  exact key _ _ _ _ _ _
theorem markOne_fr {I : im_I} {h v b : Nat} {pt i : Int32} (hb : b < h ∨ h + 4 < b ∧ ¬ b = h + 5) : markOne_ h v pt i I b = I b := by
  unfold markOne_
  split
  · rfl
  · split
    · rfl
    · exact put_fr (by omega)
theorem markAll_fr {I : im_I} {h v b : Nat} {pt : Int32} (hb : b < h ∨ h + 5 < b) : markAll_ I h v pt b = I b :=
  (loopN_fr (fun _ _ => markOne_fr (by omega)) _ _ _).trans (fillL_fr (by omega))
theorem giveSlot_fr {I : im_I} {h r v b : Nat} {pt : Int32} (hb : b < h ∨ h + 5 < b) : giveSlot_ I h r v pt b = I b := by
  unfold giveSlot_
  try simp only
  split
  · exact (up_fr (by omega)).trans ((put_fr (by omega)).trans (put_fr (by omega)))
  · exact (up_fr (by omega)).trans ((put_fr (by omega)).trans (markAll_fr hb))
theorem give0_fr {I : im_I} {h b : Nat} (hb : b < h ∨ h + 5 < b) : give0_ I h b = I b :=
  (fillL_fr (by omega)).trans ((fillL_fr (by omega)).trans ((fillL_fr (by omega)).trans ((up_fr (by omega)).trans ((up_fr (by omega)).trans (up_fr (by omega))))))
theorem giveROne_fr {I : im_I} {h m r v b : Nat} {pt : Int32} (hb : b < h ∨ h + 5 < b) : giveROne_ h m r v pt I b = I b := by
  unfold giveROne_
  split
  · rfl
  · exact giveRegister_fr hb
theorem giveSOne_fr {I : im_I} {h r v b : Nat} {pt : Int32} (hb : b < h ∨ h + 5 < b) : giveSOne_ h r v pt I b = I b := by
  unfold giveSOne_
  split
  · rfl
  · split
    · rfl
    · exact (giveSlot_fr hb).trans (up_fr (by omega))
theorem give1_fr {I : im_I} {h m r v b : Nat} (hb : b < h ∨ h + 5 < b) : give1_ I h m r v b = I b := (loopN_fr (fun _ _ => giveROne_fr hb) _ _ _).trans (give0_fr hb)
theorem give2_fr {I : im_I} {h m r v b : Nat} (hb : b < h ∨ h + 5 < b) : give2_ I h m r v b = I b := (loopN_fr (fun _ _ => giveSOne_fr hb) _ _ _).trans (give1_fr hb)
theorem give_fr {I : im_I} {h m r v b : Nat} (hb : b < h ∨ h + 5 < b) : give_ I h m r v b = I b := (up_fr (by omega)).trans ((up_fr (by omega)).trans (give2_fr hb))
