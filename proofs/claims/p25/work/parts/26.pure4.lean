/-! the class SpillslotWorks itself, as pure functions: object at a; Program 3, Meaning 12, machines 15 and 17, plans 19 and 55, works 91 and 108 -/
def forget_ (I : im_I) (a : Nat) : im_I := im_up (im_up I a 8 0) a 9 0
def rebuilt_ (I : im_I) : im_I := worksBuild_ (build_ I 19 15 1) 91 15 19
def builtNow_ (I : im_I) (a : Nat) : im_I := if I a 8 = 0 then im_up (rebuilt_ I) a 8 1 else I
def meantNow_ (I : im_I) (a : Nat) : im_I := if I a 9 = 0 then im_up (work_ I 12) a 9 1 else I
def builtWith_ (I : im_I) (r k t : Int32) : im_I := worksBuild_ (im_up (im_up (im_up (beLike_ I 17 15) 17 0 r) 17 1 k) 17 4 t) 108 17 19
def fewOne_ (r : Int32) (J : im_I) : im_I :=
  let J1 := im_up J 17 0 r
  let J2 := im_up J1 17 1 (J1 15 1 &&& (bit_ (scratch_ J1 17) - 1))
  give_ J2 109 17 29 36
def fewN_ : Nat → Int32 → im_I → Int32 × im_I
  | 0, _, J => (-1, J)
  | n + 1, i, J => if fewOne_ i J 109 0 = 0 then (i, fewOne_ i J) else fewN_ n (i + 1) (fewOne_ i J)
termination_by n => n
def few_ (I : im_I) : Int32 × im_I := fewN_ (cnt 5 (11 + 1)) 5 (beLike_ I 17 15)
theorem fewN_0 {i : Int32} {J : im_I} : fewN_ 0 i J = (-1, J) := by rw [fewN_]
theorem fewN_s {n : Nat} {i : Int32} {J : im_I} : fewN_ (n + 1) i J = if fewOne_ i J 109 0 = 0 then (i, fewOne_ i J) else fewN_ n (i + 1) (fewOne_ i J) := by rw [fewN_]
def unordM_ (I : im_I) : im_I := worksBuild_ (build_ (beLike_ I 17 15) 55 17 0) 108 17 55
def wouldM_ (I : im_I) (kd cy : Int32) : im_I := worksBuild_ (build_ (put_ (beLike_ I 17 15) 18 8 kd cy) 55 17 1) 108 17 55
def mixVar1_ (I : im_I) (i : Int32) (d : Int64) : Int64 := mix_ d (at_ (I 13) 8 i).toInt64
def mixVar2_ (I : im_I) (b : Nat) (i : Int32) (d : Int64) : Int64 := if hasBit_ (I 3 2) i = false then d else mix_ d (tellAnswer_ I b 19 i).toInt64
def mixVariables_ (I : im_I) (b : Nat) (d : Int64) : Int64 := loopC 0 8 (mixVar2_ I b) (loopC 0 8 (mixVar1_ I) d)
def mixLine_ (I : im_I) (p : Int32) (d : Int64) : Int64 := loopC 0 8 (fun w d => mix_ d (tellLine_ I 19 p w).toInt64) d
def mixLines_ (I : im_I) (d : Int64) : Int64 := loopC 0 (I 29 0) (mixLine_ I) d
def mixValue_ (I : im_I) (b : Nat) (v : Int32) (d : Int64) : Int64 := if isLiving_ I 36 v = false then d else loopC 0 8 (fun w d => mix_ d (tellValue_ I b 19 v w).toInt64) (mix_ d v.toInt64)
def mixValues_ (I : im_I) (b : Nat) (d : Int64) : Int64 := loopC 0 (I 36 0) (mixValue_ I b) d
def mixCall_ (I : im_I) (b : Nat) (c : Int32) (d : Int64) : Int64 := loopC 0 4 (fun w d => mix_ d (tellCall_ I b 19 c w).toInt64) d
def mixCalls_ (I : im_I) (b : Nat) (d : Int64) : Int64 := loopC 0 (I 36 2) (mixCall_ I b) d
def mixPlace_ (I : im_I) (b : Nat) (k : Int32) (d : Int64) : Int64 := mix_ (loopC 0 6 (fun w d => mix_ d (tellPlace_ I (b + 7) k w).toInt64) d) (at_ (I (b + 12 + 1)) 528 k).toInt64
def mixCode_ (I : im_I) (b : Nat) (d : Int64) : Int64 := loopC 0 (I (b + 7) 0) (mixPlace_ I b) d
def mixMany_ (I : im_I) (d : Int64) : Int64 := loopC 0 (15 + 1) (fun w d => mix_ d (tellMany_ I 91 19 w).toInt64) d
def digestA_ (J : im_I) (a : Nat) : Int64 :=
  mixCode_ (meantNow_ J a) 91 (mixCalls_ (meantNow_ J a) 91 (mixValues_ (meantNow_ J a) 91 (mixLines_ (meantNow_ J a) (mixVariables_ (meantNow_ J a) 91 (mixMany_ J 58132)))))
def digestM_ (J : im_I) (a : Nat) : im_I := builtWith_ (unordM_ (few_ (meantNow_ J a)).2) 6 4 1
def digestV_ (J : im_I) (a : Nat) : Int64 :=
  let K := meantNow_ J a
  let K1 := (few_ K).2
  let K2 := unordM_ K1
  let K3 := builtWith_ K2 6 4 1
  mix_ (mix_ (mix_ (mix_ (digestA_ J a) (few_ K).1.toInt64) (K2 120 1 - K2 103 1).toInt64) (tellMany_ K3 108 19 9).toInt64) (tellMany_ K3 108 19 13).toInt64
