/-! isWhole, as pure functions; calls of a built object -/
def sp1_ (I : im_I) (pt w c : Int32) : Int32 := if tellLine_ I 19 pt w < 0 then c else if tellValue_ I 91 19 (tellLine_ I 19 pt w) 3 < 0 then c + 1 else c + 0
def sp2_ (I : im_I) (pt c : Int32) : Int32 := loopC 1 5 (sp1_ I pt) c
def sp3_ (I : im_I) : Int32 := loopC 0 (tellMany_ I 91 19 3) (sp2_ I) 0
section B
variable {l : Launch} {k : im_K} {S : im_S} {I : im_I} {p0 p1 : Int32}
theorem sp_many_b (h : o_X11 S 2) (h8 : ¬ I 2 8 = 0) (he : I 29 0 < 2147483647) (hw : isBelow_ p0 16 = true) : im_Runs l k 7 mX11_many [.ref 2, .int p0] (S, I) (some (.int (tellMany_ I 91 19 p0))) (S, I) := by
  have := sp_X11_many (l := l) (k := k) (S := S) (I := I) h hw (by rw [builtNow_id h8]; exact he)
  rwa [builtNow_id h8] at this
theorem sp_chosen_b (h : o_X11 S 2) (h8 : ¬ I 2 8 = 0) (hw : isBelow_ p0 (I 29 0) = true) (hv : isBelow_ p1 8 = true) : im_Runs l k 7 mX11_chosen [.ref 2, .int p0, .int p1] (S, I) (some (.int (tellLine_ I 19 p0 p1))) (S, I) := by
  have := sp_X11_chosen (l := l) (k := k) (S := S) (I := I) h (by rw [builtNow_id h8]; exact hw) hv
  rwa [builtNow_id h8] at this
theorem sp_ofValue_b (h : o_X11 S 2) (h8 : ¬ I 2 8 = 0) (hw : isLiving_ I 36 p0 = true) (hv : isBelow_ p1 8 = true) : im_Runs l k 7 mX11_ofValue [.ref 2, .int p0, .int p1] (S, I) (some (.int (tellValue_ I 91 19 p0 p1))) (S, I) := by
  have := sp_X11_ofValue (l := l) (k := k) (S := S) (I := I) h (by rw [builtNow_id h8]; exact hw) hv
  rwa [builtNow_id h8] at this
end B
/-- what isWhole asks of a value that a line names -/
def wholeAt (I : im_I) (rg v : Int32) : Prop := isLiving_ I 36 v = true ∧
  (¬ 0 ≤ tellValue_ I 91 19 v 3 → (¬ 0 ≤ tellValue_ I 91 19 v 4 ↔ tellValue_ I 91 19 v 5 = 1)) ∧ (0 ≤ tellValue_ I 91 19 v 3 → ¬ rg - 4 < tellValue_ I 91 19 v 3 ∧ tellValue_ I 91 19 v 4 < 0)
