/-! WHAT AN OBJECT LOOKS LIKE: its kind, its parts and where they lie (as the constructors lay them) -/
/-- Machine -/
def o_X5 (S : im_S) (a : Nat) : Prop := im_k S a = (5, im_N 5) ∧ im_r S a 5 = a + 1 + 1 ∧ im_k S (a + 1) = (20, 8)
theorem o_X5_k {S : im_S} {a : Nat} (h : o_X5 S a) : im_k S a = (5, im_N 5) := h.1
theorem o_X5_r5 {S : im_S} {a : Nat} (h : o_X5 S a) : im_r S a 5 = a + 1 + 1 := h.2.1
theorem o_X5_a5 {S : im_S} {a : Nat} (h : o_X5 S a) : im_k S (a + 1) = (20, 8) := h.2.2
/-- Program -/
def o_X8 (S : im_S) (a : Nat) : Prop := im_k S a = (8, im_N 8) ∧ im_r S a 3 = a + 1 + 1 ∧ im_k S (a + 1) = (20, 4) ∧ im_r S a 4 = a + 2 + 1 ∧ im_k S (a + 2) = (20, 80) ∧ im_r S a 5 = a + 3 + 1 ∧ im_k S (a + 3) = (20, 80) ∧ im_r S a 6 = a + 4 + 1 ∧ im_k S (a + 4) = (20, 80) ∧ im_r S a 7 = a + 5 + 1 ∧ im_k S (a + 5) = (20, 80) ∧ im_r S a 8 = a + 6 + 1 ∧ im_k S (a + 6) = (20, 4) ∧ im_r S a 9 = a + 7 + 1 ∧ im_k S (a + 7) = (20, 96) ∧ im_r S a 10 = a + 8 + 1 ∧ im_k S (a + 8) = (20, 96)
theorem o_X8_k {S : im_S} {a : Nat} (h : o_X8 S a) : im_k S a = (8, im_N 8) := h.1
theorem o_X8_r3 {S : im_S} {a : Nat} (h : o_X8 S a) : im_r S a 3 = a + 1 + 1 := h.2.1
theorem o_X8_a3 {S : im_S} {a : Nat} (h : o_X8 S a) : im_k S (a + 1) = (20, 4) := h.2.2.1
theorem o_X8_r4 {S : im_S} {a : Nat} (h : o_X8 S a) : im_r S a 4 = a + 2 + 1 := h.2.2.2.1
theorem o_X8_a4 {S : im_S} {a : Nat} (h : o_X8 S a) : im_k S (a + 2) = (20, 80) := h.2.2.2.2.1
theorem o_X8_r5 {S : im_S} {a : Nat} (h : o_X8 S a) : im_r S a 5 = a + 3 + 1 := h.2.2.2.2.2.1
theorem o_X8_a5 {S : im_S} {a : Nat} (h : o_X8 S a) : im_k S (a + 3) = (20, 80) := h.2.2.2.2.2.2.1
theorem o_X8_r6 {S : im_S} {a : Nat} (h : o_X8 S a) : im_r S a 6 = a + 4 + 1 := h.2.2.2.2.2.2.2.1
theorem o_X8_a6 {S : im_S} {a : Nat} (h : o_X8 S a) : im_k S (a + 4) = (20, 80) := h.2.2.2.2.2.2.2.2.1
theorem o_X8_r7 {S : im_S} {a : Nat} (h : o_X8 S a) : im_r S a 7 = a + 5 + 1 := h.2.2.2.2.2.2.2.2.2.1
theorem o_X8_a7 {S : im_S} {a : Nat} (h : o_X8 S a) : im_k S (a + 5) = (20, 80) := h.2.2.2.2.2.2.2.2.2.2.1
theorem o_X8_r8 {S : im_S} {a : Nat} (h : o_X8 S a) : im_r S a 8 = a + 6 + 1 := h.2.2.2.2.2.2.2.2.2.2.2.1
theorem o_X8_a8 {S : im_S} {a : Nat} (h : o_X8 S a) : im_k S (a + 6) = (20, 4) := h.2.2.2.2.2.2.2.2.2.2.2.2.1
theorem o_X8_r9 {S : im_S} {a : Nat} (h : o_X8 S a) : im_r S a 9 = a + 7 + 1 := h.2.2.2.2.2.2.2.2.2.2.2.2.2.1
theorem o_X8_a9 {S : im_S} {a : Nat} (h : o_X8 S a) : im_k S (a + 7) = (20, 96) := h.2.2.2.2.2.2.2.2.2.2.2.2.2.2.1
theorem o_X8_r10 {S : im_S} {a : Nat} (h : o_X8 S a) : im_r S a 10 = a + 8 + 1 := h.2.2.2.2.2.2.2.2.2.2.2.2.2.2.2.1
theorem o_X8_a10 {S : im_S} {a : Nat} (h : o_X8 S a) : im_k S (a + 8) = (20, 96) := h.2.2.2.2.2.2.2.2.2.2.2.2.2.2.2.2
/-- Instructions -/
def o_X3 (S : im_S) (a : Nat) : Prop := im_k S a = (3, im_N 3) ∧ im_r S a 1 = a + 1 + 1 ∧ im_k S (a + 1) = (20, 88) ∧ im_r S a 2 = a + 2 + 1 ∧ im_k S (a + 2) = (20, 88) ∧ im_r S a 3 = a + 3 + 1 ∧ im_k S (a + 3) = (20, 264) ∧ im_r S a 4 = a + 4 + 1 ∧ im_k S (a + 4) = (20, 88) ∧ im_r S a 5 = a + 5 + 1 ∧ im_k S (a + 5) = (20, 88) ∧ im_r S a 6 = a + 6 + 1 ∧ im_k S (a + 6) = (20, 88)
theorem o_X3_k {S : im_S} {a : Nat} (h : o_X3 S a) : im_k S a = (3, im_N 3) := h.1
theorem o_X3_r1 {S : im_S} {a : Nat} (h : o_X3 S a) : im_r S a 1 = a + 1 + 1 := h.2.1
theorem o_X3_a1 {S : im_S} {a : Nat} (h : o_X3 S a) : im_k S (a + 1) = (20, 88) := h.2.2.1
theorem o_X3_r2 {S : im_S} {a : Nat} (h : o_X3 S a) : im_r S a 2 = a + 2 + 1 := h.2.2.2.1
theorem o_X3_a2 {S : im_S} {a : Nat} (h : o_X3 S a) : im_k S (a + 2) = (20, 88) := h.2.2.2.2.1
theorem o_X3_r3 {S : im_S} {a : Nat} (h : o_X3 S a) : im_r S a 3 = a + 3 + 1 := h.2.2.2.2.2.1
theorem o_X3_a3 {S : im_S} {a : Nat} (h : o_X3 S a) : im_k S (a + 3) = (20, 264) := h.2.2.2.2.2.2.1
theorem o_X3_r4 {S : im_S} {a : Nat} (h : o_X3 S a) : im_r S a 4 = a + 4 + 1 := h.2.2.2.2.2.2.2.1
theorem o_X3_a4 {S : im_S} {a : Nat} (h : o_X3 S a) : im_k S (a + 4) = (20, 88) := h.2.2.2.2.2.2.2.2.1
theorem o_X3_r5 {S : im_S} {a : Nat} (h : o_X3 S a) : im_r S a 5 = a + 5 + 1 := h.2.2.2.2.2.2.2.2.2.1
theorem o_X3_a5 {S : im_S} {a : Nat} (h : o_X3 S a) : im_k S (a + 5) = (20, 88) := h.2.2.2.2.2.2.2.2.2.2.1
theorem o_X3_r6 {S : im_S} {a : Nat} (h : o_X3 S a) : im_r S a 6 = a + 6 + 1 := h.2.2.2.2.2.2.2.2.2.2.2.1
theorem o_X3_a6 {S : im_S} {a : Nat} (h : o_X3 S a) : im_k S (a + 6) = (20, 88) := h.2.2.2.2.2.2.2.2.2.2.2.2
/-- Meaning -/
def o_X6 (S : im_S) (a : Nat) : Prop := im_k S a = (6, im_N 6) ∧ im_r S a 0 = a + 1 + 1 ∧ im_k S (a + 1) = (20, 8) ∧ im_r S a 1 = a + 2 + 1 ∧ im_k S (a + 2) = (20, 80) ∧ im_r S a 2 = 3 + 1 ∧ o_X8 S (3)
theorem o_X6_k {S : im_S} {a : Nat} (h : o_X6 S a) : im_k S a = (6, im_N 6) := h.1
theorem o_X6_r0 {S : im_S} {a : Nat} (h : o_X6 S a) : im_r S a 0 = a + 1 + 1 := h.2.1
theorem o_X6_a0 {S : im_S} {a : Nat} (h : o_X6 S a) : im_k S (a + 1) = (20, 8) := h.2.2.1
theorem o_X6_r1 {S : im_S} {a : Nat} (h : o_X6 S a) : im_r S a 1 = a + 2 + 1 := h.2.2.2.1
theorem o_X6_a1 {S : im_S} {a : Nat} (h : o_X6 S a) : im_k S (a + 2) = (20, 80) := h.2.2.2.2.1
theorem o_X6_r2 {S : im_S} {a : Nat} (h : o_X6 S a) : im_r S a 2 = 3 + 1 := h.2.2.2.2.2.1
theorem o_X6_o2 {S : im_S} {a : Nat} (h : o_X6 S a) : o_X8 S (3) := h.2.2.2.2.2.2
/-- Lives -/
def o_X4 (S : im_S) (a : Nat) : Prop := im_k S a = (4, im_N 4) ∧ im_r S a 3 = 3 + 1 ∧ o_X8 S (3) ∧ im_r S a 4 = a + 1 + 1 ∧ im_k S (a + 1) = (20, 88) ∧ im_r S a 5 = a + 2 + 1 ∧ im_k S (a + 2) = (20, 88) ∧ im_r S a 6 = a + 3 + 1 ∧ im_k S (a + 3) = (20, 88) ∧ im_r S a 7 = a + 4 + 1 ∧ im_k S (a + 4) = (20, 88) ∧ im_r S a 8 = a + 5 + 1 ∧ im_k S (a + 5) = (20, 88) ∧ im_r S a 9 = a + 6 + 1 ∧ im_k S (a + 6) = (20, 88) ∧ im_r S a 10 = a + 7 + 1 ∧ im_k S (a + 7) = (20, 88) ∧ im_r S a 11 = a + 8 + 1 ∧ im_k S (a + 8) = (20, 88)
theorem o_X4_k {S : im_S} {a : Nat} (h : o_X4 S a) : im_k S a = (4, im_N 4) := h.1
theorem o_X4_r3 {S : im_S} {a : Nat} (h : o_X4 S a) : im_r S a 3 = 3 + 1 := h.2.1
theorem o_X4_o3 {S : im_S} {a : Nat} (h : o_X4 S a) : o_X8 S (3) := h.2.2.1
theorem o_X4_r4 {S : im_S} {a : Nat} (h : o_X4 S a) : im_r S a 4 = a + 1 + 1 := h.2.2.2.1
theorem o_X4_a4 {S : im_S} {a : Nat} (h : o_X4 S a) : im_k S (a + 1) = (20, 88) := h.2.2.2.2.1
theorem o_X4_r5 {S : im_S} {a : Nat} (h : o_X4 S a) : im_r S a 5 = a + 2 + 1 := h.2.2.2.2.2.1
theorem o_X4_a5 {S : im_S} {a : Nat} (h : o_X4 S a) : im_k S (a + 2) = (20, 88) := h.2.2.2.2.2.2.1
theorem o_X4_r6 {S : im_S} {a : Nat} (h : o_X4 S a) : im_r S a 6 = a + 3 + 1 := h.2.2.2.2.2.2.2.1
theorem o_X4_a6 {S : im_S} {a : Nat} (h : o_X4 S a) : im_k S (a + 3) = (20, 88) := h.2.2.2.2.2.2.2.2.1
theorem o_X4_r7 {S : im_S} {a : Nat} (h : o_X4 S a) : im_r S a 7 = a + 4 + 1 := h.2.2.2.2.2.2.2.2.2.1
theorem o_X4_a7 {S : im_S} {a : Nat} (h : o_X4 S a) : im_k S (a + 4) = (20, 88) := h.2.2.2.2.2.2.2.2.2.2.1
theorem o_X4_r8 {S : im_S} {a : Nat} (h : o_X4 S a) : im_r S a 8 = a + 5 + 1 := h.2.2.2.2.2.2.2.2.2.2.2.1
theorem o_X4_a8 {S : im_S} {a : Nat} (h : o_X4 S a) : im_k S (a + 5) = (20, 88) := h.2.2.2.2.2.2.2.2.2.2.2.2.1
theorem o_X4_r9 {S : im_S} {a : Nat} (h : o_X4 S a) : im_r S a 9 = a + 6 + 1 := h.2.2.2.2.2.2.2.2.2.2.2.2.2.1
theorem o_X4_a9 {S : im_S} {a : Nat} (h : o_X4 S a) : im_k S (a + 6) = (20, 88) := h.2.2.2.2.2.2.2.2.2.2.2.2.2.2.1
theorem o_X4_r10 {S : im_S} {a : Nat} (h : o_X4 S a) : im_r S a 10 = a + 7 + 1 := h.2.2.2.2.2.2.2.2.2.2.2.2.2.2.2.1
theorem o_X4_a10 {S : im_S} {a : Nat} (h : o_X4 S a) : im_k S (a + 7) = (20, 88) := h.2.2.2.2.2.2.2.2.2.2.2.2.2.2.2.2.1
theorem o_X4_r11 {S : im_S} {a : Nat} (h : o_X4 S a) : im_r S a 11 = a + 8 + 1 := h.2.2.2.2.2.2.2.2.2.2.2.2.2.2.2.2.2.1
theorem o_X4_a11 {S : im_S} {a : Nat} (h : o_X4 S a) : im_k S (a + 8) = (20, 88) := h.2.2.2.2.2.2.2.2.2.2.2.2.2.2.2.2.2.2
/-- Choice -/
def o_X0 (S : im_S) (a : Nat) (m : Nat) : Prop := im_k S a = (0, im_N 0) ∧ im_r S a 0 = a + 1 + 1 ∧ im_k S (a + 1) = (20, 80) ∧ im_r S a 1 = 3 + 1 ∧ o_X8 S (3) ∧ im_r S a 2 = m + 1 ∧ o_X5 S (m) ∧ im_r S a 3 = a + 2 + 1 ∧ im_k S (a + 2) = (20, 80) ∧ im_r S a 4 = a + 3 + 1 ∧ im_k S (a + 3) = (20, 80) ∧ im_r S a 5 = a + 4 + 1 ∧ im_k S (a + 4) = (20, 240) ∧ im_r S a 6 = a + 5 + 1 ∧ im_k S (a + 5) = (20, 240) ∧ im_r S a 7 = a + 6 + 1 ∧ im_k S (a + 6) = (20, 80) ∧ im_r S a 8 = a + 7 + 1 ∧ im_k S (a + 7) = (20, 80) ∧ im_r S a 9 = a + 8 + 1 ∧ im_k S (a + 8) = (20, 80)
theorem o_X0_k {S : im_S} {a : Nat} {m : Nat} (h : o_X0 S a m) : im_k S a = (0, im_N 0) := h.1
theorem o_X0_r0 {S : im_S} {a : Nat} {m : Nat} (h : o_X0 S a m) : im_r S a 0 = a + 1 + 1 := h.2.1
theorem o_X0_a0 {S : im_S} {a : Nat} {m : Nat} (h : o_X0 S a m) : im_k S (a + 1) = (20, 80) := h.2.2.1
theorem o_X0_r1 {S : im_S} {a : Nat} {m : Nat} (h : o_X0 S a m) : im_r S a 1 = 3 + 1 := h.2.2.2.1
theorem o_X0_o1 {S : im_S} {a : Nat} {m : Nat} (h : o_X0 S a m) : o_X8 S (3) := h.2.2.2.2.1
theorem o_X0_r2 {S : im_S} {a : Nat} {m : Nat} (h : o_X0 S a m) : im_r S a 2 = m + 1 := h.2.2.2.2.2.1
theorem o_X0_o2 {S : im_S} {a : Nat} {m : Nat} (h : o_X0 S a m) : o_X5 S (m) := h.2.2.2.2.2.2.1
theorem o_X0_r3 {S : im_S} {a : Nat} {m : Nat} (h : o_X0 S a m) : im_r S a 3 = a + 2 + 1 := h.2.2.2.2.2.2.2.1
theorem o_X0_a3 {S : im_S} {a : Nat} {m : Nat} (h : o_X0 S a m) : im_k S (a + 2) = (20, 80) := h.2.2.2.2.2.2.2.2.1
theorem o_X0_r4 {S : im_S} {a : Nat} {m : Nat} (h : o_X0 S a m) : im_r S a 4 = a + 3 + 1 := h.2.2.2.2.2.2.2.2.2.1
theorem o_X0_a4 {S : im_S} {a : Nat} {m : Nat} (h : o_X0 S a m) : im_k S (a + 3) = (20, 80) := h.2.2.2.2.2.2.2.2.2.2.1
theorem o_X0_r5 {S : im_S} {a : Nat} {m : Nat} (h : o_X0 S a m) : im_r S a 5 = a + 4 + 1 := h.2.2.2.2.2.2.2.2.2.2.2.1
theorem o_X0_a5 {S : im_S} {a : Nat} {m : Nat} (h : o_X0 S a m) : im_k S (a + 4) = (20, 240) := h.2.2.2.2.2.2.2.2.2.2.2.2.1
theorem o_X0_r6 {S : im_S} {a : Nat} {m : Nat} (h : o_X0 S a m) : im_r S a 6 = a + 5 + 1 := h.2.2.2.2.2.2.2.2.2.2.2.2.2.1
theorem o_X0_a6 {S : im_S} {a : Nat} {m : Nat} (h : o_X0 S a m) : im_k S (a + 5) = (20, 240) := h.2.2.2.2.2.2.2.2.2.2.2.2.2.2.1
theorem o_X0_r7 {S : im_S} {a : Nat} {m : Nat} (h : o_X0 S a m) : im_r S a 7 = a + 6 + 1 := h.2.2.2.2.2.2.2.2.2.2.2.2.2.2.2.1
theorem o_X0_a7 {S : im_S} {a : Nat} {m : Nat} (h : o_X0 S a m) : im_k S (a + 6) = (20, 80) := h.2.2.2.2.2.2.2.2.2.2.2.2.2.2.2.2.1
theorem o_X0_r8 {S : im_S} {a : Nat} {m : Nat} (h : o_X0 S a m) : im_r S a 8 = a + 7 + 1 := h.2.2.2.2.2.2.2.2.2.2.2.2.2.2.2.2.2.1
theorem o_X0_a8 {S : im_S} {a : Nat} {m : Nat} (h : o_X0 S a m) : im_k S (a + 7) = (20, 80) := h.2.2.2.2.2.2.2.2.2.2.2.2.2.2.2.2.2.2.1
theorem o_X0_r9 {S : im_S} {a : Nat} {m : Nat} (h : o_X0 S a m) : im_r S a 9 = a + 8 + 1 := h.2.2.2.2.2.2.2.2.2.2.2.2.2.2.2.2.2.2.2.1
theorem o_X0_a9 {S : im_S} {a : Nat} {m : Nat} (h : o_X0 S a m) : im_k S (a + 8) = (20, 80) := h.2.2.2.2.2.2.2.2.2.2.2.2.2.2.2.2.2.2.2.2
/-- Code -/
def o_X1 (S : im_S) (a : Nat) (m : Nat) : Prop := im_k S a = (1, im_N 1) ∧ im_r S a 1 = m + 1 ∧ o_X5 S (m) ∧ im_r S a 2 = a + 1 + 1 ∧ im_k S (a + 1) = (20, 528) ∧ im_r S a 3 = a + 2 + 1 ∧ im_k S (a + 2) = (20, 2112) ∧ im_r S a 4 = a + 3 + 1 ∧ im_k S (a + 3) = (20, 528) ∧ im_r S a 5 = a + 4 + 1 ∧ im_k S (a + 4) = (20, 89)
theorem o_X1_k {S : im_S} {a : Nat} {m : Nat} (h : o_X1 S a m) : im_k S a = (1, im_N 1) := h.1
theorem o_X1_r1 {S : im_S} {a : Nat} {m : Nat} (h : o_X1 S a m) : im_r S a 1 = m + 1 := h.2.1
theorem o_X1_o1 {S : im_S} {a : Nat} {m : Nat} (h : o_X1 S a m) : o_X5 S (m) := h.2.2.1
theorem o_X1_r2 {S : im_S} {a : Nat} {m : Nat} (h : o_X1 S a m) : im_r S a 2 = a + 1 + 1 := h.2.2.2.1
theorem o_X1_a2 {S : im_S} {a : Nat} {m : Nat} (h : o_X1 S a m) : im_k S (a + 1) = (20, 528) := h.2.2.2.2.1
theorem o_X1_r3 {S : im_S} {a : Nat} {m : Nat} (h : o_X1 S a m) : im_r S a 3 = a + 2 + 1 := h.2.2.2.2.2.1
theorem o_X1_a3 {S : im_S} {a : Nat} {m : Nat} (h : o_X1 S a m) : im_k S (a + 2) = (20, 2112) := h.2.2.2.2.2.2.1
theorem o_X1_r4 {S : im_S} {a : Nat} {m : Nat} (h : o_X1 S a m) : im_r S a 4 = a + 3 + 1 := h.2.2.2.2.2.2.2.1
theorem o_X1_a4 {S : im_S} {a : Nat} {m : Nat} (h : o_X1 S a m) : im_k S (a + 3) = (20, 528) := h.2.2.2.2.2.2.2.2.1
theorem o_X1_r5 {S : im_S} {a : Nat} {m : Nat} (h : o_X1 S a m) : im_r S a 5 = a + 4 + 1 := h.2.2.2.2.2.2.2.2.2.1
theorem o_X1_a5 {S : im_S} {a : Nat} {m : Nat} (h : o_X1 S a m) : im_k S (a + 4) = (20, 89) := h.2.2.2.2.2.2.2.2.2.2
/-- Homes -/
def o_X2 (S : im_S) (a : Nat) (m : Nat) : Prop := im_k S a = (2, im_N 2) ∧ im_r S a 4 = m + 1 ∧ o_X5 S (m) ∧ im_r S a 5 = a + 1 + 1 ∧ im_k S (a + 1) = (20, 88) ∧ im_r S a 6 = a + 2 + 1 ∧ im_k S (a + 2) = (20, 88) ∧ im_r S a 7 = a + 3 + 1 ∧ im_k S (a + 3) = (20, 88) ∧ im_r S a 8 = a + 4 + 1 ∧ im_k S (a + 4) = (20, 88) ∧ im_r S a 9 = a + 5 + 1 ∧ im_k S (a + 5) = (20, 88)
theorem o_X2_k {S : im_S} {a : Nat} {m : Nat} (h : o_X2 S a m) : im_k S a = (2, im_N 2) := h.1
theorem o_X2_r4 {S : im_S} {a : Nat} {m : Nat} (h : o_X2 S a m) : im_r S a 4 = m + 1 := h.2.1
theorem o_X2_o4 {S : im_S} {a : Nat} {m : Nat} (h : o_X2 S a m) : o_X5 S (m) := h.2.2.1
theorem o_X2_r5 {S : im_S} {a : Nat} {m : Nat} (h : o_X2 S a m) : im_r S a 5 = a + 1 + 1 := h.2.2.2.1
theorem o_X2_a5 {S : im_S} {a : Nat} {m : Nat} (h : o_X2 S a m) : im_k S (a + 1) = (20, 88) := h.2.2.2.2.1
theorem o_X2_r6 {S : im_S} {a : Nat} {m : Nat} (h : o_X2 S a m) : im_r S a 6 = a + 2 + 1 := h.2.2.2.2.2.1
theorem o_X2_a6 {S : im_S} {a : Nat} {m : Nat} (h : o_X2 S a m) : im_k S (a + 2) = (20, 88) := h.2.2.2.2.2.2.1
theorem o_X2_r7 {S : im_S} {a : Nat} {m : Nat} (h : o_X2 S a m) : im_r S a 7 = a + 3 + 1 := h.2.2.2.2.2.2.2.1
theorem o_X2_a7 {S : im_S} {a : Nat} {m : Nat} (h : o_X2 S a m) : im_k S (a + 3) = (20, 88) := h.2.2.2.2.2.2.2.2.1
theorem o_X2_r8 {S : im_S} {a : Nat} {m : Nat} (h : o_X2 S a m) : im_r S a 8 = a + 4 + 1 := h.2.2.2.2.2.2.2.2.2.1
theorem o_X2_a8 {S : im_S} {a : Nat} {m : Nat} (h : o_X2 S a m) : im_k S (a + 4) = (20, 88) := h.2.2.2.2.2.2.2.2.2.2.1
theorem o_X2_r9 {S : im_S} {a : Nat} {m : Nat} (h : o_X2 S a m) : im_r S a 9 = a + 5 + 1 := h.2.2.2.2.2.2.2.2.2.2.2.1
theorem o_X2_a9 {S : im_S} {a : Nat} {m : Nat} (h : o_X2 S a m) : im_k S (a + 5) = (20, 88) := h.2.2.2.2.2.2.2.2.2.2.2.2
/-- Run -/
def o_X9 (S : im_S) (a : Nat) (m : Nat) : Prop := im_k S a = (9, im_N 9) ∧ im_r S a 3 = a + 1 + 1 ∧ im_k S (a + 1) = (20, 528) ∧ im_r S a 4 = a + 2 + 1 ∧ im_k S (a + 2) = (20, 11) ∧ im_r S a 5 = a + 3 + 1 ∧ im_k S (a + 3) = (20, 88) ∧ im_r S a 6 = 3 + 1 ∧ o_X8 S (3) ∧ im_r S a 7 = m + 1 ∧ o_X5 S (m) ∧ im_r S a 8 = a + 4 + 1 ∧ im_k S (a + 4) = (20, 11)
theorem o_X9_k {S : im_S} {a : Nat} {m : Nat} (h : o_X9 S a m) : im_k S a = (9, im_N 9) := h.1
theorem o_X9_r3 {S : im_S} {a : Nat} {m : Nat} (h : o_X9 S a m) : im_r S a 3 = a + 1 + 1 := h.2.1
theorem o_X9_a3 {S : im_S} {a : Nat} {m : Nat} (h : o_X9 S a m) : im_k S (a + 1) = (20, 528) := h.2.2.1
theorem o_X9_r4 {S : im_S} {a : Nat} {m : Nat} (h : o_X9 S a m) : im_r S a 4 = a + 2 + 1 := h.2.2.2.1
theorem o_X9_a4 {S : im_S} {a : Nat} {m : Nat} (h : o_X9 S a m) : im_k S (a + 2) = (20, 11) := h.2.2.2.2.1
theorem o_X9_r5 {S : im_S} {a : Nat} {m : Nat} (h : o_X9 S a m) : im_r S a 5 = a + 3 + 1 := h.2.2.2.2.2.1
theorem o_X9_a5 {S : im_S} {a : Nat} {m : Nat} (h : o_X9 S a m) : im_k S (a + 3) = (20, 88) := h.2.2.2.2.2.2.1
theorem o_X9_r6 {S : im_S} {a : Nat} {m : Nat} (h : o_X9 S a m) : im_r S a 6 = 3 + 1 := h.2.2.2.2.2.2.2.1
theorem o_X9_o6 {S : im_S} {a : Nat} {m : Nat} (h : o_X9 S a m) : o_X8 S (3) := h.2.2.2.2.2.2.2.2.1
theorem o_X9_r7 {S : im_S} {a : Nat} {m : Nat} (h : o_X9 S a m) : im_r S a 7 = m + 1 := h.2.2.2.2.2.2.2.2.2.1
theorem o_X9_o7 {S : im_S} {a : Nat} {m : Nat} (h : o_X9 S a m) : o_X5 S (m) := h.2.2.2.2.2.2.2.2.2.2.1
theorem o_X9_r8 {S : im_S} {a : Nat} {m : Nat} (h : o_X9 S a m) : im_r S a 8 = a + 4 + 1 := h.2.2.2.2.2.2.2.2.2.2.2.1
theorem o_X9_a8 {S : im_S} {a : Nat} {m : Nat} (h : o_X9 S a m) : im_k S (a + 4) = (20, 11) := h.2.2.2.2.2.2.2.2.2.2.2.2
/-- Plan -/
def o_X7 (S : im_S) (a : Nat) (m : Nat) : Prop := im_k S a = (7, im_N 7) ∧ im_r S a 0 = a + 1 + 1 ∧ o_X0 S (a + 1) m ∧ im_r S a 1 = a + 10 + 1 ∧ o_X3 S (a + 10) ∧ im_r S a 2 = a + 17 + 1 ∧ o_X4 S (a + 17) ∧ im_r S a 3 = a + 26 + 1 ∧ im_k S (a + 26) = (20, 5) ∧ im_r S a 4 = 3 + 1 ∧ o_X8 S (3) ∧ im_r S a 5 = m + 1 ∧ o_X5 S (m) ∧ im_r S a 6 = a + 27 + 1 ∧ o_X3 S (a + 27) ∧ im_r S a 7 = a + 34 + 1 ∧ im_k S (a + 34) = (20, 5) ∧ im_r S a 8 = a + 35 + 1 ∧ im_k S (a + 35) = (20, 88)
theorem o_X7_k {S : im_S} {a : Nat} {m : Nat} (h : o_X7 S a m) : im_k S a = (7, im_N 7) := h.1
theorem o_X7_r0 {S : im_S} {a : Nat} {m : Nat} (h : o_X7 S a m) : im_r S a 0 = a + 1 + 1 := h.2.1
theorem o_X7_o0 {S : im_S} {a : Nat} {m : Nat} (h : o_X7 S a m) : o_X0 S (a + 1) m := h.2.2.1
theorem o_X7_r1 {S : im_S} {a : Nat} {m : Nat} (h : o_X7 S a m) : im_r S a 1 = a + 10 + 1 := h.2.2.2.1
theorem o_X7_o1 {S : im_S} {a : Nat} {m : Nat} (h : o_X7 S a m) : o_X3 S (a + 10) := h.2.2.2.2.1
theorem o_X7_r2 {S : im_S} {a : Nat} {m : Nat} (h : o_X7 S a m) : im_r S a 2 = a + 17 + 1 := h.2.2.2.2.2.1
theorem o_X7_o2 {S : im_S} {a : Nat} {m : Nat} (h : o_X7 S a m) : o_X4 S (a + 17) := h.2.2.2.2.2.2.1
theorem o_X7_r3 {S : im_S} {a : Nat} {m : Nat} (h : o_X7 S a m) : im_r S a 3 = a + 26 + 1 := h.2.2.2.2.2.2.2.1
theorem o_X7_a3 {S : im_S} {a : Nat} {m : Nat} (h : o_X7 S a m) : im_k S (a + 26) = (20, 5) := h.2.2.2.2.2.2.2.2.1
theorem o_X7_r4 {S : im_S} {a : Nat} {m : Nat} (h : o_X7 S a m) : im_r S a 4 = 3 + 1 := h.2.2.2.2.2.2.2.2.2.1
theorem o_X7_o4 {S : im_S} {a : Nat} {m : Nat} (h : o_X7 S a m) : o_X8 S (3) := h.2.2.2.2.2.2.2.2.2.2.1
theorem o_X7_r5 {S : im_S} {a : Nat} {m : Nat} (h : o_X7 S a m) : im_r S a 5 = m + 1 := h.2.2.2.2.2.2.2.2.2.2.2.1
theorem o_X7_o5 {S : im_S} {a : Nat} {m : Nat} (h : o_X7 S a m) : o_X5 S (m) := h.2.2.2.2.2.2.2.2.2.2.2.2.1
theorem o_X7_r6 {S : im_S} {a : Nat} {m : Nat} (h : o_X7 S a m) : im_r S a 6 = a + 27 + 1 := h.2.2.2.2.2.2.2.2.2.2.2.2.2.1
theorem o_X7_o6 {S : im_S} {a : Nat} {m : Nat} (h : o_X7 S a m) : o_X3 S (a + 27) := h.2.2.2.2.2.2.2.2.2.2.2.2.2.2.1
theorem o_X7_r7 {S : im_S} {a : Nat} {m : Nat} (h : o_X7 S a m) : im_r S a 7 = a + 34 + 1 := h.2.2.2.2.2.2.2.2.2.2.2.2.2.2.2.1
theorem o_X7_a7 {S : im_S} {a : Nat} {m : Nat} (h : o_X7 S a m) : im_k S (a + 34) = (20, 5) := h.2.2.2.2.2.2.2.2.2.2.2.2.2.2.2.2.1
theorem o_X7_r8 {S : im_S} {a : Nat} {m : Nat} (h : o_X7 S a m) : im_r S a 8 = a + 35 + 1 := h.2.2.2.2.2.2.2.2.2.2.2.2.2.2.2.2.2.1
theorem o_X7_a8 {S : im_S} {a : Nat} {m : Nat} (h : o_X7 S a m) : im_k S (a + 35) = (20, 88) := h.2.2.2.2.2.2.2.2.2.2.2.2.2.2.2.2.2.2
/-- Works -/
def o_X10 (S : im_S) (a : Nat) (m : Nat) : Prop := im_k S a = (10, im_N 10) ∧ im_r S a 0 = a + 1 + 1 ∧ o_X2 S (a + 1) m ∧ im_r S a 1 = a + 7 + 1 ∧ o_X1 S (a + 7) m ∧ im_r S a 2 = a + 12 + 1 ∧ o_X9 S (a + 12) m ∧ im_r S a 3 = 3 + 1 ∧ o_X8 S (3)
theorem o_X10_k {S : im_S} {a : Nat} {m : Nat} (h : o_X10 S a m) : im_k S a = (10, im_N 10) := h.1
theorem o_X10_r0 {S : im_S} {a : Nat} {m : Nat} (h : o_X10 S a m) : im_r S a 0 = a + 1 + 1 := h.2.1
theorem o_X10_o0 {S : im_S} {a : Nat} {m : Nat} (h : o_X10 S a m) : o_X2 S (a + 1) m := h.2.2.1
theorem o_X10_r1 {S : im_S} {a : Nat} {m : Nat} (h : o_X10 S a m) : im_r S a 1 = a + 7 + 1 := h.2.2.2.1
theorem o_X10_o1 {S : im_S} {a : Nat} {m : Nat} (h : o_X10 S a m) : o_X1 S (a + 7) m := h.2.2.2.2.1
theorem o_X10_r2 {S : im_S} {a : Nat} {m : Nat} (h : o_X10 S a m) : im_r S a 2 = a + 12 + 1 := h.2.2.2.2.2.1
theorem o_X10_o2 {S : im_S} {a : Nat} {m : Nat} (h : o_X10 S a m) : o_X9 S (a + 12) m := h.2.2.2.2.2.2.1
theorem o_X10_r3 {S : im_S} {a : Nat} {m : Nat} (h : o_X10 S a m) : im_r S a 3 = 3 + 1 := h.2.2.2.2.2.2.2.1
theorem o_X10_o3 {S : im_S} {a : Nat} {m : Nat} (h : o_X10 S a m) : o_X8 S (3) := h.2.2.2.2.2.2.2.2
/-- Main -/
def o_X11 (S : im_S) (a : Nat) : Prop := im_k S a = (11, im_N 11) ∧ im_r S a 0 = 3 + 1 ∧ o_X8 S (3) ∧ im_r S a 1 = 12 + 1 ∧ o_X6 S (12) ∧ im_r S a 2 = 15 + 1 ∧ o_X5 S (15) ∧ im_r S a 3 = 17 + 1 ∧ o_X5 S (17) ∧ im_r S a 4 = 19 + 1 ∧ o_X7 S (19) 15 ∧ im_r S a 5 = 55 + 1 ∧ o_X7 S (55) 17 ∧ im_r S a 6 = 91 + 1 ∧ o_X10 S (91) 15 ∧ im_r S a 7 = 108 + 1 ∧ o_X10 S (108) 17
theorem o_X11_k {S : im_S} {a : Nat} (h : o_X11 S a) : im_k S a = (11, im_N 11) := h.1
theorem o_X11_r0 {S : im_S} {a : Nat} (h : o_X11 S a) : im_r S a 0 = 3 + 1 := h.2.1
theorem o_X11_o0 {S : im_S} {a : Nat} (h : o_X11 S a) : o_X8 S (3) := h.2.2.1
theorem o_X11_r1 {S : im_S} {a : Nat} (h : o_X11 S a) : im_r S a 1 = 12 + 1 := h.2.2.2.1
theorem o_X11_o1 {S : im_S} {a : Nat} (h : o_X11 S a) : o_X6 S (12) := h.2.2.2.2.1
theorem o_X11_r2 {S : im_S} {a : Nat} (h : o_X11 S a) : im_r S a 2 = 15 + 1 := h.2.2.2.2.2.1
theorem o_X11_o2 {S : im_S} {a : Nat} (h : o_X11 S a) : o_X5 S (15) := h.2.2.2.2.2.2.1
theorem o_X11_r3 {S : im_S} {a : Nat} (h : o_X11 S a) : im_r S a 3 = 17 + 1 := h.2.2.2.2.2.2.2.1
theorem o_X11_o3 {S : im_S} {a : Nat} (h : o_X11 S a) : o_X5 S (17) := h.2.2.2.2.2.2.2.2.1
theorem o_X11_r4 {S : im_S} {a : Nat} (h : o_X11 S a) : im_r S a 4 = 19 + 1 := h.2.2.2.2.2.2.2.2.2.1
theorem o_X11_o4 {S : im_S} {a : Nat} (h : o_X11 S a) : o_X7 S (19) 15 := h.2.2.2.2.2.2.2.2.2.2.1
theorem o_X11_r5 {S : im_S} {a : Nat} (h : o_X11 S a) : im_r S a 5 = 55 + 1 := h.2.2.2.2.2.2.2.2.2.2.2.1
theorem o_X11_o5 {S : im_S} {a : Nat} (h : o_X11 S a) : o_X7 S (55) 17 := h.2.2.2.2.2.2.2.2.2.2.2.2.1
theorem o_X11_r6 {S : im_S} {a : Nat} (h : o_X11 S a) : im_r S a 6 = 91 + 1 := h.2.2.2.2.2.2.2.2.2.2.2.2.2.1
theorem o_X11_o6 {S : im_S} {a : Nat} (h : o_X11 S a) : o_X10 S (91) 15 := h.2.2.2.2.2.2.2.2.2.2.2.2.2.2.1
theorem o_X11_r7 {S : im_S} {a : Nat} (h : o_X11 S a) : im_r S a 7 = 108 + 1 := h.2.2.2.2.2.2.2.2.2.2.2.2.2.2.2.1
theorem o_X11_o7 {S : im_S} {a : Nat} (h : o_X11 S a) : o_X10 S (108) 17 := h.2.2.2.2.2.2.2.2.2.2.2.2.2.2.2.2
