/-! the links to Math -/
theorem ml_X4_108 : Cond.methodLink RX4 108 Lib.Math.max.name ∈ im_W := im_in 867 (by decide +kernel) (by decide +kernel)
theorem ml_X2_158 : Cond.methodLink RX2 158 Lib.Math.max.name ∈ im_W := im_in 974 (by decide +kernel) (by decide +kernel)
theorem ml_X9_79 : Cond.methodLink RX9 79 Lib.Math.max.name ∈ im_W := im_in 1068 (by decide +kernel) (by decide +kernel)
theorem ml_L_42 : Cond.methodLink RL 42 Lib.Math.min.name ∈ im_W := im_in 1310 (by decide +kernel) (by decide +kernel)
