theorem w_86 : (.initialized "java/lang/IllegalArgumentException" : Cond) ∈ W0 := W0_of 86 (by decide +kernel) (by decide +kernel)
theorem w_382 : (.methodLink RX4 55 yX4_isMan : Cond) ∈ W0 := W0_of 382 (by decide +kernel) (by decide +kernel)
theorem w_383 : (.classLink RX4 63 "java/lang/IllegalArgumentException" : Cond) ∈ W0 := W0_of 383 (by decide +kernel) (by decide +kernel)
theorem w_561 : (.methodLink RX4 165 yX4_isSide : Cond) ∈ W0 := W0_of 561 (by decide +kernel) (by decide +kernel)
