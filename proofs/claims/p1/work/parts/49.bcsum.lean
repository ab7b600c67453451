/-! the sum of eight bytes -/
theorem bs1 (a z : Nat) (h : a < 256) : (a + 256 * z) / 256 = z := by omega
theorem bs2 (d : Nat) : d / 65536 = d / 256 / 256 := by rw [Nat.div_div_eq_div_mul]
theorem bs3 (e : Nat) : e / 4294967296 = e / 256 / 256 / 256 / 256 := by rw [Nat.div_div_eq_div_mul, Nat.div_div_eq_div_mul, Nat.div_div_eq_div_mul]
theorem bs4 (a b z : Nat) (h : z = a + 256 * b) (y c w : Nat) (h2 : y = c + 256 * w) : z + y = (a + c) + 256 * (b + w) := by omega
theorem bs5 (a z : Nat) (h : a ≤ 64) : (a + 256 * z) % 128 = a := by omega
theorem bc_sum (c0 c1 c2 c3 c4 c5 c6 c7 : Nat) (g0 : c0 ≤ 8) (g1 : c1 ≤ 8) (g2 : c2 ≤ 8) (g3 : c3 ≤ 8) (g4 : c4 ≤ 8) (g5 : c5 ≤ 8) (g6 : c6 ≤ 8) (g7 : c7 ≤ 8) (z1 z2 z3 z4 z5 z6 z7 y : Nat) (hy : y = c0 + 256 * z1) (h1 : z1 = c1 + 256 * z2) (h2 : z2 = c2 + 256 * z3) (h3 : z3 = c3 + 256 * z4) (h4 : z4 = c4 + 256 * z5) (h5 : z5 = c5 + 256 * z6) (h6 : z6 = c6 + 256 * z7) (h7 : z7 = c7 + 256 * 0) : ∃ d e f, d = y + y / 256 ∧ e = d + d / 65536 ∧ f = e + e / 4294967296 ∧ f % 128 = c0 + c1 + c2 + c3 + c4 + c5 + c6 + c7 ∧ d ≤ y + y ∧ e ≤ d + d ∧ f ≤ e + e := by
  have h8 : (0 : Nat) = 0 + 256 * 0 := rfl
  have d0 := bs4 _ _ _ hy _ _ _ h1
  have d1 := bs4 _ _ _ h1 _ _ _ h2
  have d2 := bs4 _ _ _ h2 _ _ _ h3
  have d3 := bs4 _ _ _ h3 _ _ _ h4
  have d4 := bs4 _ _ _ h4 _ _ _ h5
  have d5 := bs4 _ _ _ h5 _ _ _ h6
  have d6 := bs4 _ _ _ h6 _ _ _ h7
  have d7 := bs4 _ _ _ h7 _ _ _ h8
  have e0 := bs4 _ _ _ d0 _ _ _ d2
  have e1 := bs4 _ _ _ d1 _ _ _ d3
  have e2 := bs4 _ _ _ d2 _ _ _ d4
  have e3 := bs4 _ _ _ d3 _ _ _ d5
  have e4 := bs4 _ _ _ d4 _ _ _ d6
  have e5 := bs4 _ _ _ d5 _ _ _ d7
  have f0 := bs4 _ _ _ e0 _ _ _ e4
  have q1 : y / 256 = z1 := by rw [hy]; exact bs1 _ _ (Nat.lt_of_le_of_lt g0 (by decide))
  have q2 : (y + z1) / 65536 = z2 + z3 := by
    rw [bs2, d0, bs1 _ _ (Nat.lt_of_le_of_lt (Nat.add_le_add g0 g1) (by decide)), d1, bs1 _ _ (Nat.lt_of_le_of_lt (Nat.add_le_add g1 g2) (by decide))]
  have q3 : ((y + z1) + (z2 + z3)) / 4294967296 = (z4 + z5) + (z6 + z7) := by
    rw [bs3, e0, bs1 _ _ (Nat.lt_of_le_of_lt (Nat.add_le_add (Nat.add_le_add g0 g1) (Nat.add_le_add g2 g3)) (by decide)), e1, bs1 _ _ (Nat.lt_of_le_of_lt (Nat.add_le_add (Nat.add_le_add g1 g2) (Nat.add_le_add g3 g4)) (by decide)), e2, bs1 _ _ (Nat.lt_of_le_of_lt (Nat.add_le_add (Nat.add_le_add g2 g3) (Nat.add_le_add g4 g5)) (by decide)), e3, bs1 _ _ (Nat.lt_of_le_of_lt (Nat.add_le_add (Nat.add_le_add g3 g4) (Nat.add_le_add g5 g6)) (by decide))]
  refine ⟨_, _, _, rfl, rfl, rfl, ?_, ?_, ?_, ?_⟩
  · rw [q1, q2, q3, f0, bs5 _ _ (Nat.le_trans (Nat.add_le_add (Nat.add_le_add (Nat.add_le_add g0 g1) (Nat.add_le_add g2 g3)) (Nat.add_le_add (Nat.add_le_add g4 g5) (Nat.add_le_add g6 g7))) (by decide))]
    simp only [Nat.add_assoc]
  · exact Nat.add_le_add_left (Nat.div_le_self _ _) _
  · exact Nat.add_le_add_left (Nat.div_le_self _ _) _
  · exact Nat.add_le_add_left (Nat.div_le_self _ _) _
