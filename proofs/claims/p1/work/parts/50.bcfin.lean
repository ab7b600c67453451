/-! a long's bits are counted -/
def bts : Nat → Nat → List Nat
  | 0, _ => []
  | k + 1, n => n % 256 :: bts k (n / 256)
theorem bts_W : ∀ (k n : Nat), n < 256 ^ k → Wb (bts k n) = n
  | 0, n, h => by
    have : n = 0 := by simpa using h
    subst this
    rfl
  | k + 1, n, h => by
    show n % 256 + 256 * Wb (bts k (n / 256)) = n
    have h1 : n / 256 < 256 ^ k := by
      rw [Nat.div_lt_iff_lt_mul (by decide)]
      rw [Nat.pow_succ] at h
      exact h
    rw [bts_W k _ h1]
    omega
theorem Wb_lt (m : Nat) : ∀ l : List Nat, (∀ b, b ∈ l → m * b + 1 ≤ 256) → m * Wb l < 256 ^ l.length
  | [], _ => by simp [Wb]
  | b :: t, h => by
    have i1 := Wb_lt m t (fun b hb => h b (List.mem_cons_of_mem _ hb))
    have hb := h b List.mem_cons_self
    show m * (b + 256 * Wb t) < 256 ^ (t.length + 1)
    rw [Nat.pow_succ, Nat.mul_add, show m * (256 * Wb t) = 256 * (m * Wb t) by rw [Nat.mul_left_comm]]
    generalize m * Wb t = x at *
    generalize m * b = y at *
    generalize 256 ^ t.length = z at *
    omega
theorem bts_8 (n : Nat) (hn : n < 2 ^ 64) : ∃ b0 b1 b2 b3 b4 b5 b6 b7, (b0 < 256 ∧ b1 < 256 ∧ b2 < 256 ∧ b3 < 256 ∧ b4 < 256 ∧ b5 < 256 ∧ b6 < 256 ∧ b7 < 256) ∧ n = Wb [b0, b1, b2, b3, b4, b5, b6, b7] := by
  have h := bts_W 8 n (Nat.lt_of_lt_of_le hn (by decide))
  have m : ∀ x : Nat, x % 256 < 256 := fun x => Nat.mod_lt _ (by decide)
  exact ⟨_, _, _, _, _, _, _, _, ⟨m _, m _, m _, m _, m _, m _, m _, m _⟩, h.symm⟩
theorem bc_N (n : Nat) (hn : n < 2 ^ 64) : ∃ y d e f, y = bc3 (bc2 (bc1 n)) ∧ d = y + y / 256 ∧ e = d + d / 65536 ∧ f = e + e / 4294967296 ∧ ((n / 2) &&& 6148914691236517205) ≤ n ∧ y < 2 ^ 64 ∧ d < 2 ^ 64 ∧ e < 2 ^ 64 ∧ f < 2 ^ 64 ∧ bc2 (bc1 n) + bc2 (bc1 n) / 16 < 2 ^ 64 ∧ bc2 (bc1 n) < 2 ^ 64 ∧ f % 128 = ct (fun k => n.testBit k) 64 := by
  obtain ⟨b0, b1, b2, b3, b4, b5, b6, b7, hb, rfl⟩ := bts_8 n hn
  obtain ⟨g0, g1, g2, g3, g4, g5, g6, g7⟩ := hb
  have hl : ∀ b, b ∈ [b0, b1, b2, b3, b4, b5, b6, b7] → b < 256 := by
    intro b hb
    simp only [List.mem_cons, List.not_mem_nil, or_false] at hb
    rcases hb with rfl | rfl | rfl | rfl | rfl | rfl | rfl | rfl <;> assumption
  have hA := bA _ hl
  have hlA : ∀ b, b ∈ [b0, b1, b2, b3, b4, b5, b6, b7].map gA → b < 256 := by
    intro b hb
    obtain ⟨a, ha, rfl⟩ := List.mem_map.mp hb
    exact (gA_f a (hl a ha) 0 (by decide)).2.2
  have hB := bB _ hlA
  have hlB : ∀ b, b ∈ ([b0, b1, b2, b3, b4, b5, b6, b7].map gA).map gB → b < 256 ∧ b % 16 ≤ 4 ∧ b / 16 ≤ 4 := by
    intro b hb
    obtain ⟨a, ha, rfl⟩ := List.mem_map.mp hb
    obtain ⟨a', ha', rfl⟩ := List.mem_map.mp ha
    have := gAB a' (hl a' ha')
    exact ⟨this.1, this.2.1, this.2.2.1⟩
  have hC := bC _ hlB
  have l1 : [b0, b1, b2, b3, b4, b5, b6, b7].length = 8 := rfl
  have m1 : mkb 85 8 = 6148914691236517205 := by decide +kernel
  have m2 : mkb 51 8 = 3689348814741910323 := by decide +kernel
  have m3 : mkb 15 8 = 1085102592571150095 := by decide +kernel
  have p8 : (256 : Nat) ^ 8 = 2 ^ 64 := by decide
  rw [l1, m1] at hA
  rw [List.length_map, l1, m2] at hB
  rw [List.length_map, List.length_map, l1, m3] at hC
  have e1 : bc1 (Wb [b0, b1, b2, b3, b4, b5, b6, b7]) = Wb ([b0, b1, b2, b3, b4, b5, b6, b7].map gA) := hA.2
  have e2 : bc2 (bc1 (Wb [b0, b1, b2, b3, b4, b5, b6, b7])) = Wb (([b0, b1, b2, b3, b4, b5, b6, b7].map gA).map gB) := by
    rw [e1]; exact hB
  have e3 : bc3 (bc2 (bc1 (Wb [b0, b1, b2, b3, b4, b5, b6, b7]))) = Wb ((([b0, b1, b2, b3, b4, b5, b6, b7].map gA).map gB).map gC) := by
    rw [e2]; exact hC.2
  have q0 := gAB b0 g0
  have q1 := gAB b1 g1
  have q2 := gAB b2 g2
  have q3 := gAB b3 g3
  have q4 := gAB b4 g4
  have q5 := gAB b5 g5
  have q6 := gAB b6 g6
  have q7 := gAB b7 g7
  obtain ⟨d, e, f, hd, he, hf, hs, i1, i2, i3⟩ := bc_sum _ _ _ _ _ _ _ _ q0.2.2.2.2 q1.2.2.2.2 q2.2.2.2.2 q3.2.2.2.2 q4.2.2.2.2 q5.2.2.2.2 q6.2.2.2.2 q7.2.2.2.2 (Wb [gC (gB (gA b1)), gC (gB (gA b2)), gC (gB (gA b3)), gC (gB (gA b4)), gC (gB (gA b5)), gC (gB (gA b6)), gC (gB (gA b7))]) (Wb [gC (gB (gA b2)), gC (gB (gA b3)), gC (gB (gA b4)), gC (gB (gA b5)), gC (gB (gA b6)), gC (gB (gA b7))]) (Wb [gC (gB (gA b3)), gC (gB (gA b4)), gC (gB (gA b5)), gC (gB (gA b6)), gC (gB (gA b7))]) (Wb [gC (gB (gA b4)), gC (gB (gA b5)), gC (gB (gA b6)), gC (gB (gA b7))]) (Wb [gC (gB (gA b5)), gC (gB (gA b6)), gC (gB (gA b7))]) (Wb [gC (gB (gA b6)), gC (gB (gA b7))]) (Wb [gC (gB (gA b7))]) (bc3 (bc2 (bc1 (Wb [b0, b1, b2, b3, b4, b5, b6, b7])))) e3 rfl rfl rfl rfl rfl rfl rfl
  have y16 : 16 * bc3 (bc2 (bc1 (Wb [b0, b1, b2, b3, b4, b5, b6, b7]))) < 2 ^ 64 := by
    have := Wb_lt 16 ((([b0, b1, b2, b3, b4, b5, b6, b7].map gA).map gB).map gC) (fun b hb => by
      obtain ⟨a, ha, rfl⟩ := List.mem_map.mp hb
      obtain ⟨a', ha', rfl⟩ := List.mem_map.mp ha
      obtain ⟨a'', ha'', rfl⟩ := List.mem_map.mp ha'
      have := (gAB a'' (hl a'' ha'')).2.2.2.2
      exact Nat.le_trans (Nat.add_le_add_right (Nat.mul_le_mul_left 16 this) 1) (by decide))
    rw [List.length_map, List.length_map, List.length_map, l1, p8, ← e3] at this
    exact this
  have x3 : 3 * bc2 (bc1 (Wb [b0, b1, b2, b3, b4, b5, b6, b7])) < 2 ^ 64 := by
    have := Wb_lt 3 (([b0, b1, b2, b3, b4, b5, b6, b7].map gA).map gB) (fun b hb => by
      have := hlB b hb
      clear hb hlB hC e1 e2 e3 hA hB hs hd he hf i1 i2 i3 y16 q0 q1 q2 q3 q4 q5 q6 q7
      omega)
    rw [List.length_map, List.length_map, l1, p8, ← e2] at this
    exact this
  have hc := ctW [b0, b1, b2, b3, b4, b5, b6, b7] hl
  have h64 : 8 * [b0, b1, b2, b3, b4, b5, b6, b7].length = 64 := rfl
  rw [h64] at hc
  simp only [List.map_cons, List.map_nil, List.sum_cons, List.sum_nil] at hc
  rw [← q0.2.2.2.1, ← q1.2.2.2.1, ← q2.2.2.2.1, ← q3.2.2.2.1, ← q4.2.2.2.1, ← q5.2.2.2.1, ← q6.2.2.2.1, ← q7.2.2.2.1] at hc
  refine ⟨_, d, e, f, rfl, hd, he, hf, hA.1, ?_⟩
  have hfin : f % 128 = ct (fun k => (Wb [b0, b1, b2, b3, b4, b5, b6, b7]).testBit k) 64 := by
    rw [hs, hc]
    simp only [Nat.add_assoc, Nat.add_zero]
  generalize bc3 (bc2 (bc1 (Wb [b0, b1, b2, b3, b4, b5, b6, b7]))) = y at y16 i1
  generalize bc2 (bc1 (Wb [b0, b1, b2, b3, b4, b5, b6, b7])) = x at x3
  clear hd he hf hs hc e1 e2 e3 hA hB hC hlA hlB hl q0 q1 q2 q3 q4 q5 q6 q7 m1 m2 m3 p8 h64 l1 hn
  exact ⟨by omega, by omega, by omega, by omega, by omega, by omega, hfin⟩
theorem c_bc (x : Int64) : mJ13_bitCount_95d88 x = nI (ct (fun k => tb x k) 64) := by
  obtain ⟨n, hn, rfl⟩ := wb_of x
  obtain ⟨y, d, e, f, hy, hd, he, hf, h1, y64, d64, e64, f64, h3, h4, h5⟩ := bc_N n hn
  have hle : ∀ a b : Nat, a ≤ b → b < 2 ^ 64 → a < 2 ^ 64 := fun a b => Nat.lt_of_le_of_lt
  have s1 : lN n - ((((lN n).toUInt64 >>> ((1 : Int32).toInt64.toUInt64 &&& Int64.toUInt64 63)).toInt64) &&& (6148914691236517205 : Int64)) = lN (bc1 n) := by
    rw [show (1 : Int32) = nI 1 from rfl, wb_shr hn (by decide), show (6148914691236517205 : Int64) = lN 6148914691236517205 from rfl, wb_and (hle _ _ (Nat.div_le_self _ _) hn) (by decide), Nat.pow_one, lN_sub h1]
    rfl
  have hb1 : bc1 n < 2 ^ 64 := hle _ _ (Nat.sub_le _ _) hn
  have s2 : (lN (bc1 n) &&& (3689348814741910323 : Int64)) + ((((lN (bc1 n)).toUInt64 >>> ((2 : Int32).toInt64.toUInt64 &&& Int64.toUInt64 63)).toInt64) &&& (3689348814741910323 : Int64)) = lN (bc2 (bc1 n)) := by
    rw [show (2 : Int32) = nI 2 from rfl, wb_shr hb1 (by decide), show (3689348814741910323 : Int64) = lN 3689348814741910323 from rfl, wb_and hb1 (by decide), wb_and (hle _ _ (Nat.div_le_self _ _) hb1) (by decide), lN_add]
    rfl
  have s3 : (lN (bc2 (bc1 n)) + (((lN (bc2 (bc1 n))).toUInt64 >>> ((4 : Int32).toInt64.toUInt64 &&& Int64.toUInt64 63)).toInt64)) &&& (1085102592571150095 : Int64) = lN y := by
    rw [show (4 : Int32) = nI 4 from rfl, wb_shr h4 (by decide), show (1085102592571150095 : Int64) = lN 1085102592571150095 from rfl, lN_add, wb_and h3 (by decide), hy]
    rfl
  have s4 : lN y + (((lN y).toUInt64 >>> ((8 : Int32).toInt64.toUInt64 &&& Int64.toUInt64 63)).toInt64) = lN d := by
    rw [show (8 : Int32) = nI 8 from rfl, wb_shr y64 (by decide), lN_add, hd]
  have s5 : lN d + (((lN d).toUInt64 >>> ((16 : Int32).toInt64.toUInt64 &&& Int64.toUInt64 63)).toInt64) = lN e := by
    rw [show (16 : Int32) = nI 16 from rfl, wb_shr d64 (by decide), lN_add, he]
  have s6 : lN e + (((lN e).toUInt64 >>> ((32 : Int32).toInt64.toUInt64 &&& Int64.toUInt64 63)).toInt64) = lN f := by
    rw [show (32 : Int32) = nI 32 from rfl, wb_shr e64 (by decide), lN_add, hf]
  unfold mJ13_bitCount_95d88
  rw [s1, s2, s3, s4, s5, s6, lN_i, pk_and (nI f) (m := 127) 7 (by decide)]
  have e1 : (nI f).toBitVec.toNat % 2 ^ 7 = f % 128 := by
    show (BitVec.ofNat 32 f).toNat % 2 ^ 7 = f % 128
    rw [BitVec.toNat_ofNat]
    clear hy hd he hf h1 y64 d64 e64 f64 h3 h4 h5 s1 s2 s3 s4 s5 s6 hb1 hle hn
    omega
  rw [e1, h5]
  congr 1
  apply ct_cong
  intro k hk
  rw [tb_ofNat, decide_eq_true hk, Bool.true_and]
