/-! the lowest bits of a long -/
theorem low_ex : ∀ n : Nat, 0 < n → ∃ j q, n = 2 ^ j * (2 * q + 1)
  | 0, h => absurd h (Nat.lt_irrefl 0)
  | n + 1, _ => by
    rcases Nat.mod_two_eq_zero_or_one (n + 1) with h | h
    · have hlt : (n + 1) / 2 < n + 1 := Nat.div_lt_self (by omega) (by omega)
      obtain ⟨j, q, e⟩ := low_ex ((n + 1) / 2) (by omega)
      refine ⟨j + 1, q, ?_⟩
      rw [Nat.pow_succ, Nat.mul_assoc, Nat.mul_left_comm, ← e]
      omega
    · exact ⟨0, (n + 1) / 2, by omega⟩
termination_by n => n
theorem tb_mul (j a i : Nat) : (2 ^ j * a).testBit i = (decide (j ≤ i) && a.testBit (i - j)) := by
  have := Nat.testBit_two_pow_mul_add (i := j) a (Nat.two_pow_pos j) i
  rw [Nat.add_zero] at this
  rw [this]
  by_cases h : i < j
  · rw [if_pos h, decide_eq_false (by omega)]; simp
  · rw [if_neg h, decide_eq_true (by omega), Bool.true_and]
theorem low_and (j q : Nat) (i : Nat) : ((2 ^ j * (2 * q + 1)) &&& (2 ^ j * (2 * q + 1) - 1)).testBit i = (decide (i ≠ j) && (2 ^ j * (2 * q + 1)).testBit i) := by
  have hp := Nat.two_pow_pos j
  have e : 2 ^ j * (2 * q + 1) - 1 = 2 ^ j * (2 * q) + (2 ^ j - 1) := by
    rw [Nat.mul_add, Nat.mul_one]
    omega
  rw [Nat.testBit_and, e, Nat.testBit_two_pow_mul_add _ (Nat.sub_lt hp (by decide)), tb_mul]
  rcases Nat.lt_trichotomy i j with h | h | h
  · rw [decide_eq_false (show ¬ j ≤ i by omega)]; simp
  · subst h
    rw [if_neg (Nat.lt_irrefl i), Nat.sub_self]
    simp
  · rw [if_neg (by omega), decide_eq_true (show j ≤ i by omega), decide_eq_true (show i ≠ j by omega), Bool.true_and, Bool.true_and]
    obtain ⟨t, ht⟩ : ∃ t, i - j = t + 1 := ⟨i - j - 1, by omega⟩
    rw [ht, Nat.testBit_succ, Nat.testBit_succ, show (2 * q + 1) / 2 = q by omega, show 2 * q / 2 = q by omega, Bool.and_self]
theorem low_neg (j q : Nat) (hj : j < 64) (hn : 2 ^ j * (2 * q + 1) < 2 ^ 64) : (2 ^ j * (2 * q + 1)) &&& (2 ^ 64 - 2 ^ j * (2 * q + 1)) = 2 ^ j := by
  have e64 : 2 ^ 64 = 2 ^ j * (2 * 2 ^ (63 - j)) := by
    rw [← Nat.pow_succ', ← Nat.pow_add]
    congr 1
    omega
  have hq : q < 2 ^ (63 - j) := by
    rw [e64] at hn
    have := Nat.lt_of_mul_lt_mul_left hn
    omega
  have e : 2 ^ 64 - 2 ^ j * (2 * q + 1) = 2 ^ j * (2 * (2 ^ (63 - j) - (q + 1)) + 1) := by
    rw [e64, ← Nat.mul_sub]
    congr 1
    omega
  rw [e]
  apply Nat.eq_of_testBit_eq
  intro i
  rw [Nat.testBit_and, tb_mul, tb_mul, Nat.testBit_two_pow]
  rcases Nat.lt_trichotomy i j with h | h | h
  · rw [decide_eq_false (show ¬ j ≤ i by omega), decide_eq_false (show ¬ j = i by omega)]; simp
  · subst h
    rw [Nat.sub_self]
    simp
  · rw [decide_eq_true (show j ≤ i by omega), decide_eq_false (show ¬ j = i by omega), Bool.true_and, Bool.true_and]
    obtain ⟨t, ht⟩ : ∃ t, i - j = t + 1 := ⟨i - j - 1, by omega⟩
    rw [ht, Nat.testBit_succ, Nat.testBit_succ, show (2 * q + 1) / 2 = q by omega, show (2 * (2 ^ (63 - j) - (q + 1)) + 1) / 2 = 2 ^ (63 - j) - (q + 1) by omega, Nat.testBit_two_pow_sub_succ hq]
    cases q.testBit t <;> simp
theorem neg_N {n : Nat} (h0 : 0 < n) (hn : n < 2 ^ 64) : -(lN n) = lN (2 ^ 64 - n) := by
  apply wb_inj
  rw [Int64.toBitVec_neg, wb_tb, wb_tb]
  apply BitVec.eq_of_toNat_eq
  rw [BitVec.toNat_neg, BitVec.toNat_ofNat, BitVec.toNat_ofNat, Nat.mod_eq_of_lt hn]
theorem ct_lowones : ∀ (j N : Nat), ct (fun k => (2 ^ j - 1).testBit k) N = min j N
  | j, 0 => by rw [Nat.min_zero]; rfl
  | j, N + 1 => by
    rw [ct_succ, ct_lowones j N, Nat.testBit_two_pow_sub_one]
    by_cases h : N < j
    · rw [if_pos (by rw [decide_eq_true h])]; omega
    · rw [if_neg (by rw [decide_eq_false h]; decide)]; omega
/-- the lowest bit's number, and the long without it -/
theorem c_low {x : Int64} (hx : ∃ c, c < 64 ∧ tb x c = true) : ∃ j, j < 64 ∧ tb x j = true ∧ (∀ i, i < j → tb x i = false) ∧ mX3_lowest x = nI j ∧ ∀ i, i < 64 → tb (x &&& (x - (1 : Int64))) i = (decide (i ≠ j) && tb x i) := by
  obtain ⟨n, hn, rfl⟩ := wb_of x
  have h0 : 0 < n := by
    rcases Nat.eq_zero_or_pos n with h | h
    · obtain ⟨c, hc, h2⟩ := hx
      rw [h, tb_ofNat, Nat.zero_testBit, Bool.and_false] at h2
      cases h2
    · exact h
  obtain ⟨j, q, e⟩ := low_ex n h0
  have hj : j < 64 := by
    rcases Nat.lt_or_ge j 64 with h | h
    · exact h
    · exfalso
      have h1 : 2 ^ 64 ≤ 2 ^ j := Nat.pow_le_pow_right (by decide) h
      have h2 : 2 ^ j * 1 ≤ 2 ^ j * (2 * q + 1) := Nat.mul_le_mul_left _ (by omega)
      rw [← e, Nat.mul_one] at h2
      exact absurd (Nat.lt_of_lt_of_le hn h1) (Nat.not_lt.mpr h2)
  have hb : ∀ i, i < 64 → tb (lN n) i = n.testBit i := fun i hi => by rw [tb_ofNat, decide_eq_true hi, Bool.true_and]
  refine ⟨j, hj, ?_, fun i hi => ?_, ?_, fun i hi => ?_⟩
  · rw [hb j hj, e, tb_mul, Nat.sub_self]
    simp
  · rw [hb i (by omega), e, tb_mul, decide_eq_false (by omega), Bool.false_and]
  · have h2j : 2 ^ j < 2 ^ 64 := Nat.pow_lt_pow_right (by decide) hj
    unfold mX3_lowest
    have hm : 2 ^ 64 - n < 2 ^ 64 := Nat.sub_lt (Nat.two_pow_pos 64) h0
    rw [neg_N h0 hn, wb_and hn hm]
    have e2 : n &&& (2 ^ 64 - n) = 2 ^ j := by
      rw [e] at hn ⊢
      exact low_neg j q hj hn
    rw [e2, show (1 : Int64) = lN 1 from rfl, lN_sub (Nat.two_pow_pos j), c_bc]
    congr 1
    rw [ct_cong (q := fun k => (2 ^ j - 1).testBit k) (fun k hk => by rw [tb_ofNat, decide_eq_true hk, Bool.true_and]), ct_lowones]
    omega
  · rw [show (1 : Int64) = lN 1 from rfl, lN_sub h0, wb_and hn (Nat.lt_of_le_of_lt (Nat.sub_le _ _) hn), tb_ofNat, decide_eq_true hi, Bool.true_and, hb i hi]
    rw [e]
    exact low_and j q i
theorem ct_rm {p q : Nat → Bool} {j : Nat} (hp : p j = true) : ∀ c, (∀ i, i < c → q i = (decide (i ≠ j) && p i)) → ct p c = ct q c + (if j < c then 1 else 0)
  | 0, _ => rfl
  | c + 1, h => by
    rw [ct_succ, ct_succ, ct_rm hp c (fun i hi => h i (by omega)), h c (by omega)]
    rcases Nat.lt_trichotomy j c with h1 | h1 | h1
    · rw [if_pos h1, if_pos (show j < c + 1 by omega), decide_eq_true (show c ≠ j by omega), Bool.true_and]
      omega
    · subst h1
      rw [if_neg (Nat.lt_irrefl j), if_pos (show j < j + 1 by omega), hp]
      simp
    · rw [if_neg (show ¬ j < c by omega), if_neg (show ¬ j < c + 1 by omega), decide_eq_true (show c ≠ j by omega), Bool.true_and]
      omega
theorem ct_pos {p : Nat → Bool} : ∀ {n : Nat}, 0 < ct p n → ∃ c, c < n ∧ p c = true
  | 0, h => absurd h (Nat.lt_irrefl 0)
  | n + 1, h => by
    by_cases hn : p n = true
    · exact ⟨n, by omega, hn⟩
    · rw [ct_succ, if_neg hn] at h
      obtain ⟨c, h1, h2⟩ := ct_pos (n := n) (by omega)
      exact ⟨c, by omega, h2⟩
theorem ct_none {p : Nat → Bool} : ∀ (n : Nat), (∀ i, i < n → p i = false) → ct p n = 0
  | 0, _ => rfl
  | n + 1, h => by rw [ct_succ, ct_none n (fun i hi => h i (by omega)), h n (by omega)]; rfl
/-- the bit before which there are k -/
theorem c_kth : ∀ (k i : Nat) (x : Int64), k < ct (fun c => tb x c) 64 → ∃ c, c < 64 ∧ tb x c = true ∧ ct (fun c => tb x c) c = k ∧ mX3_lowest (mX3_withoutLowest_L1 k i x) = nI c
  | 0, i, x, h => by
    obtain ⟨c, h1, h2⟩ := ct_pos h
    obtain ⟨j, g1, g2, g3, g4, -⟩ := c_low ⟨c, h1, h2⟩
    rw [mX3_withoutLowest_L1]
    exact ⟨j, g1, g2, ct_none j g3, g4⟩
  | k + 1, i, x, h => by
    obtain ⟨c, h1, h2⟩ := ct_pos (Nat.lt_of_le_of_lt (Nat.zero_le _) h)
    obtain ⟨j, g1, g2, g3, -, g5⟩ := c_low ⟨c, h1, h2⟩
    rw [mX3_withoutLowest_L1]
    have hr := ct_rm (p := fun c => tb x c) (q := fun c => tb (x &&& (x - (1 : Int64))) c) (j := j) g2
    have h64 := hr 64 (fun i hi => g5 i hi)
    rw [if_pos g1] at h64
    obtain ⟨c, f1, f2, f3, f4⟩ := c_kth k (i + 1) (x &&& (x - (1 : Int64))) (by omega)
    have f2' := f2
    rw [g5 c f1, Bool.and_eq_true, decide_eq_true_eq] at f2'
    have hjc : j < c := by
      rcases Nat.lt_trichotomy j c with z | z | z
      · exact z
      · exact absurd z.symm f2'.1
      · rw [g3 c z] at f2'
        cases f2'.2
    refine ⟨c, f1, f2'.2, ?_, f4⟩
    rw [hr c (fun i hi => g5 i (by omega)), if_pos hjc, f3]
