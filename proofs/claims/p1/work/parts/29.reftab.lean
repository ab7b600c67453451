/-! the reference's table: a byte a position -/
theorem tb_ofNat (v c : Nat) : tb (lN v) c = (decide (c < 64) && v.testBit c) := by
  unfold tb
  rw [show (lN v).toBitVec = BitVec.ofNat 64 v from rfl, BitVec.getLsbD_ofNat]
theorem tb_cs : ∀ k, k < 64 → (((nI k).toInt64 &&& 63).toBitVec.smod 64).toNat = k := by decide +kernel
theorem tb_sshr (x : Int64) {k c : Nat} (hc : k + c < 64) : tb (x >>> ((nI k).toInt64 &&& 63)) c = tb x (k + c) := by
  unfold tb
  rw [Int64.toBitVec_shiftRight]
  show (x.toBitVec.sshiftRight (((nI k).toInt64 &&& 63).toBitVec.smod 64).toNat).getLsbD c = _
  rw [tb_cs k (by omega), BitVec.getLsbD_sshiftRight]
  simp [show ¬ 64 ≤ c by omega, hc]
theorem tb_255 : ∀ c, c < 64 → tb 255 c = decide (c < 8) := by decide +kernel
/-- the byte at a place -/
def BY (t : Nat → Int64) (a : Nat) : Nat := (t (a / 8)).toBitVec.toNat / 2 ^ (8 * (a % 8)) % 2 ^ 8
theorem BY_lt (t : Nat → Int64) (a : Nat) : BY t a < 256 := Nat.mod_lt _ (by decide)
theorem BY_bit (t : Nat → Int64) (a : Nat) {i : Nat} (hi : i < 8) : (BY t a).testBit i = tb (t (a / 8)) (8 * (a % 8) + i) := by
  unfold BY tb
  rw [Nat.testBit_mod_two_pow, decide_eq_true hi, Bool.true_and, Nat.testBit_div_two_pow, BitVec.testBit_toNat, Nat.add_comm]
theorem BY_ext {u v : Nat} (hu : u < 256) (hv : v < 256) (h : ∀ i, i < 8 → u.testBit i = v.testBit i) : u = v := by
  apply Nat.eq_of_testBit_eq
  intro i
  rcases Nat.lt_or_ge i 8 with h1 | h1
  · exact h i h1
  · rw [Nat.testBit_lt_two_pow (Nat.lt_of_lt_of_le (show u < 2 ^ 8 from hu) (Nat.pow_le_pow_right (by decide) h1)), Nat.testBit_lt_two_pow (Nat.lt_of_lt_of_le (show v < 2 ^ 8 from hv) (Nat.pow_le_pow_right (by decide) h1))]
def ix (k who w m b : Nat) : Nat := (2 * (k - 1) + who) * 262144 + (w * 64 + m) * 64 + b
theorem ix_lt {k who w m b : Nat} (hk : k < 6) (hk1 : 1 ≤ k) (hwho : who < 2) (hw : w < 64) (hm : m < 64) (hb : b < 64) : ix k who w m b < 2621440 := by
  unfold ix
  omega
theorem ix_inj {k who w m b k' who' w' m' b' : Nat} (hk1 : 1 ≤ k) (hk1' : 1 ≤ k') (hwho : who < 2) (hwho' : who' < 2) (hw : w < 64) (hm : m < 64) (hb : b < 64) (hw' : w' < 64) (hm' : m' < 64) (hb' : b' < 64) (h : ix k who w m b = ix k' who' w' m' b') : k = k' ∧ who = who' ∧ w = w' ∧ m = m' ∧ b = b' := by
  unfold ix at h
  refine ⟨?_, ?_, ?_, ?_, ?_⟩ <;> omega
theorem r_cell {k who w m b : Nat} (hk : k < 6) (hk1 : 1 ≤ k) : mX5_cell (nI k) (nI who) (nI w) (nI m) (nI b) = nI (ix k who w m b) := by
  unfold mX5_cell ix
  rw [show (1 : Int32) = nI 1 from rfl, pk_sub hk1, show (2 : Int32) = nI 2 from rfl, pk_mul, nI_add, show (262144 : Int32) = nI 262144 from rfl, pk_mul, show (64 : Int32) = nI 64 from rfl, pk_mul, nI_add, pk_mul, nI_add, nI_add]
theorem r_at {a : Nat} (h : a < 2621440) : (nI a >>> ((3 : Int32) &&& 31)).toNatClampNeg = a / 8 ∧ (8 : Int32) * (nI a &&& 7) = nI (8 * (a % 8)) := by
  constructor
  · rw [pk_shrN (by omega) ((3 : Int32) &&& 31) 3 (by decide), nI_clamp (by omega)]
  · rw [pk_andN (by omega) 3 (by decide), show (8 : Int32) = nI 8 from rfl, pk_mul]
theorem r_known {t : Nat → Int64} {k who w m b : Nat} (hk : k < 6) (hk1 : 1 ≤ k) (hwho : who < 2) (hw : w < 64) (hm : m < 64) (hb : b < 64) : mX5_known t (nI k) (nI who) (nI w) (nI m) (nI b) = nI (BY t (ix k who w m b)) - 1 := by
  have ha := ix_lt hk hk1 hwho hw hm hb
  unfold mX5_known
  rw [r_cell hk hk1, (r_at ha).1, (r_at ha).2]
  have e : (t (ix k who w m b / 8) >>> ((nI (8 * (ix k who w m b % 8))).toInt64 &&& 63)) &&& (255 : Int64) = lN (BY t (ix k who w m b)) := by
    apply tb_ext
    intro c hc
    rw [tb_and, tb_255 c hc, tb_ofNat, decide_eq_true hc, Bool.true_and]
    rcases Nat.lt_or_ge c 8 with h | h
    · rw [decide_eq_true h, Bool.and_true, tb_sshr _ (by omega), BY_bit _ _ h]
    · rw [decide_eq_false (by omega), Bool.and_false, Nat.testBit_lt_two_pow (Nat.lt_of_lt_of_le (show _ < 2 ^ 8 from BY_lt _ _) (Nat.pow_le_pow_right (by decide) h))]
  rw [e, lN_i]
theorem r_note {t : Nat → Int64} {k who w m b d : Nat} (hk : k < 6) (hk1 : 1 ≤ k) (hwho : who < 2) (hw : w < 64) (hm : m < 64) (hb : b < 64) (hd : d < 255) (h0 : BY t (ix k who w m b) = 0) {a : Nat} : BY (mX5_note t (nI k) (nI who) (nI w) (nI m) (nI b) (nI d)) a = if a = ix k who w m b then d + 1 else BY t a := by
  have ha := ix_lt hk hk1 hwho hw hm hb
  unfold mX5_note
  rw [r_cell hk hk1, (r_at ha).1, (r_at ha).2, show nI d + 1 = nI (d + 1) from nI_1 d, nI_l (by omega)]
  generalize ix k who w m b = q at *
  have hsh : ∀ c, c < 64 → tb (lN (d + 1) <<< ((nI (8 * (q % 8))).toInt64 &&& 63)) c = (decide (8 * (q % 8) ≤ c) && (d + 1).testBit (c - 8 * (q % 8))) := by
    intro c hc
    rw [tb_shl _ (by omega) hc, tb_ofNat, decide_eq_true (show c - 8 * (q % 8) < 64 by omega), Bool.true_and]
  by_cases hq : a / 8 = q / 8
  · by_cases hq2 : a = q
    · subst hq2
      rw [if_pos rfl]
      apply BY_ext (BY_lt _ _) (by omega)
      intro i hi
      rw [BY_bit _ _ hi, pk_uLs, tb_or, hsh _ (by omega), decide_eq_true (by omega), Bool.true_and, show 8 * (a % 8) + i - 8 * (a % 8) = i by omega, ← BY_bit _ _ hi, h0, Nat.zero_testBit, Bool.false_or]
    · rw [if_neg hq2]
      apply BY_ext (BY_lt _ _) (BY_lt _ _)
      intro i hi
      rw [BY_bit _ _ hi, hq, pk_uLs, tb_or, hsh _ (by omega), BY_bit _ _ hi, hq]
      have hne : a % 8 ≠ q % 8 := by omega
      rcases Nat.lt_or_ge (8 * (a % 8) + i) (8 * (q % 8)) with h | h
      · rw [decide_eq_false (by omega), Bool.false_and, Bool.or_false]
      · rw [Nat.testBit_lt_two_pow (Nat.lt_of_lt_of_le (show d + 1 < 2 ^ 8 by omega) (Nat.pow_le_pow_right (by decide) (show 8 ≤ 8 * (a % 8) + i - 8 * (q % 8) by omega))), Bool.and_false, Bool.or_false]
  · rw [if_neg (fun e => hq (by rw [e]))]
    unfold BY
    rw [pk_uLn hq]
theorem nI_byte_neg : ∀ v, v < 256 → (nI v - 1 < 0 ↔ v = 0) := by decide +kernel
theorem nI_byte_le : ∀ v, v < 256 → (0 ≤ nI v - 1 ↔ v ≠ 0) := by decide +kernel
theorem nI_byte_eq {v d : Nat} (hv : v < 256) (hd : d < 256) : nI v - 1 = nI d ↔ v = d + 1 := by
  constructor
  · intro h
    have h2 : nI v - 1 + 1 = nI d + 1 := by rw [h]
    rw [Int32.sub_add_cancel, show nI d + 1 = nI (d + 1) from nI_1 d] at h2
    exact (nI_eq (by omega) (by omega)).mp h2
  · intro h
    rw [h]
    exact nI_pred d
theorem r_reach {t : Nat → Int64} {k w m b d : Nat} (hk : k < 6) (hk1 : 1 ≤ k) (hw : w < 64) (hm : m < 64) (hb : b < 64) (hd : d < 255) : mX5_reaches t (nI k) (nI w) (nI m) (nI b) (nI d) = true ↔ BY t (ix k 1 w m b) = d + 1 := by
  unfold mX5_reaches
  rw [show (1 : Int32) = nI 1 from rfl, r_known hk hk1 (by omega) hw hm hb]
  by_cases h : nI (BY t (ix k 1 w m b)) - 1 = nI d
  · rw [if_pos h]
    exact ⟨fun _ => (nI_byte_eq (BY_lt _ _) (by omega)).mp h, fun _ => rfl⟩
  · rw [if_neg h]
    exact ⟨fun q => (by cases q), fun q => absurd ((nI_byte_eq (BY_lt _ _) (by omega)).mpr q) h⟩
