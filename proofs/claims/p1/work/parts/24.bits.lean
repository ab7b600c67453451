/-! bits of a long (some rows begun from the kit's laws/BITS) -/
def tb (x : Int64) (c : Nat) : Bool := x.toBitVec.getLsbD c
theorem tb_and (x y : Int64) (c : Nat) : tb (x &&& y) c = (tb x c && tb y c) := by unfold tb; rw [Int64.toBitVec_and, BitVec.getLsbD_and]
theorem tb_or (x y : Int64) (c : Nat) : tb (x ||| y) c = (tb x c || tb y c) := by unfold tb; rw [Int64.toBitVec_or, BitVec.getLsbD_or]
theorem tb_m1 : ∀ c, c < 64 → tb (-1) c = true := by decide +kernel
theorem tb_not (x : Int64) {c : Nat} (h : c < 64) : tb (x ^^^ (-1)) c = !tb x c := by
  have h1 := tb_m1 c h
  unfold tb at *
  rw [Int64.toBitVec_xor, BitVec.getLsbD_xor, h1]; simp
theorem tb_0 (c : Nat) : tb 0 c = false := BitVec.getLsbD_zero
theorem tb_ge {x : Int64} {c : Nat} (h : 64 ≤ c) : tb x c = false := BitVec.getLsbD_of_ge _ _ h
theorem tb_lt {x : Int64} {c : Nat} (h : tb x c = true) : c < 64 := by
  rcases Nat.lt_or_ge c 64 with h1 | h1
  · exact h1
  · rw [tb_ge h1] at h; cases h
theorem tb_ext {x y : Int64} (h : ∀ c, c < 64 → tb x c = tb y c) : x = y := Int64.toBitVec_inj.mp (BitVec.eq_of_getLsbD_eq (fun i hi => h i hi))
theorem tb_cmp0 (x : Int64) : lg_cmp x 0 = 0 ↔ x = 0 := lg_cmp_eq x 0
theorem tb_zero {x : Int64} : x = 0 ↔ ∀ c, c < 64 → tb x c = false :=
  ⟨fun h c _ => by rw [h]; exact tb_0 c, fun h => tb_ext (fun c hc => by rw [h c hc, tb_0])⟩
theorem tb_s1 : ∀ j, j < 64 → ((1 : Int64) <<< ((nI j).toInt64 &&& 63)).toBitVec = BitVec.twoPow 64 j := by decide +kernel
theorem tb_bit0 : ∀ j, j < 64 → mX0_bit (nI j) = (1 : Int64) <<< ((nI j).toInt64 &&& 63) := by decide +kernel
theorem tb_bit {j : Nat} (hj : j < 64) (c : Nat) : tb (mX0_bit (nI j)) c = decide (c = j) := by
  rw [tb_bit0 j hj]
  unfold tb
  rw [tb_s1 j hj, BitVec.getLsbD_twoPow]
  by_cases h : c = j
  · subst h; simp [hj]
  · rw [decide_eq_false h]
    simp only [Bool.and_eq_false_iff, decide_eq_false_iff_not]
    exact Or.inr (fun q => h q.symm)
theorem tb_bitN : mX0_bit (-1) = 0 := by decide +kernel
theorem tb_andbit (x : Int64) {j : Nat} (hj : j < 64) : lg_cmp (x &&& mX0_bit (nI j)) 0 = 0 ↔ tb x j = false := by
  rw [tb_cmp0, tb_zero]
  constructor
  · intro h
    have := h j hj
    rwa [tb_and, tb_bit hj, decide_eq_true rfl, Bool.and_true] at this
  · intro h c hc
    rw [tb_and, tb_bit hj]
    by_cases h1 : c = j
    · subst h1; rw [h]; rfl
    · rw [decide_eq_false h1, Bool.and_false]
theorem tb_c : ∀ k, k < 64 → ((nI k).toInt64 &&& 63).toBitVec.smod 64 = BitVec.ofNat 64 k := by decide +kernel
theorem tb_cu : ∀ k, k < 64 → ((nI k).toInt64.toUInt64 &&& Int64.toUInt64 63).toNat % 64 = k := by decide +kernel
theorem tb_shl (x : Int64) {k c : Nat} (hk : k < 64) (hc : c < 64) : tb (x <<< ((nI k).toInt64 &&& 63)) c = (decide (k ≤ c) && tb x (c - k)) := by
  unfold tb
  rw [Int64.toBitVec_shiftLeft, tb_c k hk, BitVec.shiftLeft_eq', BitVec.toNat_ofNat, Nat.mod_eq_of_lt (show k < 2 ^ 64 by omega), BitVec.getLsbD_shiftLeft]
  rcases Nat.lt_or_ge c k with h | h
  · simp [h, Nat.not_le.mpr h]
  · simp [hc, h, Nat.not_lt.mpr h]
theorem tb_shr (x : Int64) {k : Nat} (hk : k < 64) (c : Nat) : tb ((x.toUInt64 >>> ((nI k).toInt64.toUInt64 &&& Int64.toUInt64 63)).toInt64) c = tb x (k + c) := by
  show (x.toUInt64 >>> ((nI k).toInt64.toUInt64 &&& Int64.toUInt64 63)).toBitVec.getLsbD c = x.toUInt64.toBitVec.getLsbD (k + c)
  rw [UInt64.toBitVec_shiftRight]
  show (x.toUInt64.toBitVec >>> (((nI k).toInt64.toUInt64 &&& Int64.toUInt64 63).toBitVec % 64).toNat).getLsbD c = _
  have h : (((nI k).toInt64.toUInt64 &&& Int64.toUInt64 63).toBitVec % 64).toNat = k := by
    have := tb_cu k hk
    rw [BitVec.toNat_umod]
    exact this
  rw [h, BitVec.getLsbD_ushiftRight]
/-! ints of a board -/
theorem et_n1 (j : Nat) : nI j + 1 = nI (j + 1) := nI_1 j
theorem et_i32 {x : Int32} (h0 : ¬ x < 0) (h : ¬ (63 : Int32) < x) : ∃ j : Nat, j < 64 ∧ x = nI j := by
  rcases pk_ix x (n := 64) (by decide) with h1 | h1 | h1
  · exact absurd h1 h0
  · exfalso
    apply h
    have h2 := Int32.le_iff_toInt_le.mp h1
    apply Int32.lt_iff_toInt_lt.mpr
    have h3 : (nI 64).toInt = 64 := by decide
    have h4 : (63 : Int32).toInt = 63 := by decide
    omega
  · exact h1
