/-! counting (begun from the kit's laws/COUNTS and laws/BITS) -/
def ct (p : Nat → Bool) : Nat → Nat
  | 0 => 0
  | n + 1 => ct p n + (if p n then 1 else 0)
theorem ct_succ (p : Nat → Bool) (n : Nat) : ct p (n + 1) = ct p n + (if p n then 1 else 0) := rfl
theorem ct_le (p : Nat → Bool) : ∀ n, ct p n ≤ n
  | 0 => Nat.le_refl _
  | n + 1 => by
    have h := ct_le p n
    rw [ct_succ]
    split <;> omega
theorem ct_split (p : Nat → Bool) (m : Nat) : ∀ n, ct p (m + n) = ct p m + ct (fun k => p (m + k)) n
  | 0 => rfl
  | n + 1 => by
    have h := ct_split p m n
    show ct p (m + n + 1) = _
    rw [ct_succ, ct_succ, h, Nat.add_assoc]
theorem ct_mono (p : Nat → Bool) {m n : Nat} (h : m ≤ n) : ct p m ≤ ct p n := by
  obtain ⟨k, rfl⟩ := Nat.exists_eq_add_of_le h
  rw [ct_split]
  omega
theorem ct_cong {p q : Nat → Bool} : ∀ {n : Nat}, (∀ k, k < n → p k = q k) → ct p n = ct q n
  | 0, _ => rfl
  | n + 1, h => by
    rw [ct_succ, ct_succ, ct_cong (fun k hk => h k (by omega)), h n (by omega)]
theorem ct_inj {p q : Nat → Bool} {f : Nat → Nat} : ∀ (t a : Nat), (∀ s, s < t → p s = true → f s < a ∧ q (f s) = true) → (∀ s s', s < t → s' < t → p s = true → p s' = true → s < s' → f s < f s') → ct p t ≤ ct q a
  | 0, a, _, _ => Nat.zero_le _
  | t + 1, a, h, hm => by
    rw [ct_succ]
    by_cases ht : p t = true
    · obtain ⟨h1, h2⟩ := h t (by omega) ht
      have ih := ct_inj t (f t) (fun s hs hp => ⟨hm s t (by omega) (by omega) hp ht hs, (h s (by omega) hp).2⟩) (fun s s' hs hs' => hm s s' (by omega) (by omega))
      have e : ct q (f t + 1) = ct q (f t) + 1 := by rw [ct_succ, if_pos h2]
      have := ct_mono q (show f t + 1 ≤ a from h1)
      rw [if_pos ht]
      omega
    · rw [if_neg ht]
      exact ct_inj t a (fun s hs hp => h s (by omega) hp) (fun s s' hs hs' => hm s s' (by omega) (by omega))
/-- two sets in the same order have the same counts -/
theorem ct_iso {p q : Nat → Bool} {P Q : Nat} (f g : Nat → Nat) (h1 : ∀ t, t < P → p t = true → f t < Q ∧ q (f t) = true ∧ g (f t) = t) (h2 : ∀ a, a < Q → q a = true → g a < P ∧ p (g a) = true ∧ f (g a) = a) (hm : ∀ t t', t < P → t' < P → p t = true → p t' = true → t < t' → f t < f t') : ct p P = ct q Q ∧ ∀ t, t < P → p t = true → ct p t = ct q (f t) := by
  have hg : ∀ a a', a < Q → a' < Q → q a = true → q a' = true → a < a' → g a < g a' := by
    intro a a' ha ha' qa qa' h
    obtain ⟨x1, x2, x3⟩ := h2 a ha qa
    obtain ⟨y1, y2, y3⟩ := h2 a' ha' qa'
    rcases Nat.lt_trichotomy (g a) (g a') with z | z | z
    · exact z
    · rw [z, y3] at x3
      omega
    · have := hm _ _ y1 x1 y2 x2 z
      rw [x3, y3] at this
      omega
  refine ⟨Nat.le_antisymm (ct_inj P Q (fun s hs hp => ⟨(h1 s hs hp).1, (h1 s hs hp).2.1⟩) hm) (ct_inj Q P (fun s hs hp => ⟨(h2 s hs hp).1, (h2 s hs hp).2.1⟩) hg), fun t ht hp => ?_⟩
  obtain ⟨a1, a2, a3⟩ := h1 t ht hp
  refine Nat.le_antisymm (ct_inj t (f t) (fun s hs hq => ⟨hm s t (by omega) ht hq hp hs, (h1 s (by omega) hq).2.1⟩) (fun s s' hs hs' => hm s s' (by omega) (by omega))) (ct_inj (f t) t (fun a ha hq => ?_) (fun s s' hs hs' => hg s s' (by omega) (by omega)))
  obtain ⟨b1, b2, b3⟩ := h2 a (by omega) hq
  refine ⟨?_, b2⟩
  have := hg a (f t) (by omega) a1 hq a2 ha
  rw [a3] at this
  exact this
/-! a long's bits, counted -/
theorem wb_inj {a b : Int64} (h : a.toBitVec = b.toBitVec) : a = b := Int64.toBitVec_inj.mp h
theorem wb_tb (n : Nat) : (lN n).toBitVec = BitVec.ofNat 64 n := rfl
theorem wb_cu : ∀ k, k < 64 → ((nI k).toInt64.toUInt64 &&& Int64.toUInt64 63) = UInt64.ofNat k := by decide +kernel
theorem wb_tn {n : Nat} (h : n < 2 ^ 64) : (lN n).toBitVec.toNat = n := by rw [wb_tb, BitVec.toNat_ofNat, Nat.mod_eq_of_lt h]
theorem wb_of (x : Int64) : ∃ n, n < 2 ^ 64 ∧ x = lN n := ⟨x.toBitVec.toNat, x.toBitVec.isLt, wb_inj (by rw [wb_tb]; simp)⟩
theorem wb_shr {n k : Nat} (hn : n < 2 ^ 64) (hk : k < 64) : ((lN n).toUInt64 >>> ((nI k).toInt64.toUInt64 &&& Int64.toUInt64 63)).toInt64 = lN (n / 2 ^ k) := by
  rw [wb_cu k hk]
  apply wb_inj
  apply BitVec.eq_of_toNat_eq
  show ((lN n).toUInt64 >>> UInt64.ofNat k).toNat = (BitVec.ofNat 64 _).toNat
  have h1 : (UInt64.ofNat k).toNat = k := by
    show (BitVec.ofNat 64 k).toNat = k
    rw [BitVec.toNat_ofNat, Nat.mod_eq_of_lt (by omega)]
  have h2 : (lN n).toUInt64.toNat = n := wb_tn hn
  rw [UInt64.toNat_shiftRight, h1, h2, Nat.mod_eq_of_lt hk, Nat.shiftRight_eq_div_pow, BitVec.toNat_ofNat, Nat.mod_eq_of_lt (Nat.lt_of_le_of_lt (Nat.div_le_self _ _) hn)]
theorem wb_and {a b : Nat} (ha : a < 2 ^ 64) (hb : b < 2 ^ 64) : lN a &&& lN b = lN (a &&& b) := by
  apply wb_inj
  rw [Int64.toBitVec_and, wb_tb, wb_tb, wb_tb]
  apply BitVec.eq_of_toNat_eq
  rw [BitVec.toNat_and, BitVec.toNat_ofNat, BitVec.toNat_ofNat, BitVec.toNat_ofNat, Nat.mod_eq_of_lt ha, Nat.mod_eq_of_lt hb, Nat.mod_eq_of_lt (Nat.and_lt_two_pow _ hb)]
def bc1 (n : Nat) : Nat := n - ((n / 2) &&& 6148914691236517205)
def bc2 (n : Nat) : Nat := (n &&& 3689348814741910323) + ((n / 4) &&& 3689348814741910323)
def bc3 (n : Nat) : Nat := (n + n / 16) &&& 1085102592571150095
/-- bytes, the lowest first -/
def Wb : List Nat → Nat
  | [] => 0
  | b :: t => b + 256 * Wb t
def mkb (c : Nat) : Nat → Nat
  | 0 => 0
  | k + 1 => c + 256 * mkb c k
theorem and_256 (a c x y : Nat) (ha : a < 256) (hc : c < 256) : (a + 256 * x) &&& (c + 256 * y) = (a &&& c) + 256 * (x &&& y) := by
  have h := Nat.and_lt_two_pow a (show c < 2 ^ 8 from hc)
  apply Nat.eq_of_testBit_eq
  intro i
  rw [Nat.testBit_and, show a + 256 * x = 2 ^ 8 * x + a by omega, show c + 256 * y = 2 ^ 8 * y + c by omega, show (a &&& c) + 256 * (x &&& y) = 2 ^ 8 * (x &&& y) + (a &&& c) by omega, Nat.testBit_two_pow_mul_add _ (show a < 2 ^ 8 from ha), Nat.testBit_two_pow_mul_add _ (show c < 2 ^ 8 from hc), Nat.testBit_two_pow_mul_add _ h]
  split
  · rw [Nat.testBit_and]
  · rw [Nat.testBit_and]
def gA (b : Nat) : Nat := b - ((b / 2) &&& 85)
def gB (b : Nat) : Nat := (b &&& 51) + ((b / 4) &&& 51)
def gC (b : Nat) : Nat := b % 16 + b / 16
theorem gA_f : ∀ b, b < 256 → ∀ e, e < 2 → ((b / 2 + 128 * e) &&& 85) = ((b / 2) &&& 85) ∧ ((b / 2) &&& 85) ≤ b ∧ gA b < 256 := by decide +kernel
theorem gB_f : ∀ b, b < 256 → ∀ e, e < 4 → ((b / 4 + 64 * e) &&& 51) = ((b / 4) &&& 51) := by decide +kernel
theorem gC_f : ∀ b, b < 256 → b % 16 ≤ 4 → b / 16 ≤ 4 → ∀ e, e < 5 → ((b + b / 16 + 16 * e) &&& 15) = gC b ∧ b + b / 16 + 16 * e < 256 := by decide +kernel
theorem gAB : ∀ b, b < 256 → gB (gA b) < 256 ∧ gB (gA b) % 16 ≤ 4 ∧ gB (gA b) / 16 ≤ 4 ∧ gC (gB (gA b)) = ct (fun k => b.testBit k) 8 ∧ gC (gB (gA b)) ≤ 8 := by decide +kernel
theorem bA : ∀ l : List Nat, (∀ b, b ∈ l → b < 256) → ((Wb l / 2) &&& mkb 85 l.length) ≤ Wb l ∧ Wb l - ((Wb l / 2) &&& mkb 85 l.length) = Wb (l.map gA)
  | [], _ => by simp [Wb, mkb]
  | b :: t, h => by
    obtain ⟨i1, i2⟩ := bA t (fun b hb => h b (List.mem_cons_of_mem _ hb))
    have hb := h b List.mem_cons_self
    obtain ⟨f1, f2, -⟩ := gA_f b hb (Wb t % 2) (by omega)
    have e : (b + 256 * Wb t) / 2 = (b / 2 + 128 * (Wb t % 2)) + 256 * (Wb t / 2) := by omega
    show ((b + 256 * Wb t) / 2 &&& (85 + 256 * mkb 85 t.length)) ≤ b + 256 * Wb t ∧ (b + 256 * Wb t) - ((b + 256 * Wb t) / 2 &&& (85 + 256 * mkb 85 t.length)) = gA b + 256 * Wb (t.map gA)
    rw [e, and_256 _ _ _ _ (by omega) (by omega), f1, ← i2]
    unfold gA
    constructor <;> omega
theorem bB : ∀ l : List Nat, (∀ b, b ∈ l → b < 256) → (Wb l &&& mkb 51 l.length) + ((Wb l / 4) &&& mkb 51 l.length) = Wb (l.map gB)
  | [], _ => by simp [Wb, mkb]
  | b :: t, h => by
    have i2 := bB t (fun b hb => h b (List.mem_cons_of_mem _ hb))
    have hb := h b List.mem_cons_self
    have f1 := gB_f b hb (Wb t % 4) (by omega)
    have e : (b + 256 * Wb t) / 4 = (b / 4 + 64 * (Wb t % 4)) + 256 * (Wb t / 4) := by omega
    show ((b + 256 * Wb t) &&& (51 + 256 * mkb 51 t.length)) + ((b + 256 * Wb t) / 4 &&& (51 + 256 * mkb 51 t.length)) = gB b + 256 * Wb (t.map gB)
    rw [e, and_256 _ _ _ _ (by omega) (by omega), and_256 _ _ _ _ (by omega) (by omega), f1, ← i2]
    unfold gB
    omega
theorem bC : ∀ l : List Nat, (∀ b, b ∈ l → b < 256 ∧ b % 16 ≤ 4 ∧ b / 16 ≤ 4) → Wb l % 16 ≤ 4 ∧ ((Wb l + Wb l / 16) &&& mkb 15 l.length) = Wb (l.map gC)
  | [], _ => by simp [Wb, mkb]
  | b :: t, h => by
    obtain ⟨i1, i2⟩ := bC t (fun b hb => h b (List.mem_cons_of_mem _ hb))
    obtain ⟨hb, hb1, hb2⟩ := h b List.mem_cons_self
    obtain ⟨f1, f2⟩ := gC_f b hb hb1 hb2 (Wb t % 16) (by omega)
    have e : (b + 256 * Wb t) + (b + 256 * Wb t) / 16 = (b + b / 16 + 16 * (Wb t % 16)) + 256 * (Wb t + Wb t / 16) := by omega
    constructor
    · show (b + 256 * Wb t) % 16 ≤ 4
      omega
    · show ((b + 256 * Wb t) + (b + 256 * Wb t) / 16 &&& (15 + 256 * mkb 15 t.length)) = gC b + 256 * Wb (t.map gC)
      rw [e, and_256 _ _ _ _ f2 (by omega), f1, i2]
theorem ctW : ∀ (l : List Nat), (∀ b, b ∈ l → b < 256) → ct (fun k => (Wb l).testBit k) (8 * l.length) = (l.map (fun b => ct (fun k => b.testBit k) 8)).sum
  | [], _ => rfl
  | b :: t, h => by
    have ih := ctW t (fun b hb => h b (List.mem_cons_of_mem _ hb))
    have hb := h b List.mem_cons_self
    have e : 8 * (b :: t).length = 8 + 8 * t.length := by rw [List.length_cons]; omega
    have hW : Wb (b :: t) = 2 ^ 8 * Wb t + b := by show b + 256 * Wb t = _; omega
    rw [e, ct_split, List.map_cons, List.sum_cons, ← ih]
    congr 1
    · apply ct_cong
      intro k hk
      rw [hW, Nat.testBit_two_pow_mul_add _ (show b < 2 ^ 8 from hb), if_pos hk]
    · apply ct_cong
      intro k _
      rw [hW, Nat.testBit_two_pow_mul_add _ (show b < 2 ^ 8 from hb), if_neg (by omega), show 8 + k - 8 = k by omega]
