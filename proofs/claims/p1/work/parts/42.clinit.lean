/-! the board's words, as its constructor lays them -/
theorem c_fit (x : Int32) : ∃ j, 3 ≤ j ∧ j < 9 ∧ mX0_fit x = nI j := by
  unfold mX0_fit
  by_cases h1 : x < 3
  · rw [if_pos h1]; exact ⟨8, by omega, by omega, rfl⟩
  · rw [if_neg h1]
    by_cases h2 : x ≤ 8
    · rw [if_pos h2]
      rcases pk_ix x (n := 9) (by decide) with h | h | ⟨j, hj, rfl⟩
      · exfalso
        apply h1
        have := Int32.lt_iff_toInt_lt.mp h
        apply Int32.lt_iff_toInt_lt.mpr
        have e1 : (3 : Int32).toInt = 3 := by decide
        have e0 : (0 : Int32).toInt = 0 := by decide
        omega
      · exfalso
        have a1 := Int32.le_iff_toInt_le.mp h
        have a2 := Int32.le_iff_toInt_le.mp h2
        have e1 : (nI 9).toInt = 9 := by decide
        have e0 : (8 : Int32).toInt = 8 := by decide
        omega
      · refine ⟨j, ?_, hj, rfl⟩
        rcases Nat.lt_or_ge j 3 with z | z
        · exact absurd ((nI_ltI (by omega) (by omega)).mpr z) h1
        · exact z
    · rw [if_neg h2]; exact ⟨8, by omega, by omega, rfl⟩
theorem c_cellAt0 : ∀ F, F < 9 → ∀ R, R < 9 → ∀ d, d < 16 → ∀ s, s < 64 → mX0_cellAt (nI F) (nI R) (nI (s % 8) + et_fs d) (nI (s / 8) + et_rs d) = clI F R (sp8 d s) := by decide +kernel
theorem c_cellAt {F R x y : Nat} (hB : bd F R) (hx : x < F) (hy : y < R) : mX0_cellAt (nI F) (nI R) (nI x) (nI y) = nI (x + F * y) := by
  unfold mX0_cellAt
  rw [if_neg (nI_pos (by omega)), if_neg (nI_ge hx (by omega)), if_neg (nI_pos (by omega)), if_neg (nI_ge hy (by omega)), pk_mul, nI_add]
theorem cell_d {F x y : Nat} (hx : x < F) : (x + F * y) % F = x ∧ (x + F * y) / F = y := by
  constructor
  · rw [Nat.add_mul_mod_self_left]; exact Nat.mod_eq_of_lt hx
  · rw [Nat.add_mul_div_left _ _ (by omega), Nat.div_eq_of_lt hx]; omega
theorem cell_lt {F R x y : Nat} (hx : x < F) (hy : y < R) : x + F * y < F * R := by
  have := Nat.mul_le_mul_left F (show y + 1 ≤ R by omega)
  rw [Nat.mul_add, Nat.mul_one] at this
  omega
theorem dn_inj {n d d' q q' : Nat} (hq : q < n) (hq' : q' < n) (h : d * n + q = d' * n + q') : d = d' ∧ q = q' := by
  have h1 : (d * n + q) % n = q := by rw [Nat.mul_comm, Nat.mul_add_mod]; exact Nat.mod_eq_of_lt hq
  have h2 : (d' * n + q') % n = q' := by rw [Nat.mul_comm, Nat.mul_add_mod]; exact Nat.mod_eq_of_lt hq'
  have hqq : q = q' := by rw [← h1, ← h2, h]
  refine ⟨?_, hqq⟩
  subst hqq
  have h3 : d * n = d' * n := by omega
  exact Nat.eq_of_mul_eq_mul_right (by omega) h3
section ClInit
variable {F R n : Nat}
theorem c_lay1 (hB : bd F R) (hn : n = F * R) {x y : Nat} (hx : x < F) (hy : y < R) : ∀ (k i : Nat) (st : Nat → Int32), i + k ≤ 16 → (∀ d, i ≤ d → d < i + k → mX0_layCell_L1 (nI F) (nI R) n (nI x) (nI y) k i st (d * n + (x + F * y)) = clI F R (sp8 d (x + 8 * y))) ∧ ∀ j, (∀ d, i ≤ d → d < i + k → j ≠ d * n + (x + F * y)) → mX0_layCell_L1 (nI F) (nI R) n (nI x) (nI y) k i st j = st j
  | 0, i, st, h => ⟨fun d h1 h2 => by omega, fun j _ => by rw [mX0_layCell_L1]⟩
  | k + 1, i, st, h => by
    have hn64 : n ≤ 64 := by rw [hn]; exact n_64 hB
    have hq : x + F * y < n := by rw [hn]; exact cell_lt hx hy
    have h16 : i * n ≤ 16 * 64 := Nat.mul_le_mul (by omega) hn64
    rw [mX0_layCell_L1, nI_clamp (show i < 2 ^ 31 by omega), c_cellAt hB hx hy, pk_mul, nI_add, nI_clamp (show i * n + (x + F * y) < 2 ^ 31 by omega)]
    have hs : x + 8 * y < 64 := by omega
    have e := c_cellAt0 F hB.2.1 R hB.2.2.2 i (by omega) (x + 8 * y) hs
    rw [show (x + 8 * y) % 8 = x by omega, show (x + 8 * y) / 8 = y by omega] at e
    rw [e]
    obtain ⟨g1, g2⟩ := c_lay1 hB hn hx hy k (i + 1) (upd st (i * n + (x + F * y)) (clI F R (sp8 i (x + 8 * y)))) (by omega)
    constructor
    · intro d h1 h2
      rcases Nat.lt_or_ge i d with z | z
      · exact g1 d z (by omega)
      · have : d = i := by omega
        subst this
        rw [g2 _ (fun d' h3 h4 q => by have := (dn_inj hq hq q).1; omega), pk_us]
    · intro j hj
      rw [g2 j (fun d h1 h2 => hj d (by omega) (by omega)), pk_un (hj i (Nat.le_refl _) (by omega))]
/-- cells laid below T -/
def iv (F R n T : Nat) (sqf stf : Nat → Int32) : Prop := ∀ q, q < T → q < n → sqf q = nI (cs F q) ∧ ∀ d, d < 16 → stf (d * n + q) = clI F R (sp8 d (cs F q))
theorem c_lay (hB : bd F R) (hn : n = F * R) {x y : Nat} (hx : x < F) (hy : y < R) {sqf stf : Nat → Int32} (h : iv F R n (x + F * y) sqf stf) : iv F R n (x + F * y + 1) (mX0_layCell (nI F) (nI R) n sqf stf (nI x) (nI y)).1 (mX0_layCell (nI F) (nI R) n sqf stf (nI x) (nI y)).2 := by
  have hn64 : n ≤ 64 := by rw [hn]; exact n_64 hB
  have hq : x + F * y < n := by rw [hn]; exact cell_lt hx hy
  unfold mX0_layCell
  rw [c_cellAt hB hx hy, if_neg (nI_pos (by omega)), if_pos (nI_lt hq (by omega)), nI_clamp (by omega), show (8 : Int32) = nI 8 from rfl, pk_mul, nI_add]
  obtain ⟨g1, g2⟩ := c_lay1 hB hn hx hy 16 0 stf (by omega)
  have hcs : cs F (x + F * y) = x + 8 * y := by
    unfold cs
    rw [(cell_d hx).1, (cell_d hx).2]
  intro q h1 h2
  rcases Nat.lt_or_ge q (x + F * y) with z | z
  · obtain ⟨a1, a2⟩ := h q z h2
    refine ⟨(pk_un (show q ≠ x + F * y by omega)).trans a1, fun d hd => ?_⟩
    show mX0_layCell_L1 (nI F) (nI R) n (nI x) (nI y) 16 0 stf (d * n + q) = _
    rw [g2 _ (fun d' _ _ e => by have := (dn_inj h2 hq e).2; omega)]
    exact a2 d hd
  · have : q = x + F * y := by omega
    subst this
    refine ⟨pk_us.trans (by rw [hcs]), fun d hd => ?_⟩
    show mX0_layCell_L1 (nI F) (nI R) n (nI x) (nI y) 16 0 stf (d * n + (x + F * y)) = _
    rw [g1 d (Nat.zero_le _) (by omega), hcs]
end ClInit
section ClInit2
variable {files ranks : Int32} {F R : Nat}
theorem c_iL2 (hB : bd F R) (hF : mX0_fit files = nI F) (hR : mX0_fit ranks = nI R) (hn : mB_n files ranks = F * R) {y : Nat} (hy : y < R) : ∀ (k i : Nat) (sqf stf : Nat → Int32), i + k = F → iv F R (F * R) (i + F * y) sqf stf → iv F R (F * R) (F + F * y) (mX0_init_L2 files ranks y k i sqf stf).1 (mX0_init_L2 files ranks y k i sqf stf).2
  | 0, i, sqf, stf, h, hv => by
    rw [mX0_init_L2]
    rw [show i = F by omega] at hv
    exact hv
  | k + 1, i, sqf, stf, h, hv => by
    rw [mX0_init_L2, hF, hR, hn]
    have h1 := c_lay hB rfl (show i < F by omega) hy hv
    rw [show i + F * y + 1 = i + 1 + F * y by omega] at h1
    have := c_iL2 hB hF hR hn hy k (i + 1) _ _ (by omega) h1
    exact this
theorem c_iL1 (hB : bd F R) (hF : mX0_fit files = nI F) (hR : mX0_fit ranks = nI R) (hn : mB_n files ranks = F * R) : ∀ (k i : Nat) (first : Int64) (sqf stf : Nat → Int32), i + k = R → iv F R (F * R) (F * i) sqf stf → (∀ c, c < 64 → (tb first c = true ↔ ∃ j, j < i ∧ c = F * j)) → iv F R (F * R) (F * R) (mX0_init_L1 files ranks k i first sqf stf).2.1 (mX0_init_L1 files ranks k i first sqf stf).2.2 ∧ ∀ c, c < 64 → (tb (mX0_init_L1 files ranks k i first sqf stf).1 c = true ↔ ∃ j, j < R ∧ c = F * j)
  | 0, i, first, sqf, stf, h, hv, hf => by
    rw [mX0_init_L1]
    rw [show i = R by omega] at hv hf
    exact ⟨hv, hf⟩
  | k + 1, i, first, sqf, stf, h, hv, hf => by
    have hFi : F * i < 64 := by
      have := Nat.mul_le_mul (show F ≤ 8 by omega) (show i ≤ 7 by omega)
      omega
    rw [mX0_init_L1, hF, pk_mul, nI_clamp (show F < 2 ^ 31 by omega)]
    have h1 := c_iL2 hB hF hR hn (show i < R by omega) F 0 sqf stf (by omega) (by rw [Nat.zero_add]; exact hv)
    rw [show F + F * i = F * (i + 1) by rw [Nat.mul_add, Nat.mul_one]; omega] at h1
    refine c_iL1 hB hF hR hn k (i + 1) _ _ _ (by omega) h1 (fun c hc => ?_)
    rw [tb_or, Bool.or_eq_true, hf c hc, tb_bit hFi, decide_eq_true_eq]
    constructor
    · rintro (⟨j, h2, h3⟩ | h2)
      · exact ⟨j, by omega, h3⟩
      · exact ⟨i, by omega, h2⟩
    · rintro ⟨j, h2, h3⟩
      rcases Nat.lt_or_ge j i with z | z
      · exact Or.inl ⟨j, z, h3⟩
      · have : j = i := by omega
        subst this
        exact Or.inr h3
theorem c_init (hB : bd F R) (hF : mX0_fit files = nI F) (hR : mX0_fit ranks = nI R) : mB_n files ranks = F * R ∧ BD F R (F * R) (mX0_init files ranks).1 (mX0_init files ranks).2.1 (mX0_init files ranks).2.2.1 (mX0_init files ranks).2.2.2.1 (mX0_init files ranks).2.2.2.2 := by
  have hn64 := n_64 hB
  have hn9 := n_9 hB
  have hn : mB_n files ranks = F * R := by
    unfold mB_n
    rw [hF, hR, pk_mul, nI_clamp (by omega)]
  refine ⟨hn, ?_⟩
  have hL := c_iL1 hB hF hR hn R 0 (0 : Int64) (fun _ => 0) (fun _ => 0) (by omega) (fun q h => by omega) (fun c _ => by
    rw [tb_0]
    exact ⟨fun q => (by cases q), fun ⟨j, h, _⟩ => by omega⟩)
  obtain ⟨h1, h2⟩ := hL
  have hRc : (mX0_fit ranks).toNatClampNeg = R := by rw [hR, nI_clamp (by omega)]
  unfold mX0_init
  rw [hRc, hn, hF]
  have hff : ∀ c, c < 64 → (tb (mX0_init_L1 files ranks R 0 (0 : Int64) (fun _ => 0) (fun _ => 0)).1 c = true ↔ c < F * R ∧ c % F = 0) := by
    intro c hc
    rw [h2 c hc]
    constructor
    · rintro ⟨j, h3, rfl⟩
      exact ⟨Nat.mul_lt_mul_of_pos_left h3 (by omega), Nat.mul_mod_right _ _⟩
    · rintro ⟨h3, h4⟩
      refine ⟨c / F, by rw [Nat.div_lt_iff_lt_mul (by omega), Nat.mul_comm]; exact h3, ?_⟩
      have := Nat.mod_add_div c F
      omega
  refine ⟨hB, rfl, fun c hc => ?_, hff, fun c hc => ?_, fun c hc => (h1 c hc hc).1, fun d hd c hc => (h1 c hc hc).2 d hd⟩
  · show tb (((-1 : Int64).toUInt64 >>> (((64 : Int32) - (nI (F * R))).toInt64.toUInt64 &&& Int64.toUInt64 63)).toInt64) c = true ↔ _
    rw [show (64 : Int32) = nI 64 from rfl, pk_sub (by omega), tb_shr _ (by omega)]
    constructor
    · intro q
      have := tb_lt q
      omega
    · intro q
      exact tb_m1 _ (by omega)
  · show tb ((mX0_init_L1 files ranks R 0 (0 : Int64) (fun _ => 0) (fun _ => 0)).1 <<< ((nI F - 1).toInt64 &&& 63)) c = true ↔ _
    rw [show (1 : Int32) = nI 1 from rfl, pk_sub (by omega), tb_shl _ (by omega) hc, Bool.and_eq_true, decide_eq_true_eq, hff (c - (F - 1)) (by omega)]
    constructor
    · rintro ⟨q1, q2, q3⟩
      obtain ⟨j, hj⟩ : ∃ j, c - (F - 1) = F * j := ⟨(c - (F - 1)) / F, by have := Nat.mod_add_div (c - (F - 1)) F; omega⟩
      have hc' : c = (F - 1) + F * j := by omega
      have hjR : j < R := by
        rw [hj] at q2
        exact Nat.lt_of_mul_lt_mul_left q2
      have := cell_lt (show F - 1 < F by omega) hjR
      refine ⟨by omega, ?_⟩
      rw [hc', (cell_d (show F - 1 < F by omega)).1]
      omega
    · rintro ⟨q1, q2⟩
      have h3 := Nat.mod_add_div c F
      have hj : c / F < R := by rw [Nat.div_lt_iff_lt_mul (by omega), Nat.mul_comm]; exact q1
      have e : c - (F - 1) = F * (c / F) := by omega
      rw [e]
      exact ⟨by omega, Nat.mul_lt_mul_of_pos_left hj (by omega), Nat.mul_mod_right _ _⟩
end ClInit2
