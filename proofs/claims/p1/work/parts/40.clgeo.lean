/-! the class's cells in the central words -/
def cs (F c : Nat) : Nat := c % F + 8 * (c / F)
def sc (F s : Nat) : Nat := s % 8 + F * (s / 8)
def clI (F R s : Nat) : Int32 := if on F R s then nI (sc F s) else -1
theorem c6 {F : Nat} {P : Prop} (h3 : 3 ≤ F) (h9 : F < 9) (a : F = 3 → P) (b : F = 4 → P) (c : F = 5 → P) (d : F = 6 → P) (e : F = 7 → P) (f : F = 8 → P) : P := by
  rcases (show F = 3 ∨ F = 4 ∨ F = 5 ∨ F = 6 ∨ F = 7 ∨ F = 8 by omega) with h | h | h | h | h | h
  · exact a h
  · exact b h
  · exact c h
  · exact d h
  · exact e h
  · exact f h
section Cells
variable {F R : Nat}
theorem cs_d (hB : bd F R) {c : Nat} (hc : c < F * R) : cs F c % 8 = c % F ∧ cs F c / 8 = c / F ∧ c % F < F ∧ c / F < R := by
  have h1 : c % F < F := Nat.mod_lt _ (by omega)
  have h2 : c / F < R := by rw [Nat.div_lt_iff_lt_mul (by omega), Nat.mul_comm]; exact hc
  unfold cs
  generalize c % F = x at *
  generalize c / F = y at *
  omega
theorem cs_on (hB : bd F R) {c : Nat} (hc : c < F * R) : on F R (cs F c) := by
  have := cs_d hB hc
  exact ⟨by omega, by omega⟩
theorem cs_64 (hB : bd F R) {c : Nat} (hc : c < F * R) : cs F c < 64 := on64 (by omega) (cs_on hB hc)
theorem sc_cs (hB : bd F R) {c : Nat} (hc : c < F * R) : sc F (cs F c) = c := by
  have := cs_d hB hc
  unfold sc
  rw [this.1, this.2.1]
  exact Nat.mod_add_div c F
theorem sc_d (hB : bd F R) {s : Nat} (hs : on F R s) : sc F s % F = s % 8 ∧ sc F s / F = s / 8 ∧ sc F s < F * R := by
  obtain ⟨h1, h2⟩ := hs
  unfold sc
  refine ⟨?_, ?_, ?_⟩
  · rw [Nat.add_mul_mod_self_left]; exact Nat.mod_eq_of_lt h1
  · rw [Nat.add_mul_div_left _ _ (by omega), Nat.div_eq_of_lt h1]; omega
  · have := Nat.mul_le_mul_left F (show s / 8 + 1 ≤ R by omega)
    rw [Nat.mul_add, Nat.mul_one] at this
    omega
theorem sc_lt (hB : bd F R) {s : Nat} (hs : on F R s) : sc F s < F * R := (sc_d hB hs).2.2
theorem cs_sc (hB : bd F R) {s : Nat} (hs : on F R s) : cs F (sc F s) = s := by
  have := sc_d hB hs
  unfold cs
  rw [this.1, this.2.1]
  omega
theorem n_64 (hB : bd F R) : F * R ≤ 64 := Nat.mul_le_mul (show F ≤ 8 by omega) (show R ≤ 8 by omega)
theorem n_9 (hB : bd F R) : 9 ≤ F * R := Nat.mul_le_mul (show 3 ≤ F by omega) (show 3 ≤ R by omega)
theorem cs_inj (hB : bd F R) {c c' : Nat} (hc : c < F * R) (hc' : c' < F * R) (h : cs F c = cs F c') : c = c' := by
  rw [← sc_cs hB hc, ← sc_cs hB hc', h]
end Cells
/-- the board's words -/
def BD (F R n : Nat) (al ff lf : Int64) (sqf stf : Nat → Int32) : Prop := bd F R ∧ n = F * R ∧ (∀ c, c < 64 → (tb al c = true ↔ c < n)) ∧ (∀ c, c < 64 → (tb ff c = true ↔ c < n ∧ c % F = 0)) ∧ (∀ c, c < 64 → (tb lf c = true ↔ c < n ∧ c % F + 1 = F)) ∧ (∀ c, c < n → sqf c = nI (cs F c)) ∧ ∀ d, d < 16 → ∀ c, c < n → stf (d * n + c) = clI F R (sp8 d (cs F c))
theorem nb_F (F R c c' : Nat) (hB : bd F R) (hc : c < F * R) (hc' : c' < F * R) : nx (cs F c') (cs F c) ↔ ((c' = c + 1 ∧ c' % F ≠ 0) ∨ (c' + 1 = c ∧ c' % F + 1 ≠ F)) ∨ (c' + F = c ∨ (c' + F = c + 1 ∧ c' % F ≠ 0) ∨ (c' + F + 1 = c ∧ c' % F + 1 ≠ F)) ∨ (c' = c + F ∨ (c' = c + F + 1 ∧ c' % F ≠ 0) ∨ (c' + 1 = c + F ∧ c' % F + 1 ≠ F)) := by
  obtain ⟨a1, a2, a3, a4⟩ := cs_d hB hc
  obtain ⟨b1, b2, b3, b4⟩ := cs_d hB hc'
  have e : (cs F c' ≠ cs F c) ↔ c' ≠ c := ⟨fun h q => h (by rw [q]), fun h q => h (cs_inj hB hc' hc q)⟩
  unfold nx
  rw [e, a1, a2, b1, b2]
  clear e
  refine c6 hB.1 hB.2.1 ?_ ?_ ?_ ?_ ?_ ?_ <;> (intro q; subst q; omega)
section ClGeo
variable {F R n : Nat} {al ff lf : Int64} {sqf stf : Nat → Int32}
theorem c_nextTo (hD : BD F R n al ff lf sqf stf) {X : Int64} (hX : ∀ c, tb X c = true → c < n) {c : Nat} (hc : c < 64) : tb (mX0_nextTo (nI F) al ff lf X) c = true ↔ c < n ∧ ∃ c', c' < n ∧ nx (cs F c') (cs F c) ∧ tb X c' = true := by
  obtain ⟨hB, hn, hal, hff, hlf, -, -⟩ := hD
  have hF : F < 64 := by omega
  have hn64 : n ≤ 64 := by rw [hn]; exact n_64 hB
  have e1 : (1 : Int32) = nI 1 := rfl
  unfold mX0_nextTo
  rw [tb_and, Bool.and_eq_true, hal c hc, and_comm]
  refine and_congr_right (fun hcn => ?_)
  have hL : ∀ j, j < 64 → (tb ((((X &&& (ff ^^^ (-1 : Int64))).toUInt64 >>> ((1 : Int32).toInt64.toUInt64 &&& Int64.toUInt64 63)).toInt64)) j = true ↔ j + 1 < n ∧ tb X (j + 1) = true ∧ (j + 1) % F ≠ 0) := by
    intro j hj
    rw [e1, tb_shr _ (by omega), tb_and, Bool.and_eq_true, show 1 + j = j + 1 by omega]
    constructor
    · rintro ⟨h1, h2⟩
      have h3 := hX _ h1
      rw [tb_not _ (by omega)] at h2
      refine ⟨h3, h1, fun q => ?_⟩
      rw [(hff _ (by omega)).mpr ⟨h3, q⟩] at h2
      cases h2
    · rintro ⟨h1, h2, h3⟩
      refine ⟨h2, ?_⟩
      rw [tb_not _ (by omega)]
      cases z : tb ff (j + 1) with
      | false => rfl
      | true => exact absurd ((hff _ (by omega)).mp z).2 h3
  have hR : ∀ j, j < 64 → (tb ((X &&& (lf ^^^ (-1 : Int64))) <<< ((1 : Int32).toInt64 &&& 63)) j = true ↔ ∃ i, i + 1 = j ∧ i < n ∧ tb X i = true ∧ i % F + 1 ≠ F) := by
    intro j hj
    rw [e1, tb_shl _ (by omega) hj, Bool.and_eq_true, decide_eq_true_eq, tb_and, Bool.and_eq_true]
    constructor
    · rintro ⟨h0, h1, h2⟩
      have h3 := hX _ h1
      rw [tb_not _ (by omega)] at h2
      refine ⟨j - 1, by omega, h3, h1, fun q => ?_⟩
      rw [(hlf _ (by omega)).mpr ⟨h3, q⟩] at h2
      cases h2
    · rintro ⟨i, h0, h1, h2, h3⟩
      have : j - 1 = i := by omega
      rw [this]
      refine ⟨by omega, h2, ?_⟩
      rw [tb_not _ (by omega)]
      cases z : tb lf i with
      | false => rfl
      | true => exact absurd ((hlf _ (by omega)).mp z).2 h3
  generalize (((X &&& (ff ^^^ (-1 : Int64))).toUInt64 >>> ((1 : Int32).toInt64.toUInt64 &&& Int64.toUInt64 63)).toInt64) = L at hL ⊢
  generalize ((X &&& (lf ^^^ (-1 : Int64))) <<< ((1 : Int32).toInt64 &&& 63)) = Q at hR ⊢
  rw [tb_or, tb_or, tb_or, tb_shl _ hF hc, tb_shr _ hF, tb_or, tb_or, tb_or, tb_or]
  simp only [Bool.or_eq_true, Bool.and_eq_true, decide_eq_true_eq]
  have hLn : ∀ j, tb L j = true → j < 64 := fun j h => tb_lt h
  constructor
  · rintro (((h | h) | ⟨h0, (h | h) | h⟩) | (h | h) | h)
    · obtain ⟨q1, q2, q3⟩ := (hL c hc).mp h
      exact ⟨c + 1, q1, (nb_F F R c (c + 1) hB (by omega) (by omega)).mpr (Or.inl (Or.inl ⟨rfl, q3⟩)), q2⟩
    · obtain ⟨i, q0, q1, q2, q3⟩ := (hR c hc).mp h
      exact ⟨i, q1, (nb_F F R c i hB (by omega) (by omega)).mpr (Or.inl (Or.inr ⟨q0, q3⟩)), q2⟩
    · have := hX _ h
      exact ⟨c - F, this, (nb_F F R c (c - F) hB (by omega) (by omega)).mpr (Or.inr (Or.inl (Or.inl (by omega)))), h⟩
    · obtain ⟨q1, q2, q3⟩ := (hL (c - F) (by omega)).mp h
      exact ⟨c - F + 1, q1, (nb_F F R c (c - F + 1) hB (by omega) (by omega)).mpr (Or.inr (Or.inl (Or.inr (Or.inl ⟨by omega, q3⟩)))), q2⟩
    · obtain ⟨i, q0, q1, q2, q3⟩ := (hR (c - F) (by omega)).mp h
      exact ⟨i, q1, (nb_F F R c i hB (by omega) (by omega)).mpr (Or.inr (Or.inl (Or.inr (Or.inr ⟨by omega, q3⟩)))), q2⟩
    · have := hX _ h
      rw [Nat.add_comm] at h this
      exact ⟨c + F, this, (nb_F F R c (c + F) hB (by omega) (by omega)).mpr (Or.inr (Or.inr (Or.inl rfl))), h⟩
    · obtain ⟨q1, q2, q3⟩ := (hL (F + c) (hLn _ h)).mp h
      rw [show F + c + 1 = c + F + 1 by omega] at q1 q2 q3
      exact ⟨c + F + 1, q1, (nb_F F R c (c + F + 1) hB (by omega) (by omega)).mpr (Or.inr (Or.inr (Or.inr (Or.inl ⟨rfl, q3⟩)))), q2⟩
    · obtain ⟨i, q0, q1, q2, q3⟩ := (hR (F + c) (tb_lt h)).mp h
      exact ⟨i, q1, (nb_F F R c i hB (by omega) (by omega)).mpr (Or.inr (Or.inr (Or.inr (Or.inr ⟨by omega, q3⟩)))), q2⟩
  · rintro ⟨c', h1, h2, h3⟩
    rcases (nb_F F R c c' hB (by omega) (by omega)).mp h2 with (⟨e, q⟩ | ⟨e, q⟩) | (e | ⟨e, q⟩ | ⟨e, q⟩) | (e | ⟨e, q⟩ | ⟨e, q⟩)
    · exact Or.inl (Or.inl (Or.inl ((hL c hc).mpr (by rw [← e]; exact ⟨h1, h3, q⟩))))
    · exact Or.inl (Or.inl (Or.inr ((hR c hc).mpr ⟨c', e, h1, h3, q⟩)))
    · refine Or.inl (Or.inr ⟨by omega, Or.inl (Or.inl ?_)⟩)
      rw [show c - F = c' by omega]
      exact h3
    · have hc0 : c' ≠ 0 := by
        intro z
        rw [z] at q
        exact q (Nat.zero_mod F)
      refine Or.inl (Or.inr ⟨by omega, Or.inl (Or.inr ((hL (c - F) (by omega)).mpr ?_))⟩)
      rw [show c - F + 1 = c' by omega]
      exact ⟨h1, h3, q⟩
    · exact Or.inl (Or.inr ⟨by omega, Or.inr ((hR (c - F) (by omega)).mpr ⟨c', by omega, h1, h3, q⟩)⟩)
    · refine Or.inr (Or.inl (Or.inl ?_))
      rw [show F + c = c' by omega]
      exact h3
    · refine Or.inr (Or.inl (Or.inr ((hL (F + c) (by omega)).mpr ?_)))
      rw [show F + c + 1 = c' by omega]
      exact ⟨h1, h3, q⟩
    · have hc63 : c' ≠ 63 := by
        intro z
        have h8 : F = 8 := by
          rcases Nat.lt_or_ge F 8 with y | y
          · have := Nat.mul_le_mul (show F ≤ 7 by omega) (show R ≤ 8 by omega)
            omega
          · omega
        rw [z, h8] at q
        exact q (by decide)
      exact Or.inr (Or.inr ((hR (F + c) (by omega)).mpr ⟨c', by omega, h1, h3, q⟩))
theorem c_around (hD : BD F R n al ff lf sqf stf) {w c : Nat} (hw : w < n) (hc : c < 64) : tb (mX0_around (nI F) al ff lf (nI w)) c = true ↔ c < n ∧ nx (cs F w) (cs F c) := by
  have hn64 : n ≤ 64 := by rw [hD.2.1]; exact n_64 hD.1
  unfold mX0_around
  rw [c_nextTo hD (fun j h => by rw [tb_bit (by omega), decide_eq_true_eq] at h; omega) hc]
  refine and_congr_right (fun _ => ?_)
  constructor
  · rintro ⟨c', h1, h2, h3⟩
    rw [tb_bit (by omega), decide_eq_true_eq] at h3
    rw [← h3]
    exact h2
  · intro h
    exact ⟨w, hw, h, by rw [tb_bit (by omega), decide_eq_true rfl]⟩
/-! steps and attacks -/
theorem c_step (hD : BD F R n al ff lf sqf stf) {c d : Nat} (hc : c < n) (hd : d < 16) : mX0_step n stf (nI c) (nI d) = clI F R (sp8 d (cs F c)) := by
  have hn64 : n ≤ 64 := by rw [hD.2.1]; exact n_64 hD.1
  unfold mX0_step
  have h1 : d * n ≤ 16 * 64 := Nat.mul_le_mul (by omega) hn64
  rw [if_neg (nI_pos (by omega)), if_neg (nI_ge hc (by omega)), if_neg (nI_pos (by omega)), if_pos (by rw [show (16 : Int32) = nI 16 from rfl, nI_ltI (by omega) (by omega)]; exact hd), pk_mul, nI_add, nI_clamp (by omega)]
  exact hD.2.2.2.2.2.2 d hd c hc
theorem clI_on {s : Nat} (h : on F R s) : clI F R s = nI (sc F s) := if_pos h
theorem clI_no {s : Nat} (h : ¬ on F R s) : clI F R s = -1 := if_neg h
theorem wk8_comm (d m : Nat) : ∀ j, wk8 d (sp8 d m) j = wk8 d m (j + 1)
  | 0 => rfl
  | j + 1 => by
    show sp8 d (wk8 d (sp8 d m) j) = sp8 d (wk8 d m (j + 1))
    rw [wk8_comm d m j]
/-- a man's way along one direction -/
theorem c_attL2 (hD : BD F R n al ff lf sqf stf) {kind : Int32} {bars : Int64} {i1 d : Nat} (hd : d < 16) (hw : mX0_firstWay kind + nI i1 = nI d) {c : Nat} (hc : c < 64) : ∀ (fu i2 s : Nat) (seen : Int64), on F R s → (tb (mX0_attacked_L2 n stf kind bars i1 fu i2 (nI (sc F s)) seen).2 c = true ↔ tb seen c = true ∨ ∃ j, j < fu ∧ (∀ i, i ≤ j → on F R (wk8 d s (i + 1))) ∧ (∀ i, i < j → tb bars (sc F (wk8 d s (i + 1))) = false) ∧ c = sc F (wk8 d s (j + 1)))
  | 0, i2, s, seen, hs => by
    rw [mX0_attacked_L2]
    exact ⟨Or.inl, fun q => q.elim id (fun ⟨j, h, _⟩ => by omega)⟩
  | fu + 1, i2, s, seen, hs => by
    have hB := hD.1
    have hn := hD.2.1
    have hn64 : n ≤ 64 := by rw [hn]; exact n_64 hB
    have hsn : sc F s < n := by rw [hn]; exact sc_lt hB hs
    rw [mX0_attacked_L2, hw, c_step hD hsn hd, cs_sc hB hs]
    by_cases ho : on F R (sp8 d s)
    · have ht := sc_lt hB ho
      rw [clI_on ho, if_neg (nI_nm1 _ (by omega))]
      have hor : tb (seen ||| mX0_bit (nI (sc F (sp8 d s)))) c = true ↔ tb seen c = true ∨ c = sc F (sp8 d s) := by
        rw [tb_or, Bool.or_eq_true, tb_bit (by omega), decide_eq_true_eq]
      by_cases hb : tb bars (sc F (sp8 d s)) = false
      · rw [if_pos ((tb_andbit bars (by omega)).mpr hb), c_attL2 hD hd hw hc fu (i2 + 1) (sp8 d s) _ ho, hor]
        constructor
        · rintro ((q | q) | ⟨j, h1, h2, h3, h4⟩)
          · exact Or.inl q
          · exact Or.inr ⟨0, by omega, fun i hi => by
              have : i = 0 := by omega
              subst this
              exact ho, fun i hi => by omega, q⟩
          · refine Or.inr ⟨j + 1, by omega, fun i hi => ?_, fun i hi => ?_, ?_⟩
            · cases i with
              | zero => exact ho
              | succ i => rw [← wk8_comm]; exact h2 i (by omega)
            · cases i with
              | zero => exact hb
              | succ i => rw [← wk8_comm]; exact h3 i (by omega)
            · rw [← wk8_comm]; exact h4
        · rintro (q | ⟨j, h1, h2, h3, h4⟩)
          · exact Or.inl (Or.inl q)
          · cases j with
            | zero => exact Or.inl (Or.inr h4)
            | succ j =>
              refine Or.inr ⟨j, by omega, fun i hi => ?_, fun i hi => ?_, ?_⟩
              · have := h2 (i + 1) (by omega)
                rw [← wk8_comm] at this; exact this
              · have := h3 (i + 1) (by omega)
                rw [← wk8_comm] at this; exact this
              · rw [← wk8_comm] at h4; exact h4
      · rw [if_neg (fun q => hb ((tb_andbit bars (by omega)).mp q)), hor]
        constructor
        · rintro (q | q)
          · exact Or.inl q
          · exact Or.inr ⟨0, by omega, fun i hi => by
              have : i = 0 := by omega
              subst this
              exact ho, fun i hi => by omega, q⟩
        · rintro (q | ⟨j, h1, h2, h3, h4⟩)
          · exact Or.inl q
          · cases j with
            | zero => exact Or.inr h4
            | succ j => exact absurd (h3 0 (by omega)) hb
    · rw [clI_no ho, if_pos rfl, tb_bitN]
      have e0 : seen ||| (0 : Int64) = seen := tb_ext (fun c _ => by rw [tb_or, tb_0, Bool.or_false])
      rw [e0]
      constructor
      · exact Or.inl
      · rintro (q | ⟨j, h1, h2, -⟩)
        · exact q
        · exact absurd (h2 0 (by omega)) ho
theorem c_ways : ∀ k, k < 6 → k ≠ 1 → mB_ways (nI k) = (wys k).length ∧ (mX0_reach (nI k)).toNatClampNeg = rch k := by decide +kernel
theorem c_way : ∀ k, k < 6 → k ≠ 1 → ∀ i, i < 8 → i < (wys k).length → mX0_firstWay (nI k) + nI i = nI ((wys k).getD i 0) := by decide +kernel
theorem c_attL1 (hD : BD F R n al ff lf sqf stf) {k m : Nat} {bars : Int64} (hk : k < 6) (hk1 : k ≠ 1) (hm : m < n) {c : Nat} (hc : c < 64) : ∀ (fu i1 : Nat) (seen : Int64), i1 + fu = (wys k).length → (tb (mX0_attacked_L1 n stf (nI k) (nI m) bars fu i1 seen) c = true ↔ tb seen c = true ∨ ∃ i, i1 ≤ i ∧ i < (wys k).length ∧ ∃ j, j < rch k ∧ (∀ i', i' ≤ j → on F R (wk8 ((wys k).getD i 0) (cs F m) (i' + 1))) ∧ (∀ i', i' < j → tb bars (sc F (wk8 ((wys k).getD i 0) (cs F m) (i' + 1))) = false) ∧ c = sc F (wk8 ((wys k).getD i 0) (cs F m) (j + 1)))
  | 0, i1, seen, hi => by
    rw [mX0_attacked_L1]
    exact ⟨Or.inl, fun q => q.elim id (fun ⟨i, h1, h2, _⟩ => by omega)⟩
  | fu + 1, i1, seen, hi => by
    have hB := hD.1
    have hn := hD.2.1
    have hlen : (wys k).length ≤ 8 := by
      rcases (show k = 0 ∨ k = 2 ∨ k = 3 ∨ k = 4 ∨ k = 5 by omega) with rfl | rfl | rfl | rfl | rfl <;> decide
    have hd : (wys k).getD i1 0 < 16 := wys_16 k hk _ (by
      rw [List.getD_eq_getElem?_getD, List.getElem?_eq_getElem (by omega)]
      exact List.getElem_mem _)
    rw [mX0_attacked_L1, (c_ways k hk hk1).2, c_attL1 hD hk hk1 hm hc fu (i1 + 1) _ (by omega)]
    have hsm : nI m = nI (sc F (cs F m)) := by rw [sc_cs hB (by omega)]
    have h2 := c_attL2 hD (bars := bars) hd (c_way k hk hk1 i1 (by omega) (by omega)) hc (rch k) 0 (cs F m) seen (cs_on hB (by omega))
    rw [← hsm] at h2
    rw [h2]
    constructor
    · rintro ((q | q) | ⟨i, h1, h2, h3⟩)
      · exact Or.inl q
      · exact Or.inr ⟨i1, Nat.le_refl _, by omega, q⟩
      · exact Or.inr ⟨i, by omega, h2, h3⟩
    · rintro (q | ⟨i, h1, h2, h3⟩)
      · exact Or.inl (Or.inl q)
      · rcases Nat.lt_or_ge i1 i with z | z
        · exact Or.inr ⟨i, by omega, h2, h3⟩
        · have : i = i1 := by omega
          subst this
          exact Or.inl (Or.inr h3)
theorem c_att (hD : BD F R n al ff lf sqf stf) {k m w : Nat} (hk : k < 6) (hm : m < n) (hw : w < n) {c : Nat} (hc : c < 64) : tb (mX0_attacked n stf (nI k) (nI m) (mX0_bit (nI w))) c = true ↔ c < n ∧ att k (cs F m) (cs F c) (cs F w) := by
  have hB := hD.1
  have hn := hD.2.1
  have hR : R ≤ 8 := by omega
  have hn64 : n ≤ 64 := by rw [hn]; exact n_64 hB
  have hmo := cs_on hB (show m < F * R by omega)
  unfold mX0_attacked
  by_cases hk1 : k = 1
  · subst hk1
    rw [if_pos (show nI 1 = 1 from rfl), show (6 : Int32) = nI 6 from rfl, show (7 : Int32) = nI 7 from rfl, c_step hD hm (by omega), c_step hD hm (by omega), tb_or, Bool.or_eq_true]
    have hb : ∀ s, tb (mX0_bit (clI F R s)) c = true ↔ on F R s ∧ c = sc F s := by
      intro s
      by_cases ho : on F R s
      · have := sc_lt hB ho
        rw [clI_on ho, tb_bit (by omega), decide_eq_true_eq]
        exact ⟨fun q => ⟨ho, q⟩, fun q => q.2⟩
      · rw [clI_no ho, tb_bitN, tb_0]
        exact ⟨fun q => (by cases q), fun q => absurd q.1 ho⟩
    rw [hb, hb]
    constructor
    · rintro (⟨h1, rfl⟩ | ⟨h1, rfl⟩)
      · refine ⟨by rw [hn]; exact sc_lt hB h1, 6, by decide, 0, by decide, ?_, fun i hi => by omega⟩
        rw [cs_sc hB h1]; rfl
      · refine ⟨by rw [hn]; exact sc_lt hB h1, 7, by decide, 0, by decide, ?_, fun i hi => by omega⟩
        rw [cs_sc hB h1]; rfl
    · rintro ⟨h0, d, hd, j, hj, e, -⟩
      have hj0 : j = 0 := by have : j < 1 := hj; omega
      subst hj0
      have e' : sp8 d (cs F m) = cs F c := e
      have ho := cs_on hB (show c < F * R by omega)
      rcases List.mem_cons.mp hd with rfl | hd
      · exact Or.inl (by rw [e']; exact ⟨ho, (sc_cs hB (by omega)).symm⟩)
      · rw [List.mem_singleton.mp hd] at e'
        exact Or.inr (by rw [e']; exact ⟨ho, (sc_cs hB (by omega)).symm⟩)
  · rw [if_neg (by rw [show (1 : Int32) = nI 1 from rfl, nI_eq64 (by omega) (by omega)]; exact hk1), (c_ways k hk hk1).1, c_attL1 hD hk hk1 hm hc _ 0 0 (by omega), tb_0]
    have hbar : ∀ s, on F R s → (tb (mX0_bit (nI w)) (sc F s) = false ↔ s ≠ cs F w) := by
      intro s ho
      rw [tb_bit (by omega), decide_eq_false_iff_not]
      constructor
      · intro h q
        rw [q, sc_cs hB (by omega)] at h
        exact h rfl
      · intro h q
        rw [← q, cs_sc hB ho] at h
        exact h rfl
    constructor
    · rintro (q | ⟨i, -, hi, j, hj, h2, h3, h4⟩)
      · cases q
      · have hmem : (wys k).getD i 0 ∈ wys k := by
          rw [List.getD_eq_getElem?_getD, List.getElem?_eq_getElem hi]
          exact List.getElem_mem _
        have ho := h2 j (Nat.le_refl _)
        rw [h4]
        refine ⟨by rw [hn]; exact sc_lt hB ho, (wys k).getD i 0, hmem, j, hj, (cs_sc hB ho).symm, fun i' hi' => (hbar _ (h2 i' (by omega))).mp (h3 i' hi')⟩
    · rintro ⟨h0, d, hd, j, hj, e, hb⟩
      obtain ⟨i, hi, e2⟩ := List.mem_iff_getElem.mp hd
      have e3 : (wys k).getD i 0 = d := by
        rw [List.getD_eq_getElem?_getD, List.getElem?_eq_getElem hi]
        exact e2
      have hon := wk8_on hk hR hd hj hmo (by rw [e]; exact cs_on hB (by omega))
      refine Or.inr ⟨i, Nat.zero_le _, hi, j, hj, ?_, ?_, ?_⟩
      · rw [e3]; exact hon
      · rw [e3]
        intro i' hi'
        exact (hbar _ (hon i' (by omega))).mpr (hb i' hi')
      · rw [e3, e, sc_cs hB (by omega)]
end ClGeo
