/-! the class's positions are the reference's -/
section ClPos
variable {F R n : Nat} {al ff lf : Int64} {sqf stf : Nat → Int32}
theorem BD.n64 (hD : BD F R n al ff lf sqf stf) : n ≤ 64 := by rw [hD.2.1]; exact n_64 hD.1
theorem c_sq (hD : BD F R n al ff lf sqf stf) {m : Nat} (hm : m < n) : mX0_squareOf n sqf (nI m) = nI (cs F m) := by
  have hn64 := hD.n64
  unfold mX0_squareOf
  rw [if_neg (nI_pos (by omega)), if_pos (nI_lt hm (by omega)), nI_clamp (by omega)]
  exact hD.2.2.2.2.2.1 m hm
theorem c_rank (hD : BD F R n al ff lf sqf stf) {m : Nat} (hm : m < n) : mX0_rankOf n sqf (nI m) = nI (cs F m / 8) := by
  have h64 := cs_64 hD.1 (show m < F * R by have := hD.2.1; omega)
  unfold mX0_rankOf
  rw [c_sq hD hm, pk_shrN (by omega) ((3 : Int32) &&& 31) 3 (by decide)]
theorem c_stand (hD : BD F R n al ff lf sqf stf) {k m : Nat} (hk : k < 6) (hk1 : 1 ≤ k) (hm : m < n) : mX0_mayStand (nI R) n sqf (nI k) (nI m) = true ↔ (k = 1 → 0 < cs F m / 8 ∧ cs F m / 8 + 1 < R) := by
  have hB := hD.1
  have hn64 := hD.n64
  have h64 := cs_64 hB (show m < F * R by have := hD.2.1; omega)
  unfold mX0_mayStand
  rw [if_neg (by rw [show (0 : Int32) = nI 0 from rfl, nI_eq64 (by omega) (by omega)]; omega), if_neg (nI_pos (by omega)), if_neg (nI_ge hm (by omega))]
  by_cases h1 : k = 1
  · rw [if_pos (by rw [h1]; rfl), c_rank hD hm]
    by_cases h2 : cs F m / 8 = 0
    · rw [if_pos (by rw [h2]; decide)]
      exact ⟨fun q => (by cases q), fun q => by have := (q h1).1; omega⟩
    · rw [if_neg (by rw [show (0 : Int32) = nI 0 from rfl, nI_leI (by omega) (by omega)]; omega), show (1 : Int32) = nI 1 from rfl, pk_sub (by omega)]
      by_cases h3 : R ≤ cs F m / 8 + 1
      · rw [if_pos ((nI_leI (by omega) (by omega)).mpr (by omega))]
        exact ⟨fun q => (by cases q), fun q => by have := (q h1).2; omega⟩
      · rw [if_neg (fun q => by have := (nI_leI (by omega) (by omega)).mp q; omega)]
        exact ⟨fun _ _ => ⟨by omega, by omega⟩, fun _ => rfl⟩
  · rw [if_neg (by rw [show (1 : Int32) = nI 1 from rfl, nI_eq64 (by omega) (by omega)]; exact h1)]
    exact ⟨fun _ q => absurd q h1, fun _ => rfl⟩
theorem c_room (hD : BD F R n al ff lf sqf stf) {k w m : Nat} (hk : k < 6) (hk1 : 1 ≤ k) (hw : w < n) (hm : m < n) {c : Nat} (hc : c < 64) : tb (mX0_roomForBlack (nI F) (nI R) n al ff lf sqf (nI k) (nI w) (nI m)) c = true ↔ c < n ∧ vB F R k (cs F w) (cs F m) (cs F c) := by
  have hB := hD.1
  have hn := hD.2.1
  have hn64 := hD.n64
  unfold mX0_roomForBlack
  by_cases h1 : w = m
  · rw [if_pos (by rw [h1]), tb_0]
    exact ⟨fun q => (by cases q), fun q => absurd (by rw [h1]) q.2.2.2.2.1⟩
  · rw [if_neg (fun q => h1 ((nI_eq64 (by omega) (by omega)).mp q))]
    by_cases h2 : k = 1 → 0 < cs F m / 8 ∧ cs F m / 8 + 1 < R
    · rw [if_neg (by rw [zI_b0]; exact fun q => q ((c_stand hD hk hk1 hm).mpr h2)), tb_and, tb_and, tb_and, tb_not _ hc, tb_not _ hc, tb_not _ hc, tb_bit (by omega), tb_bit (by omega)]
      have ha := c_around hD hw hc
      have hal := hD.2.2.1 c hc
      constructor
      · intro q
        simp only [Bool.and_eq_true, Bool.not_eq_true', decide_eq_false_iff_not] at q
        obtain ⟨⟨⟨q1, q2⟩, q3⟩, q4⟩ := q
        have hcn := hal.mp q1
        refine ⟨hcn, cs_on hB (by omega), cs_on hB (by omega), cs_on hB (by omega), fun z => h1 (cs_inj hB (by omega) (by omega) z), fun z => q3 (cs_inj hB (by omega) (by omega) z.symm), fun z => q4 (cs_inj hB (by omega) (by omega) z.symm), fun z => ?_, h2⟩
        rw [ha.mpr ⟨hcn, z⟩] at q2
        cases q2
      · rintro ⟨hcn, -, -, -, -, q1, q2, q3, -⟩
        simp only [Bool.and_eq_true, Bool.not_eq_true', decide_eq_false_iff_not]
        refine ⟨⟨⟨hal.mpr hcn, ?_⟩, fun z => q1 (by rw [z])⟩, fun z => q2 (by rw [z])⟩
        cases z : tb (mX0_around (nI F) al ff lf (nI w)) c with
        | false => rfl
        | true => exact absurd (ha.mp z).2 q3
    · rw [if_pos (by rw [zI_b0]; exact fun q => h2 ((c_stand hD hk hk1 hm).mp q)), tb_0]
      exact ⟨fun q => (by cases q), fun q => absurd q.2.2.2.2.2.2.2.2 h2⟩
theorem c_check (hD : BD F R n al ff lf sqf stf) {k w m b : Nat} (hk : k < 6) (hw : w < n) (hm : m < n) (hb : b < n) : mX0_inCheck n stf (nI k) (nI w) (nI m) (nI b) = true ↔ att k (cs F m) (cs F b) (cs F w) := by
  have hn64 := hD.n64
  have h := c_att hD hk hm hw (show b < 64 by omega)
  unfold mX0_inCheck
  by_cases q : tb (mX0_attacked n stf (nI k) (nI m) (mX0_bit (nI w))) b = false
  · rw [if_pos ((tb_andbit _ (by omega)).mpr q)]
    refine ⟨fun z => (by cases z), fun z => ?_⟩
    rw [h.mpr ⟨hb, z⟩] at q
    cases q
  · rw [if_neg (fun z => q ((tb_andbit _ (by omega)).mp z))]
    have q2 : tb (mX0_attacked n stf (nI k) (nI m) (mX0_bit (nI w))) b = true := by
      cases z : tb (mX0_attacked n stf (nI k) (nI m) (mX0_bit (nI w))) b with
      | true => rfl
      | false => exact absurd z q
    exact ⟨fun _ => (h.mp q2).2, fun _ => rfl⟩
theorem isSide_t {x : Int32} : mX4_isSide x = true ↔ x = 0 ∨ x = 1 := by
  unfold mX4_isSide
  by_cases h : x = 0
  · rw [if_pos h]; simp [h]
  · rw [if_neg h]
    by_cases h2 : x = 1
    · rw [if_pos h2]; simp [h2]
    · rw [if_neg h2]; simp [h, h2]
theorem isMan_t {x : Int32} : mX4_isMan x = true ↔ ∃ k, k < 6 ∧ 1 ≤ k ∧ x = nI k := by
  unfold mX4_isMan
  constructor
  · intro h
    by_cases h1 : x < 1
    · rw [if_pos h1] at h; cases h
    · rw [if_neg h1] at h
      by_cases h2 : (5 : Int32) < x
      · rw [if_pos h2] at h; cases h
      · rcases pk_ix x (n := 6) (by decide) with h3 | h3 | ⟨j, hj, rfl⟩
        · exfalso
          apply h1
          have := Int32.lt_iff_toInt_lt.mp h3
          apply Int32.lt_iff_toInt_lt.mpr
          have e1 : (1 : Int32).toInt = 1 := by decide
          have e0 : (0 : Int32).toInt = 0 := by decide
          omega
        · exfalso
          apply h2
          have := Int32.le_iff_toInt_le.mp h3
          apply Int32.lt_iff_toInt_lt.mpr
          have e1 : (nI 6).toInt = 6 := by decide
          have e0 : (5 : Int32).toInt = 5 := by decide
          omega
        · refine ⟨j, hj, ?_, rfl⟩
          rcases Nat.eq_zero_or_pos j with z | z
          · subst z
            exact absurd (by decide) h1
          · exact z
  · rintro ⟨k, h1, h2, rfl⟩
    rw [if_neg (by rw [show (1 : Int32) = nI 1 from rfl, nI_ltI (by omega) (by omega)]; omega), if_neg (by rw [show (5 : Int32) = nI 5 from rfl, nI_ltI (by omega) (by omega)]; omega)]
/-- cells of a position -/
theorem c_pos (hD : BD F R n al ff lf sqf stf) {k w m b : Nat} {who : Int32} (hk : k < 6) (hk1 : 1 ≤ k) (hw : w < n) (hm : m < n) (hb : b < n) (hwho : who = 0 ∨ who = 1) : mX0_isPosition (nI F) (nI R) n al ff lf sqf stf (nI k) (nI w) (nI m) (nI b) who = true ↔ vB F R k (cs F w) (cs F m) (cs F b) ∧ (who = 1 ∨ ¬ att k (cs F m) (cs F b) (cs F w)) := by
  have hn64 := hD.n64
  have hr := c_room hD hk hk1 hw hm (show b < 64 by omega)
  have F0 : ∀ {P : Prop}, ¬ P → ((false = true) ↔ P) := fun h => ⟨fun q => (by cases q), fun q => absurd q h⟩
  unfold mX0_isPosition
  rw [if_neg (by rw [show (0 : Int32) = nI 0 from rfl, nI_eq64 (by omega) (by omega)]; omega), if_neg (by rw [zI_b0]; exact fun q => q (isMan_t.mpr ⟨k, hk, hk1, rfl⟩)), if_neg (by rw [zI_b0]; exact fun q => q (isSide_t.mpr hwho)), if_neg (nI_pos (by omega))]
  by_cases q : tb (mX0_roomForBlack (nI F) (nI R) n al ff lf sqf (nI k) (nI w) (nI m)) b = false
  · rw [if_pos ((tb_andbit _ (by omega)).mpr q)]
    refine F0 (fun z => ?_)
    rw [hr.mpr ⟨hb, z.1⟩] at q
    cases q
  · rw [if_neg (fun z => q ((tb_andbit _ (by omega)).mp z))]
    have q2 : tb (mX0_roomForBlack (nI F) (nI R) n al ff lf sqf (nI k) (nI w) (nI m)) b = true := by
      cases z : tb (mX0_roomForBlack (nI F) (nI R) n al ff lf sqf (nI k) (nI w) (nI m)) b with
      | true => rfl
      | false => exact absurd z q
    have hv := (hr.mp q2).2
    by_cases h1 : who = 1
    · rw [if_pos h1]
      exact ⟨fun _ => ⟨hv, Or.inl h1⟩, fun _ => rfl⟩
    · rw [if_neg h1]
      by_cases h2 : att k (cs F m) (cs F b) (cs F w)
      · rw [if_neg (by rw [zI_b0]; exact fun q => q ((c_check hD hk hw hm hb).mpr h2))]
        exact F0 (fun z => z.2.elim h1 (fun y => y h2))
      · rw [if_pos (by rw [zI_b0]; exact fun q => h2 ((c_check hD hk hw hm hb).mp q))]
        exact ⟨fun _ => ⟨hv, Or.inr h2⟩, fun _ => rfl⟩
theorem c_cellN : ∀ F, F < 9 → ∀ R, R < 9 → ∀ s, s < 64 → mX0_cellOf (nI F) (nI R) (nI s) = clI F R s := by decide +kernel
/-- a square that is told: a cell, or none -/
theorem c_cellOf (hB : bd F R) (x : Int32) : (∃ s, s < 64 ∧ on F R s ∧ x = nI s ∧ mX0_cellOf (nI F) (nI R) x = nI (sc F s)) ∨ (mX0_cellOf (nI F) (nI R) x = -1 ∧ ¬ mX5_isSquare (nI F) (nI R) x = true) := by
  by_cases hx : ∃ s, s < 64 ∧ x = nI s
  · obtain ⟨s, hs, rfl⟩ := hx
    have h1 := r_sq F hB.2.1 R hB.2.2.2 s hs
    rw [c_cellN F hB.2.1 R hB.2.2.2 s hs]
    by_cases ho : on F R s
    · exact Or.inl ⟨s, hs, ho, rfl, clI_on ho⟩
    · exact Or.inr ⟨clI_no ho, fun q => ho (h1.mp q)⟩
  · refine Or.inr ⟨?_, fun q => hx (r_sqI q)⟩
    unfold mX0_cellOf
    by_cases h0 : x < 0
    · rw [if_pos h0]
    · rw [if_neg h0]
      rcases pk_ix x (n := 64) (by decide) with h | h | h
      · exact absurd h h0
      · rw [if_neg]
        intro q
        have h1 := Int32.le_iff_toInt_le.mp h
        have h2 := Int32.le_iff_toInt_le.mp q
        have e1 : (nI 64).toInt = 64 := by decide
        have e2 : (63 : Int32).toInt = 63 := by decide
        omega
      · exact absurd h hx
theorem c_room_m1 {k : Nat} {w : Int32} (hk : k < 6) (hk1 : 1 ≤ k) (hw : ¬ w < 0) : mX0_roomForBlack (nI F) (nI R) n al ff lf sqf (nI k) w (-1) = 0 := by
  unfold mX0_roomForBlack
  rw [if_neg (fun q => hw (by rw [q]; decide))]
  rw [if_pos]
  rw [zI_b0]
  unfold mX0_mayStand
  rw [if_neg (by rw [show (0 : Int32) = nI 0 from rfl, nI_eq64 (by omega) (by omega)]; omega), if_pos (by decide)]
  decide
/-- what the class takes for a position is one of the reference's -/
theorem c_isPos (hD : BD F R n al ff lf sqf stf) {k : Nat} (hk : k < 6) (hk1 : 1 ≤ k) (white man black side : Int32) : mX0_isPosition (nI F) (nI R) n al ff lf sqf stf (nI k) (mX0_cellOf (nI F) (nI R) white) (mX0_cellOf (nI F) (nI R) man) (mX0_cellOf (nI F) (nI R) black) side = mX5_isPosition (nI F) (nI R) (nI k) white man black side := by
  have hB := hD.1
  have hn := hD.2.1
  have hn64 := hD.n64
  have hk0 : ¬ nI k = 0 := by rw [show (0 : Int32) = nI 0 from rfl, nI_eq64 (by omega) (by omega)]; omega
  have hman : ¬ zI (mX4_isMan (nI k)) = 0 := by rw [zI_b0]; exact fun q => q (isMan_t.mpr ⟨k, hk, hk1, rfl⟩)
  have hcmp : ∀ x : Int64, lg_cmp ((0 : Int64) &&& x) 0 = 0 := by
    intro x
    rw [tb_cmp0]
    exact tb_ext (fun c _ => by rw [tb_and, tb_0, Bool.false_and])
  have hcmp2 : ∀ x : Int64, lg_cmp (x &&& mX0_bit (-1)) 0 = 0 := by
    intro x
    rw [tb_cmp0, tb_bitN]
    exact tb_ext (fun c _ => by rw [tb_and, tb_0, Bool.and_false])
  by_cases hside : side = 0 ∨ side = 1
  · have hs : ¬ zI (mX4_isSide side) = 0 := by rw [zI_b0]; exact fun q => q (isSide_t.mpr hside)
    have ref0 : (¬ mX5_isSquare (nI F) (nI R) white = true ∨ ¬ mX5_isSquare (nI F) (nI R) man = true ∨ ¬ mX5_isSquare (nI F) (nI R) black = true) → mX5_isPosition (nI F) (nI R) (nI k) white man black side = false := by
      intro q
      unfold mX5_isPosition
      rw [if_neg (nI_nneg64 (by omega)), if_neg (by rw [show (5 : Int32) = nI 5 from rfl, nI_ltI (by omega) (by omega)]; omega), if_neg (by rcases hside with rfl | rfl <;> decide), if_neg (by rcases hside with rfl | rfl <;> decide)]
      by_cases h1 : mX5_isSquare (nI F) (nI R) white = true
      · rw [if_neg (by rw [zI_b0]; exact fun q => q h1)]
        by_cases h2 : mX5_isSquare (nI F) (nI R) black = true
        · rw [if_neg (by rw [zI_b0]; exact fun q => q h2)]
          have h3 : ¬ mX5_isSquare (nI F) (nI R) man = true := by
            rcases q with q | q | q
            · exact absurd h1 q
            · exact q
            · exact absurd h2 q
          split
          · rfl
          · split
            · rw [if_pos (by rw [zI_b0]; exact h3)]
            · rfl
        · rw [if_pos (by rw [zI_b0]; exact h2)]
      · rw [if_pos (by rw [zI_b0]; exact h1)]
    rcases c_cellOf hB white with ⟨w, hw, how, rfl, e1⟩ | ⟨e1, q1⟩
    · rcases c_cellOf hB black with ⟨b, hb, hob, rfl, e3⟩ | ⟨e3, q3⟩
      · rcases c_cellOf hB man with ⟨m, hm, hom, rfl, e2⟩ | ⟨e2, q2⟩
        · rw [e1, e2, e3, Bool.eq_iff_iff, c_pos hD hk hk1 (by rw [hn]; exact sc_lt hB how) (by rw [hn]; exact sc_lt hB hom) (by rw [hn]; exact sc_lt hB hob) hside, cs_sc hB how, cs_sc hB hom, cs_sc hB hob, r_pos hB hk hk1 hw hm hb hside]
        · rw [ref0 (Or.inr (Or.inl q2)), e1, e2]
          have hlt := sc_lt hB how
          unfold mX0_isPosition
          rw [if_neg hk0, if_neg hman, if_neg hs, if_neg (nI_pos (by omega)), c_room_m1 hk hk1 (nI_pos (by omega)), if_pos (hcmp _)]
      · rw [ref0 (Or.inr (Or.inr q3)), e1, e3]
        have hlt := sc_lt hB how
        unfold mX0_isPosition
        rw [if_neg hk0, if_neg hman, if_neg hs, if_neg (nI_pos (by omega)), if_pos (hcmp2 _)]
    · rw [ref0 (Or.inl q1), e1]
      unfold mX0_isPosition
      rw [if_neg hk0, if_neg hman, if_neg hs, if_pos (by decide)]
  · have hs : zI (mX4_isSide side) = 0 := by rw [zI_b0]; exact fun q => hside (isSide_t.mp q)
    have e1 : mX5_isPosition (nI F) (nI R) (nI k) white man black side = false := by
      unfold mX5_isPosition
      rw [if_neg (nI_nneg64 (by omega)), if_neg (by rw [show (5 : Int32) = nI 5 from rfl, nI_ltI (by omega) (by omega)]; omega)]
      by_cases h1 : side < 0
      · rw [if_pos h1]
      · rw [if_neg h1]
        by_cases h2 : (1 : Int32) < side
        · rw [if_pos h2]
        · exfalso
          apply hside
          rcases pk_ix side (n := 2) (by decide) with h | h | ⟨j, hj, rfl⟩
          · exact absurd h h1
          · exfalso
            apply h2
            have h3 := Int32.le_iff_toInt_le.mp h
            apply Int32.lt_iff_toInt_lt.mpr
            have a1 : (nI 2).toInt = 2 := by decide
            have a2 : (1 : Int32).toInt = 1 := by decide
            omega
          · rcases (show j = 0 ∨ j = 1 by omega) with rfl | rfl
            · exact Or.inl rfl
            · exact Or.inr rfl
    rw [e1]
    unfold mX0_isPosition
    rw [if_neg hk0, if_neg hman, if_pos hs]
end ClPos
