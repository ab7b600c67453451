/-! what the law's arms still want -/
section Fin
variable {F R n : Nat} {al ff lf : Int64} {sqf stf : Nat → Int32}
theorem att0 (x : Int32) (bars : Int64) : mX0_attacked n stf 0 x bars = 0 := by
  unfold mX0_attacked
  rw [if_neg (by decide), show mB_ways 0 = 0 by decide, mX0_attacked_L1]
theorem c_lookAt (hD : BD F R n al ff lf sqf stf) (qk qw qm qb qs kind white man black side : Int32) : (mX4_lookAt (nI F) (nI R) n al ff lf sqf stf qk qw qm qb qs kind white man black side).1 = mX5_isPosition (nI F) (nI R) kind white man black side := by
  have hB := hD.1
  have hn := hD.2.1
  have hn64 := hD.n64
  unfold mX4_lookAt
  by_cases h0 : kind = 0
  · subst h0
    rw [if_pos rfl]
    have ref : man = 0 → (mX5_isPosition (nI F) (nI R) 0 white man black side = true ↔ (side = 0 ∨ side = 1) ∧ mX5_isSquare (nI F) (nI R) white = true ∧ mX5_isSquare (nI F) (nI R) black = true ∧ white ≠ black ∧ ¬ mX5_isNext white black = true) := by
      intro hm
      have F0 : ∀ {P : Prop}, ¬ P → ((false = true) ↔ P) := fun h => ⟨fun q => (by cases q), fun q => absurd q h⟩
      unfold mX5_isPosition
      rw [if_neg (show ¬ (0 : Int32) < 0 by decide), if_neg (show ¬ (5 : Int32) < 0 by decide)]
      by_cases hs : side = 0 ∨ side = 1
      · rw [if_neg (show ¬ side < 0 by rcases hs with rfl | rfl <;> decide), if_neg (show ¬ (1 : Int32) < side by rcases hs with rfl | rfl <;> decide)]
        by_cases h1 : mX5_isSquare (nI F) (nI R) white = true
        · rw [if_neg (show ¬ zI (mX5_isSquare (nI F) (nI R) white) = 0 by rw [zI_b0]; exact fun q => q h1)]
          by_cases h2 : mX5_isSquare (nI F) (nI R) black = true
          · rw [if_neg (show ¬ zI (mX5_isSquare (nI F) (nI R) black) = 0 by rw [zI_b0]; exact fun q => q h2)]
            by_cases h3 : white = black
            · rw [if_pos h3]
              exact F0 (fun q => q.2.2.2.1 h3)
            · rw [if_neg h3]
              by_cases h4 : mX5_isNext white black = true
              · rw [if_neg (show ¬ zI (mX5_isNext white black) = 0 by rw [zI_b0]; exact fun q => q h4)]
                exact F0 (fun q => q.2.2.2.2 h4)
              · rw [if_pos (show zI (mX5_isNext white black) = 0 by rw [zI_b0]; exact h4), if_pos (show (0 : Int32) = 0 from rfl), if_pos hm]
                exact ⟨fun _ => ⟨hs, h1, h2, h3, h4⟩, fun _ => rfl⟩
          · rw [if_pos (show zI (mX5_isSquare (nI F) (nI R) black) = 0 by rw [zI_b0]; exact h2)]
            exact F0 (fun q => h2 q.2.2.1)
        · rw [if_pos (show zI (mX5_isSquare (nI F) (nI R) white) = 0 by rw [zI_b0]; exact h1)]
          exact F0 (fun q => h1 q.2.1)
      · rcases side_no hs with z | z
        · rw [if_pos z]
          exact F0 (fun q => hs q.1)
        · by_cases z0 : side < 0
          · rw [if_pos z0]
            exact F0 (fun q => hs q.1)
          · rw [if_neg z0, if_pos (show (1 : Int32) < side by
              have h3 := Int32.le_iff_toInt_le.mp z
              apply Int32.lt_iff_toInt_lt.mpr
              have a1 : (2 : Int32).toInt = 2 := by decide
              have a2 : (1 : Int32).toInt = 1 := by decide
              omega)]
            exact F0 (fun q => hs q.1)
    by_cases hm : man = 0
    · rw [if_pos hm]
      show mX0_isPosition (nI F) (nI R) n al ff lf sqf stf 0 (mX0_cellOf (nI F) (nI R) white) (-1) (mX0_cellOf (nI F) (nI R) black) side = _
      rw [Bool.eq_iff_iff, ref hm]
      have F0 : ∀ {P : Prop}, ¬ P → ((false = true) ↔ P) := fun h => ⟨fun q => (by cases q), fun q => absurd q h⟩
      unfold mX0_isPosition
      rw [if_pos (show (0 : Int32) = 0 from rfl)]
      by_cases hs : side = 0 ∨ side = 1
      · rw [if_neg (show ¬ zI (mX4_isSide side) = 0 by rw [zI_b0]; exact fun q => q (isSide_t.mpr hs))]
        rcases c_cellOf hB white with ⟨w, hw, how, rfl, e1⟩ | ⟨e1, q1⟩
        · have lw := sc_lt hB how
          rw [e1, if_neg (show ¬ nI (sc F w) < 0 from nI_pos (by omega))]
          have hroom : ∀ c, c < 64 → (tb (mX0_roomForBlack (nI F) (nI R) n al ff lf sqf 0 (nI (sc F w)) (-1)) c = true ↔ c < n ∧ ¬ nx w (cs F c) ∧ c ≠ sc F w) := by
            intro c hc
            unfold mX0_roomForBlack
            rw [if_neg (nI_nm1 _ (by omega))]
            have hst : ¬ zI (mX0_mayStand (nI R) n sqf 0 (-1)) = 0 := by
              unfold mX0_mayStand
              rw [if_pos rfl]
              decide
            have har := c_around hD (show sc F w < n by omega) hc
            rw [cs_sc hB how] at har
            rw [if_neg hst, tb_and, tb_and, tb_and, tb_not _ hc, tb_not _ hc, tb_not _ hc, tb_bit (by omega), tb_bitN, tb_0]
            simp only [Bool.and_eq_true, Bool.not_eq_true', decide_eq_false_iff_not, Bool.not_false, and_true]
            rw [hD.2.2.1 c hc]
            constructor
            · rintro ⟨⟨q1, q2⟩, q3⟩
              refine ⟨q1, fun z => ?_, q3⟩
              rw [har.mpr ⟨q1, z⟩] at q2
              cases q2
            · rintro ⟨q1, q2, q3⟩
              refine ⟨⟨q1, ?_⟩, q3⟩
              cases z : tb (mX0_around (nI F) al ff lf (nI (sc F w))) c with
              | false => rfl
              | true => exact absurd (har.mp z).2 q2
          rcases c_cellOf hB black with ⟨b, hb, hob, rfl, e3⟩ | ⟨e3, q3⟩
          · have lb := sc_lt hB hob
            have hr := hroom (sc F b) (by omega)
            rw [cs_sc hB hob] at hr
            have hsq1 := (r_sq F hB.2.1 R hB.2.2.2 w hw).mpr how
            have hsq2 := (r_sq F hB.2.1 R hB.2.2.2 b hb).mpr hob
            have hne : (sc F b ≠ sc F w) ↔ nI w ≠ nI b := by
              constructor
              · intro q z
                rw [(nI_eq64 hw hb).mp z] at q
                exact q rfl
              · intro q z
                apply q
                rw [← cs_sc hB how, ← cs_sc hB hob, z]
            have hnx := r_nx w hw b hb
            rw [e3]
            by_cases q : tb (mX0_roomForBlack (nI F) (nI R) n al ff lf sqf 0 (nI (sc F w)) (-1)) (sc F b) = false
            · rw [if_pos ((tb_andbit _ (show sc F b < 64 by omega)).mpr q)]
              refine F0 (fun ⟨_, _, _, z1, z2⟩ => ?_)
              rw [hr.mpr ⟨by omega, fun y => z2 (hnx.mpr y), hne.mpr z1⟩] at q
              cases q
            · have q2 : tb (mX0_roomForBlack (nI F) (nI R) n al ff lf sqf 0 (nI (sc F w)) (-1)) (sc F b) = true := by
                cases z : tb (mX0_roomForBlack (nI F) (nI R) n al ff lf sqf 0 (nI (sc F w)) (-1)) (sc F b) with
                | true => rfl
                | false => exact absurd z q
              obtain ⟨-, y1, y2⟩ := hr.mp q2
              rw [if_neg (fun z => q ((tb_andbit _ (show sc F b < 64 by omega)).mp z))]
              have good : (side = 0 ∨ side = 1) ∧ mX5_isSquare (nI F) (nI R) (nI w) = true ∧ mX5_isSquare (nI F) (nI R) (nI b) = true ∧ nI w ≠ nI b ∧ ¬ mX5_isNext (nI w) (nI b) = true := ⟨hs, hsq1, hsq2, hne.mp y2, fun z => y1 (hnx.mp z)⟩
              by_cases h1 : side = 1
              · rw [if_pos h1]
                exact ⟨fun _ => good, fun _ => rfl⟩
              · have hc : zI (mX0_inCheck n stf 0 (nI (sc F w)) (-1) (nI (sc F b))) = 0 := by
                  unfold mX0_inCheck
                  rw [att0, if_pos ((tb_cmp0 _).mpr (tb_ext (fun c _ => by rw [tb_and, tb_0, Bool.false_and])))]
                  rfl
                rw [if_neg h1, if_pos hc]
                exact ⟨fun _ => good, fun _ => rfl⟩
          · rw [e3, if_pos ((tb_cmp0 _).mpr (tb_ext (fun c _ => by rw [tb_and, tb_bitN, tb_0, Bool.and_false])))]
            exact F0 (fun z => q3 z.2.2.1)
        · rw [e1, if_pos (show (-1 : Int32) < 0 by decide)]
          exact F0 (fun z => q1 z.2.1)
      · rw [if_pos (show zI (mX4_isSide side) = 0 by rw [zI_b0]; exact fun q => hs (isSide_t.mp q))]
        exact F0 (fun z => hs z.1)
    · rw [if_neg hm]
      show false = _
      unfold mX5_isPosition
      rw [if_neg (show ¬ (0 : Int32) < 0 by decide), if_neg (show ¬ (5 : Int32) < 0 by decide)]
      by_cases a1 : side < 0
      · rw [if_pos a1]
      · rw [if_neg a1]
        by_cases a2 : (1 : Int32) < side
        · rw [if_pos a2]
        · rw [if_neg a2]
          by_cases a3 : zI (mX5_isSquare (nI F) (nI R) white) = 0
          · rw [if_pos a3]
          · rw [if_neg a3]
            by_cases a4 : zI (mX5_isSquare (nI F) (nI R) black) = 0
            · rw [if_pos a4]
            · rw [if_neg a4]
              by_cases a5 : white = black
              · rw [if_pos a5]
              · rw [if_neg a5]
                by_cases a6 : zI (mX5_isNext white black) = 0
                · rw [if_pos a6, if_pos (show (0 : Int32) = 0 from rfl), if_neg hm]
                · rw [if_neg a6]
  · rw [if_neg h0, if_neg h0]
    show mX0_isPosition (nI F) (nI R) n al ff lf sqf stf kind (mX0_cellOf (nI F) (nI R) white) (mX0_cellOf (nI F) (nI R) man) (mX0_cellOf (nI F) (nI R) black) side = _
    by_cases hk : mX4_isMan kind = true
    · obtain ⟨k, h1, h2, rfl⟩ := isMan_t.mp hk
      exact c_isPos hD h1 h2 white man black side
    · unfold mX0_isPosition mX5_isPosition
      rw [if_neg h0, if_pos (show zI (mX4_isMan kind) = 0 by rw [zI_b0]; exact hk)]
      by_cases q1 : kind < 0
      · rw [if_pos q1]
      · rw [if_neg q1]
        by_cases q2 : (5 : Int32) < kind
        · rw [if_pos q2]
        · exfalso
          apply hk
          unfold mX4_isMan
          rw [if_neg (show ¬ kind < 1 from fun z => ?_), if_neg q2]
          obtain ⟨j, hj, rfl⟩ := nI_of q1
          have := (nI_ltI hj (show 1 < 2 ^ 31 by decide)).mp z
          have : j = 0 := by omega
          subst this
          exact h0 rfl
end Fin
/-- what is a kind to the class is one to the reference -/
theorem man_kind (x : Int32) : mX5_isKind x = true ↔ ∃ k, k < 6 ∧ 1 ≤ k ∧ x = nI k := by
  constructor
  · intro h
    unfold mX5_isKind at h
    by_cases h1 : x ≤ 0
    · rw [if_pos h1] at h; cases h
    · rw [if_neg h1] at h
      rcases pk_ix x (n := 6) (by decide) with q | q | ⟨j, hj, rfl⟩
      · exfalso
        apply h1
        exact Int32.le_of_lt q
      · rw [if_pos (show (6 : Int32) ≤ x from q)] at h; cases h
      · refine ⟨j, hj, ?_, rfl⟩
        rcases Nat.eq_zero_or_pos j with z | z
        · subst z
          exact absurd (by decide) h1
        · exact z
  · rintro ⟨k, h1, h2, rfl⟩
    exact mIs k h1 h2
theorem kind_cases (x : Int32) : x = 1 ∨ x = 2 ∨ x = 3 ∨ x = 4 ∨ x = 5 ∨ (zI (mX4_isMan x) = 0 ∧ zI (mX5_isKind x) = 0) := by
  by_cases h : ∃ k, k < 6 ∧ 1 ≤ k ∧ x = nI k
  · obtain ⟨k, h1, h2, rfl⟩ := h
    rcases (show k = 1 ∨ k = 2 ∨ k = 3 ∨ k = 4 ∨ k = 5 by omega) with rfl | rfl | rfl | rfl | rfl
    · exact Or.inl rfl
    · exact Or.inr (Or.inl rfl)
    · exact Or.inr (Or.inr (Or.inl rfl))
    · exact Or.inr (Or.inr (Or.inr (Or.inl rfl)))
    · exact Or.inr (Or.inr (Or.inr (Or.inr (Or.inl rfl))))
  · refine Or.inr (Or.inr (Or.inr (Or.inr (Or.inr ⟨?_, ?_⟩))))
    · rw [zI_b0]; exact fun q => h (isMan_t.mp q)
    · rw [zI_b0]; exact fun q => h ((man_kind x).mp q)
/-- an agreement, as an arm wants it -/
theorem AG.arm {M : Nat × Int32} {t a : Int32} (h : AG M t a) (hM : M.1 ≠ 2) : (M.1 = 0 ∨ M.1 = 1) ∧ t = (if M.1 = 0 then (0 : Int32) else 1) ∧ ((if M.1 = 0 then (0 : Int32) else 1) = 0 → ((if M.1 = 0 then vp_updL (fun _ => 0) 0 M.2.toInt64 else (fun _ => 0)) : Nat → Int64) 0 = a.toInt64) := by
  rcases h with ⟨h1, h2, h3⟩ | ⟨h1, h2⟩ | ⟨h1, -⟩
  · refine ⟨Or.inl h1, ?_, fun _ => ?_⟩
    · rw [if_pos h1]; exact h2
    · rw [if_pos h1, h3]; exact pk_uLs
  · refine ⟨Or.inr h1, ?_, fun q => ?_⟩
    · rw [if_neg (by omega)]; exact h2
    · rw [if_neg (by omega)] at q
      exact absurd q (by decide)
  · exact absurd h1 hM
theorem AG.armF {M : Nat × Int32} {t a : Int32} (h : AG M t a) : (M.1 = 0 ∨ M.1 = 1 ∨ M.1 = 2) ∧ t = (if M.1 = 0 then (0 : Int32) else if M.1 = 1 then 1 else 2) ∧ ((if M.1 = 0 then (0 : Int32) else if M.1 = 1 then 1 else 2) = 0 → ((if M.1 = 0 then vp_updL (fun _ => 0) 0 M.2.toInt64 else (fun _ => 0)) : Nat → Int64) 0 = a.toInt64) := by
  rcases h with ⟨h1, h2, h3⟩ | ⟨h1, h2⟩ | ⟨h1, h2⟩
  · refine ⟨Or.inl h1, ?_, fun _ => ?_⟩
    · rw [if_pos h1]; exact h2
    · rw [if_pos h1, h3]; exact pk_uLs
  · refine ⟨Or.inr (Or.inl h1), ?_, fun q => ?_⟩
    · rw [if_neg (by omega), if_pos h1]; exact h2
    · rw [if_neg (by omega), if_pos h1] at q
      exact absurd q (by decide)
  · refine ⟨Or.inr (Or.inr h1), ?_, fun q => ?_⟩
    · rw [if_neg (by omega), if_neg (by omega)]; exact h2
    · rw [if_neg (by omega), if_neg (by omega)] at q
      exact absurd q (by decide)
