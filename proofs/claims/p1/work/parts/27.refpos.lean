/-! the reference's positions and moves in the central words -/
theorem r_may {F R k w m t : Nat} (hB : bd F R) (hk : k < 6) (hk1 : 1 ≤ k) (hw : w < 64) (hm : on F R m) : mX5_mayGo (nI F) (nI R) (nI k) (nI w) (nI m) (sqI F R t) = true ↔ on F R t ∧ t ≠ w ∧ ¬ nx t w ∧ (t = m ∨ ¬ att k m t w) := by
  have hR : R ≤ 8 := by omega
  have hm64 := on64 hR hm
  unfold mX5_mayGo
  by_cases ho : on F R t
  · have ht := on64 hR ho
    rw [sqI_on ho, if_neg (nI_nneg64 ht)]
    by_cases hn : nx t w
    · rw [if_neg (by rw [zI_b0]; exact fun q => q ((r_nx t ht w hw).mpr hn))]
      exact ⟨fun q => (by cases q), fun q => absurd hn q.2.2.1⟩
    · rw [if_pos (by rw [zI_b0]; exact fun q => hn ((r_nx t ht w hw).mp q))]
      by_cases htw : t = w
      · rw [if_pos (by rw [htw])]
        exact ⟨fun q => (by cases q), fun q => absurd htw q.2.1⟩
      · rw [if_neg (fun q => htw ((nI_eq64 ht hw).mp q)), if_neg (by rw [show (0 : Int32) = nI 0 from rfl, nI_leI (by omega) (by omega)]; omega)]
        by_cases htm : t = m
        · rw [if_pos (by rw [htm])]
          exact ⟨fun _ => ⟨ho, htw, hn, Or.inl htm⟩, fun _ => rfl⟩
        · rw [if_neg (fun q => htm ((nI_eq64 ht hm64).mp q)), if_neg (by rw [show (0 : Int32) = nI 0 from rfl, nI_eq64 (by omega) (by omega)]; omega)]
          by_cases ha : att k m t w
          · rw [if_neg (by rw [zI_b0]; exact fun q => q ((r_att hB hk hm ho hw).mpr ha))]
            exact ⟨fun q => (by cases q), fun q => absurd ha (q.2.2.2.resolve_left htm)⟩
          · rw [if_pos (by rw [zI_b0]; exact fun q => ha ((r_att hB hk hm ho hw).mp q))]
            exact ⟨fun _ => ⟨ho, htw, hn, Or.inr ha⟩, fun _ => rfl⟩
  · rw [sqI_no ho, if_pos (by decide)]
    exact ⟨fun q => (by cases q), fun q => absurd q.1 ho⟩
theorem r_p8 : ∀ m, m < 64 → (nI m / 8 = 0 ↔ m / 8 = 0) := by decide +kernel
theorem r_p9 : ∀ R, R < 9 → 3 ≤ R → ∀ m, m < 64 → (nI m / 8 = nI R - 1 ↔ m / 8 + 1 = R) := by decide +kernel
theorem r_pos {F R k w m b : Nat} {who : Int32} (hB : bd F R) (hk : k < 6) (hk1 : 1 ≤ k) (hw : w < 64) (hm : m < 64) (hb : b < 64) (hwho : who = 0 ∨ who = 1) : mX5_isPosition (nI F) (nI R) (nI k) (nI w) (nI m) (nI b) who = true ↔ vB F R k w m b ∧ (who = 1 ∨ ¬ att k m b w) := by
  have hR : R ≤ 8 := by omega
  have F0 : ∀ {P : Prop}, ¬ P → ((false = true) ↔ P) := fun h => ⟨fun q => (by cases q), fun q => absurd q h⟩
  unfold mX5_isPosition
  rw [if_neg (nI_nneg64 (by omega)), if_neg (by rw [show (5 : Int32) = nI 5 from rfl, nI_ltI (by omega) (by omega)]; omega), if_neg (by rcases hwho with rfl | rfl <;> decide), if_neg (by rcases hwho with rfl | rfl <;> decide)]
  by_cases h1 : on F R w
  · rw [if_neg (by rw [zI_b0]; exact fun q => q ((r_sq F hB.2.1 R hB.2.2.2 w hw).mpr h1))]
    by_cases h2 : on F R b
    · rw [if_neg (by rw [zI_b0]; exact fun q => q ((r_sq F hB.2.1 R hB.2.2.2 b hb).mpr h2))]
      by_cases h3 : w = b
      · rw [if_pos (by rw [h3])]
        exact F0 (fun q => absurd h3 q.1.2.2.2.2.1)
      · rw [if_neg (fun q => h3 ((nI_eq64 hw hb).mp q))]
        by_cases h4 : nx w b
        · rw [if_neg (by rw [zI_b0]; exact fun q => q ((r_nx w hw b hb).mpr h4))]
          exact F0 (fun q => absurd h4 q.1.2.2.2.2.2.2.1)
        · rw [if_pos (by rw [zI_b0]; exact fun q => h4 ((r_nx w hw b hb).mp q)), if_neg (by rw [show (0 : Int32) = nI 0 from rfl, nI_eq64 (by omega) (by omega)]; omega)]
          by_cases h5 : on F R m
          · rw [if_neg (by rw [zI_b0]; exact fun q => q ((r_sq F hB.2.1 R hB.2.2.2 m hm).mpr h5))]
            by_cases h6 : m = w
            · rw [if_pos (by rw [h6])]
              exact F0 (fun q => absurd h6.symm q.1.2.2.2.1)
            · rw [if_neg (fun q => h6 ((nI_eq64 hm hw).mp q))]
              by_cases h7 : m = b
              · rw [if_pos (by rw [h7])]
                exact F0 (fun q => absurd h7 q.1.2.2.2.2.2.1)
              · rw [if_neg (fun q => h7 ((nI_eq64 hm hb).mp q))]
                have key : ∀ (hp : k = 1 → 0 < m / 8 ∧ m / 8 + 1 < R), ((if who = 1 then true else if zI (mX5_attacks (nI F) (nI R) (nI k) (nI m) (nI b) (nI w)) = 0 then true else false) = true) ↔ vB F R k w m b ∧ (who = 1 ∨ ¬ att k m b w) := by
                  intro hp
                  have hv : vB F R k w m b := ⟨h1, h5, h2, fun q => h6 q.symm, h3, h7, h4, hp⟩
                  by_cases h8 : who = 1
                  · rw [if_pos h8]
                    exact ⟨fun _ => ⟨hv, Or.inl h8⟩, fun _ => rfl⟩
                  · rw [if_neg h8]
                    by_cases ha : att k m b w
                    · rw [if_neg (by rw [zI_b0]; exact fun q => q ((r_att hB hk h5 h2 hw).mpr ha))]
                      exact F0 (fun q => q.2.elim h8 (fun z => z ha))
                    · rw [if_pos (by rw [zI_b0]; exact fun q => ha ((r_att hB hk h5 h2 hw).mp q))]
                      exact ⟨fun _ => ⟨hv, Or.inr ha⟩, fun _ => rfl⟩
                by_cases h9 : k = 1
                · rw [if_pos (by rw [h9]; rfl)]
                  by_cases h10 : m / 8 = 0
                  · rw [if_pos ((r_p8 m hm).mpr h10)]
                    exact F0 (fun q => by have := (q.1.2.2.2.2.2.2.2 h9).1; omega)
                  · rw [if_neg (fun q => h10 ((r_p8 m hm).mp q))]
                    by_cases h11 : m / 8 + 1 = R
                    · rw [if_pos ((r_p9 R hB.2.2.2 hB.2.2.1 m hm).mpr h11)]
                      exact F0 (fun q => by have := (q.1.2.2.2.2.2.2.2 h9).2; omega)
                    · rw [if_neg (fun q => h11 ((r_p9 R hB.2.2.2 hB.2.2.1 m hm).mp q))]
                      exact key (fun _ => ⟨by omega, by have := h5.2; omega⟩)
                · rw [if_neg (by rw [show (1 : Int32) = nI 1 from rfl, nI_eq64 (by omega) (by omega)]; exact h9)]
                  exact key (fun q => absurd q h9)
          · rw [if_pos (by rw [zI_b0]; exact fun q => h5 ((r_sq F hB.2.1 R hB.2.2.2 m hm).mp q))]
            exact F0 (fun q => h5 q.1.2.1)
    · rw [if_pos (by rw [zI_b0]; exact fun q => h2 ((r_sq F hB.2.1 R hB.2.2.2 b hb).mp q))]
      exact F0 (fun q => h2 q.1.2.2.1)
  · rw [if_pos (by rw [zI_b0]; exact fun q => h1 ((r_sq F hB.2.1 R hB.2.2.2 w hw).mp q))]
    exact F0 (fun q => h1 q.1.1)
/-! black's moves -/
def d3 (i1 i2 : Nat) : Nat := ([4, 1, 6, 0, 16, 3, 5, 2, 7] : List Nat).getD (3 * i1 + i2) 16
def nb3 (i1 i2 b : Nat) : Nat := if i1 = 1 ∧ i2 = 1 then 64 else sp8 (d3 i1 i2) b
theorem r_d3 : ∀ i1, i1 < 3 → ∀ i2, i2 < 3 → (i1 = 1 ∧ i2 = 1) ∨ (¬ (nI i1 - 1 = 0 ∧ nI i2 - 1 = 0) ∧ d3 i1 i2 < 16 ∧ nI i1 - 1 = et_fs (d3 i1 i2) ∧ nI i2 - 1 = et_rs (d3 i1 i2)) := by decide +kernel
theorem r_nb : ∀ b, b < 64 → ∀ t, t < 64 → (nx b t ↔ ∃ i1, i1 < 3 ∧ ∃ i2, i2 < 3 ∧ nb3 i1 i2 b = t) := by decide +kernel
theorem r_V1 {F R b : Nat} (hB : bd F R) (hb : b < 64) : ∀ i1, i1 < 3 → ∀ i2, i2 < 3 → mX5_isLost_V1 (nI F) (nI R) (nI b) i2 i1 = sqI F R (nb3 i1 i2 b) := by
  intro i1 h1 i2 h2
  rcases r_d3 i1 h1 i2 h2 with ⟨rfl, rfl⟩ | ⟨hn, hd, hf, hr⟩
  · unfold mX5_isLost_V1 nb3
    rw [if_pos (by decide), if_pos (by decide), if_pos ⟨rfl, rfl⟩, sqI_no]
    intro q
    have := q.2
    omega
  · have e : nb3 i1 i2 b = sp8 (d3 i1 i2) b := by
      unfold nb3
      rw [if_neg]
      rintro ⟨rfl, rfl⟩
      exact hn (by decide)
    have hs := r_step F hB.2.1 R hB.2.2.2 _ hd b hb
    rw [← hf, ← hr] at hs
    rw [e]
    unfold mX5_isLost_V1
    by_cases c1 : nI i1 - 1 = 0
    · rw [if_pos c1, if_neg (fun q => hn ⟨c1, q⟩)]
      exact hs
    · rw [if_neg c1]
      exact hs
section RLost
variable {mF mR : Int32} {tbl : Nat → Int64} {kd ww wm wb : Int32}
theorem r_lV2 (i2 : Nat) (a : Bool) (i1 : Nat) : mX5_isLost_V2 mF mR tbl kd ww wm wb i2 a i1 = true ↔ a = true ∧ ¬ mX5_isLost_V1 mF mR wb i2 i1 = wm ∧ ¬ mX5_known tbl kd 0 ww wm (mX5_isLost_V1 mF mR wb i2 i1) < 0 := by
  unfold mX5_isLost_V2
  by_cases h1 : zI a = 0
  · rw [if_pos h1]
    rw [zI_b0] at h1
    exact ⟨fun q => (by cases q), fun q => absurd q.1 h1⟩
  · rw [if_neg h1]
    rw [zI_b0] at h1
    have h1 := Classical.not_not.mp h1
    by_cases h2 : mX5_isLost_V1 mF mR wb i2 i1 = wm
    · rw [if_pos h2]
      exact ⟨fun q => (by cases q), fun q => absurd h2 q.2.1⟩
    · rw [if_neg h2]
      by_cases h3 : mX5_known tbl kd 0 ww wm (mX5_isLost_V1 mF mR wb i2 i1) < 0
      · rw [if_pos h3]
        exact ⟨fun q => (by cases q), fun q => absurd h3 q.2.2⟩
      · rw [if_neg h3]
        exact ⟨fun _ => ⟨h1, h2, h3⟩, fun _ => rfl⟩
theorem r_lostL2 (i1 : Nat) : ∀ (k2 i2 c : Nat) (a : Bool), ∃ c' a', mX5_isLost_L2 mF mR tbl kd ww wm wb i1 k2 i2 (nI c) a = (nI c', a') ∧ c ≤ c' ∧ c' ≤ c + k2 ∧ (c' = 0 ↔ c = 0 ∧ ∀ j, i2 ≤ j → j < i2 + k2 → ¬ mX5_mayGo mF mR kd ww wm (mX5_isLost_V1 mF mR wb j i1) = true) ∧ (a' = true ↔ a = true ∧ ∀ j, i2 ≤ j → j < i2 + k2 → mX5_mayGo mF mR kd ww wm (mX5_isLost_V1 mF mR wb j i1) = true → ¬ mX5_isLost_V1 mF mR wb j i1 = wm ∧ ¬ mX5_known tbl kd 0 ww wm (mX5_isLost_V1 mF mR wb j i1) < 0)
  | 0, i2, c, a => ⟨c, a, rfl, Nat.le_refl _, Nat.le_refl _, ⟨fun h => ⟨h, fun j h1 h2 => by omega⟩, fun h => h.1⟩, ⟨fun h => ⟨h, fun j h1 h2 => by omega⟩, fun h => h.1⟩⟩
  | k2 + 1, i2, c, a => by
    rw [mX5_isLost_L2]
    by_cases hg : mX5_mayGo mF mR kd ww wm (mX5_isLost_V1 mF mR wb i2 i1) = true
    · rw [if_neg (by rw [zI_b0]; exact fun q => q hg), show nI c + 1 = nI (c + 1) from nI_1 c]
      obtain ⟨c', a', e, h1, h2, h3, h4⟩ := r_lostL2 i1 k2 (i2 + 1) (c + 1) (mX5_isLost_V2 mF mR tbl kd ww wm wb i2 a i1)
      refine ⟨c', a', e, by omega, by omega, ⟨fun q => by omega, fun q => absurd hg (q.2 i2 (Nat.le_refl _) (by omega))⟩, ?_⟩
      rw [h4, r_lV2]
      constructor
      · rintro ⟨⟨q1, q2⟩, q3⟩
        refine ⟨q1, fun j h5 h6 h7 => ?_⟩
        rcases Nat.lt_or_ge i2 j with h8 | h8
        · exact q3 j (by omega) (by omega) h7
        · have : j = i2 := by omega
          subst this
          exact q2
      · rintro ⟨q1, q2⟩
        exact ⟨⟨q1, q2 i2 (Nat.le_refl _) (by omega) hg⟩, fun j h5 h6 => q2 j (by omega) (by omega)⟩
    · rw [if_pos (by rw [zI_b0]; exact hg)]
      obtain ⟨c', a', e, h1, h2, h3, h4⟩ := r_lostL2 i1 k2 (i2 + 1) c a
      refine ⟨c', a', e, by omega, by omega, ?_, ?_⟩
      · rw [h3]
        constructor
        · rintro ⟨q1, q2⟩
          refine ⟨q1, fun j h5 h6 => ?_⟩
          rcases Nat.lt_or_ge i2 j with h8 | h8
          · exact q2 j (by omega) (by omega)
          · have : j = i2 := by omega
            subst this
            exact hg
        · rintro ⟨q1, q2⟩
          exact ⟨q1, fun j h5 h6 => q2 j (by omega) (by omega)⟩
      · rw [h4]
        constructor
        · rintro ⟨q1, q2⟩
          refine ⟨q1, fun j h5 h6 h7 => ?_⟩
          rcases Nat.lt_or_ge i2 j with h8 | h8
          · exact q2 j (by omega) (by omega) h7
          · have : j = i2 := by omega
            subst this
            exact absurd h7 hg
        · rintro ⟨q1, q2⟩
          exact ⟨q1, fun j h5 h6 => q2 j (by omega) (by omega)⟩
theorem r_lostL1 : ∀ (k1 i1 c : Nat) (a : Bool), ∃ c' a', mX5_isLost_L1 mF mR tbl kd ww wm wb k1 i1 (nI c) a = (nI c', a') ∧ c ≤ c' ∧ c' ≤ c + 3 * k1 ∧ (c' = 0 ↔ c = 0 ∧ ∀ i, i1 ≤ i → i < i1 + k1 → ∀ j, j < 3 → ¬ mX5_mayGo mF mR kd ww wm (mX5_isLost_V1 mF mR wb j i) = true) ∧ (a' = true ↔ a = true ∧ ∀ i, i1 ≤ i → i < i1 + k1 → ∀ j, j < 3 → mX5_mayGo mF mR kd ww wm (mX5_isLost_V1 mF mR wb j i) = true → ¬ mX5_isLost_V1 mF mR wb j i = wm ∧ ¬ mX5_known tbl kd 0 ww wm (mX5_isLost_V1 mF mR wb j i) < 0)
  | 0, i1, c, a => ⟨c, a, rfl, Nat.le_refl _, Nat.le_refl _, ⟨fun h => ⟨h, fun j h1 h2 => by omega⟩, fun h => h.1⟩, ⟨fun h => ⟨h, fun j h1 h2 => by omega⟩, fun h => h.1⟩⟩
  | k1 + 1, i1, c, a => by
    rw [mX5_isLost_L1]
    obtain ⟨c1, a1, e1, g1, g2, g3, g4⟩ := r_lostL2 (mF := mF) (mR := mR) (tbl := tbl) (kd := kd) (ww := ww) (wm := wm) (wb := wb) i1 3 0 c a
    rw [e1]
    obtain ⟨c', a', e, h1, h2, h3, h4⟩ := r_lostL1 k1 (i1 + 1) c1 a1
    refine ⟨c', a', e, by omega, by omega, ?_, ?_⟩
    · rw [h3, g3]
      constructor
      · rintro ⟨⟨q1, q2⟩, q3⟩
        refine ⟨q1, fun i h5 h6 j h7 => ?_⟩
        rcases Nat.lt_or_ge i1 i with h8 | h8
        · exact q3 i (by omega) (by omega) j h7
        · have : i = i1 := by omega
          subst this
          exact q2 j (by omega) (by omega)
      · rintro ⟨q1, q2⟩
        exact ⟨⟨q1, fun j h5 h6 => q2 i1 (Nat.le_refl _) (by omega) j (by omega)⟩, fun i h5 h6 => q2 i (by omega) (by omega)⟩
    · rw [h4, g4]
      constructor
      · rintro ⟨⟨q1, q2⟩, q3⟩
        refine ⟨q1, fun i h5 h6 j h7 => ?_⟩
        rcases Nat.lt_or_ge i1 i with h8 | h8
        · exact q3 i (by omega) (by omega) j h7
        · have : i = i1 := by omega
          subst this
          exact q2 j (by omega) (by omega)
      · rintro ⟨q1, q2⟩
        exact ⟨⟨q1, fun j h5 h6 => q2 i1 (Nat.le_refl _) (by omega) j (by omega)⟩, fun i h5 h6 => q2 i (by omega) (by omega)⟩
end RLost
/-- black's position: mated, or lost as all its moves lead to what is known -/
theorem r_lost {F R k w m b : Nat} {tbl : Nat → Int64} {KW : cP} (mate : Bool) (hB : bd F R) (hk : k < 6) (hk1 : 1 ≤ k) (hv : vB F R k w m b) (hK : ∀ t, on F R t → (¬ mX5_known tbl (nI k) 0 (nI w) (nI m) (nI t) < 0 ↔ KW w m t)) : mX5_isLost (nI F) (nI R) tbl (nI k) (nI w) (nI m) (nI b) mate = true ↔ if mate = true then (¬ ∃ t, bgo F R k w m b t) ∧ att k m b w else (∃ t, bgo F R k w m b t) ∧ ∀ t, bgo F R k w m b t → t ≠ m ∧ KW w m t := by
  have hR : R ≤ 8 := by omega
  have hw := on64 hR hv.1
  have hm := on64 hR hv.2.1
  have hb := on64 hR hv.2.2.1
  obtain ⟨c, a, e, -, h2, h3, h4⟩ := r_lostL1 (mF := nI F) (mR := nI R) (tbl := tbl) (kd := nI k) (ww := nI w) (wm := nI m) (wb := nI b) 3 0 0 true
  have e' : mX5_isLost_L1 (nI F) (nI R) tbl (nI k) (nI w) (nI m) (nI b) 3 0 (0 : Int32) true = (nI c, a) := e
  have hgo : ∀ i, i < 3 → ∀ j, j < 3 → (mX5_mayGo (nI F) (nI R) (nI k) (nI w) (nI m) (mX5_isLost_V1 (nI F) (nI R) (nI b) j i) = true ↔ bgo F R k w m b (nb3 i j b)) := by
    intro i hi j hj
    rw [r_V1 hB hb i hi j hj, r_may hB hk hk1 hw hv.2.1]
    constructor
    · rintro ⟨q1, q2, q3, q4⟩
      exact ⟨(r_nb b hb _ (on64 hR q1)).mpr ⟨i, hi, j, hj, rfl⟩, q1, q2, q3, q4⟩
    · rintro ⟨q0, q1, q2, q3, q4⟩
      exact ⟨q1, q2, q3, q4⟩
  have hex : (∃ t, bgo F R k w m b t) ↔ ∃ i, i < 3 ∧ ∃ j, j < 3 ∧ bgo F R k w m b (nb3 i j b) := by
    constructor
    · rintro ⟨t, q⟩
      obtain ⟨i, hi, j, hj, e⟩ := (r_nb b hb t (on64 hR q.2.1)).mp q.1
      exact ⟨i, hi, j, hj, by rw [e]; exact q⟩
    · rintro ⟨i, hi, j, hj, q⟩
      exact ⟨_, q⟩
  have hc : c = 0 ↔ ¬ ∃ t, bgo F R k w m b t := by
    rw [h3, hex]
    constructor
    · rintro ⟨-, q⟩ ⟨i, hi, j, hj, z⟩
      exact q i (Nat.zero_le _) (by omega) j hj ((hgo i hi j hj).mpr z)
    · intro q
      exact ⟨rfl, fun i _ hi j hj z => q ⟨i, by omega, j, hj, (hgo i (by omega) j hj).mp z⟩⟩
  have ha : a = true ↔ ∀ t, bgo F R k w m b t → t ≠ m ∧ KW w m t := by
    rw [h4]
    constructor
    · rintro ⟨-, q⟩ t z
      obtain ⟨i, hi, j, hj, e⟩ := (r_nb b hb t (on64 hR z.2.1)).mp z.1
      subst e
      have q2 := q i (Nat.zero_le _) (by omega) j hj ((hgo i hi j hj).mpr z)
      rw [r_V1 hB hb i hi j hj, sqI_on z.2.1] at q2
      exact ⟨fun y => q2.1 (by rw [y]), (hK _ z.2.1).mp q2.2⟩
    · intro q
      refine ⟨rfl, fun i _ hi j hj z => ?_⟩
      have z2 := (hgo i (by omega) j hj).mp z
      have q2 := q _ z2
      rw [r_V1 hB hb i (by omega) j hj, sqI_on z2.2.1]
      exact ⟨fun y => q2.1 ((nI_eq64 (on64 hR z2.2.1) hm).mp y), (hK _ z2.2.1).mpr q2.2⟩
  have hcb : c < 64 := by omega
  unfold mX5_isLost
  rw [e']
  cases mate with
  | false =>
    rw [if_pos (show zI false = 0 by decide), if_neg (show ¬ false = true by decide)]
    show (if nI c ≤ 0 then false else if zI a = 0 then false else true) = true ↔ _
    by_cases h0 : c = 0
    · rw [if_pos (by rw [h0]; decide)]
      exact ⟨fun q => (by cases q), fun q => absurd q.1 (hc.mp h0)⟩
    · rw [if_neg (by rw [show (0 : Int32) = nI 0 from rfl, nI_leI (by omega) (by omega)]; omega)]
      by_cases h1 : a = true
      · rw [if_neg (by rw [zI_b0]; exact fun q => q h1)]
        exact ⟨fun _ => ⟨Classical.not_not.mp (fun q => h0 (hc.mpr q)), ha.mp h1⟩, fun _ => rfl⟩
      · rw [if_pos (by rw [zI_b0]; exact h1)]
        exact ⟨fun q => (by cases q), fun q => absurd (ha.mpr q.2) h1⟩
  | true =>
    rw [if_neg (show ¬ zI true = 0 by decide), if_pos (show true = true from rfl)]
    show (if nI c = 0 then if zI (mX5_attacks (nI F) (nI R) (nI k) (nI m) (nI b) (nI w)) = 0 then false else true else false) = true ↔ _
    by_cases h0 : c = 0
    · rw [if_pos (by rw [h0]; rfl)]
      by_cases h1 : att k m b w
      · rw [if_neg (by rw [zI_b0]; exact fun q => q ((r_att hB hk hv.2.1 hv.2.2.1 hw).mpr h1))]
        exact ⟨fun _ => ⟨hc.mp h0, h1⟩, fun _ => rfl⟩
      · rw [if_pos (by rw [zI_b0]; exact fun q => h1 ((r_att hB hk hv.2.1 hv.2.2.1 hw).mp q))]
        exact ⟨fun q => (by cases q), fun q => absurd q.2 h1⟩
    · rw [if_neg (by rw [show (0 : Int32) = nI 0 from rfl, nI_eq64 hcb (by omega)]; exact h0)]
      exact ⟨fun q => (by cases q), fun q => absurd (hc.mpr q.1) h0⟩
