/-! the reference's squares, steps and attacks in the central words -/
abbrev bd (F R : Nat) : Prop := 3 ≤ F ∧ F < 9 ∧ 3 ≤ R ∧ R < 9
def sqI (F R s : Nat) : Int32 := if on F R s then nI s else -1
theorem nI_nm1 : ∀ s, s < 64 → ¬ nI s = -1 := by decide +kernel
theorem nI_nneg64 {s : Nat} (h : s < 64) : ¬ nI s < 0 := nI_pos (by omega)
theorem nI_eq64 {a b : Nat} (ha : a < 64) (hb : b < 64) : nI a = nI b ↔ a = b := nI_eq (by omega) (by omega)
theorem sqI_on {F R s : Nat} (h : on F R s) : sqI F R s = nI s := if_pos h
theorem sqI_no {F R s : Nat} (h : ¬ on F R s) : sqI F R s = -1 := if_neg h
theorem sqI_eq {F R s t : Nat} (hR : R ≤ 8) (ht : t < 64) : sqI F R s = nI t ↔ on F R s ∧ s = t := by
  by_cases h : on F R s
  · rw [sqI_on h, nI_eq64 (on64 hR h) ht]
    exact ⟨fun e => ⟨h, e⟩, fun e => e.2⟩
  · rw [sqI_no h]
    exact ⟨fun e => absurd e.symm (nI_nm1 t ht), fun e => absurd e.1 h⟩
theorem sqI_neg {F R s : Nat} (hR : R ≤ 8) : sqI F R s < 0 ↔ ¬ on F R s := by
  by_cases h : on F R s
  · rw [sqI_on h]
    exact ⟨fun e => absurd e (nI_nneg64 (on64 hR h)), fun e => absurd h e⟩
  · rw [sqI_no h]
    exact ⟨fun _ => h, fun _ => by decide⟩
theorem sqI_m1 {F R s : Nat} (hR : R ≤ 8) : sqI F R s = -1 ↔ ¬ on F R s := by
  by_cases h : on F R s
  · rw [sqI_on h]
    exact ⟨fun e => absurd e (nI_nm1 s (on64 hR h)), fun e => absurd h e⟩
  · rw [sqI_no h]
    exact ⟨fun _ => h, fun _ => rfl⟩
theorem r_sq : ∀ F, F < 9 → ∀ R, R < 9 → ∀ s, s < 64 → (mX5_isSquare (nI F) (nI R) (nI s) = true ↔ on F R s) := by decide +kernel
theorem r_sqI {F R : Nat} {x : Int32} (h : mX5_isSquare (nI F) (nI R) x = true) : ∃ s, s < 64 ∧ x = nI s := by
  rcases pk_ix x (n := 64) (by decide) with h1 | h1 | h1
  · unfold mX5_isSquare at h; rw [if_pos h1] at h; cases h
  · unfold mX5_isSquare at h
    by_cases h2 : x < 0
    · rw [if_pos h2] at h; cases h
    · rw [if_neg h2, if_pos (show (64 : Int32) ≤ x from h1)] at h; cases h
  · exact h1
theorem r_step : ∀ F, F < 9 → ∀ R, R < 9 → ∀ d, d < 16 → ∀ s, s < 64 → mX5_step (nI F) (nI R) (nI s) (et_fs d) (et_rs d) = sqI F R (sp8 d s) := by decide +kernel
theorem r_nx : ∀ a, a < 64 → ∀ b, b < 64 → (mX5_isNext (nI a) (nI b) = true ↔ nx a b) := by decide +kernel
/-! attacks -/
def al8 (m t : Nat) : Bool :=
  if (nI t - nI t / 8 * 8) - (nI m - nI m / 8 * 8) = 0 then true
  else if nI t / 8 - nI m / 8 = 0 then true
  else if (nI t - nI t / 8 * 8) - (nI m - nI m / 8 * 8) = nI t / 8 - nI m / 8 then true
  else if (nI t - nI t / 8 * 8) - (nI m - nI m / 8 * 8) = -(nI t / 8 - nI m / 8) then true else false
theorem r_C1 (mF mR kd bar : Int32) (m t : Nat) : mX5_attacks_C1 mF mR kd (nI m) (nI t) bar = if al8 m t = true then mX5_attacks_C2 mF mR kd (nI m) (nI t) bar else false := by
  unfold mX5_attacks_C1 al8
  split
  · simp
  · split
    · simp
    · split
      · simp
      · split
        · simp
        · simp
theorem r_al : ∀ m, m < 64 → ∀ t, t < 64 → m ≠ t → al8 m t = true → ∃ d, d < 8 ∧ mX5_attacks_V3 (nI m) (nI t) = et_fs d ∧ mX5_attacks_V4 (nI m) (nI t) = et_rs d := by decide +kernel
def laB (m d j : Nat) : Bool := !(decide (wk8 d m (j + 1) < 64)) || (decide (m ≠ wk8 d m (j + 1)) && al8 m (wk8 d m (j + 1)) && decide (mX5_attacks_V3 (nI m) (nI (wk8 d m (j + 1))) = et_fs d) && decide (mX5_attacks_V4 (nI m) (nI (wk8 d m (j + 1))) = et_rs d))
theorem laB_t : ∀ m, m < 64 → ∀ d, d < 8 → ∀ j, j < 7 → laB m d j = true := by decide +kernel
theorem r_la (m : Nat) (hm : m < 64) (d : Nat) (hd : d < 8) (j : Nat) (hj : j < 7) (h : wk8 d m (j + 1) < 64) : m ≠ wk8 d m (j + 1) ∧ al8 m (wk8 d m (j + 1)) = true ∧ mX5_attacks_V3 (nI m) (nI (wk8 d m (j + 1))) = et_fs d ∧ mX5_attacks_V4 (nI m) (nI (wk8 d m (j + 1))) = et_rs d := by
  have := laB_t m hm d hd j hj
  unfold laB at this
  rw [decide_eq_true h] at this
  simp only [Bool.not_true, Bool.false_or, Bool.and_eq_true, decide_eq_true_eq] at this
  exact ⟨this.1.1.1, this.1.1.2, this.1.2, this.2⟩
theorem r_d1 : ∀ d, d < 8 → ∀ g, g < 8 → et_fs d = et_fs g → et_rs d = et_rs g → d = g := by decide +kernel
theorem r_go : ∀ k, k < 6 → 3 ≤ k → ∀ d, d < 8 → (mX5_goesAlong (nI k) (et_fs d) (et_rs d) = true ↔ d ∈ wys k) := by decide +kernel
theorem r_00 : ∀ m, m < 64 → ∀ t, t < 64 → ((nI t - nI t / 8 * 8) - (nI m - nI m / 8 * 8) = 0 ∧ nI t / 8 - nI m / 8 = 0 ↔ m = t) := by decide +kernel
theorem r_a1 : ∀ m, m < 64 → ∀ t, t < 64 → (mX5_attacks 0 0 1 (nI m) (nI t) 0 = true ↔ sp8 6 m = t ∨ sp8 7 m = t) := by decide +kernel
theorem r_a2 : ∀ m, m < 64 → ∀ t, t < 64 → (mX5_attacks 0 0 2 (nI m) (nI t) 0 = true ↔ ∃ d, d ∈ wys 2 ∧ sp8 d m = t) := by decide +kernel
theorem r_attL {F R m t w d : Nat} (hB : bd F R) (hd : d < 8) (hm : on F R m) (ht : on F R t) (hw : w < 64) (h3 : mX5_attacks_V3 (nI m) (nI t) = et_fs d) (h4 : mX5_attacks_V4 (nI m) (nI t) = et_rs d) : ∀ (fu j0 i : Nat), j0 + fu = 9 → (mX5_attacks_L1 (nI F) (nI R) (nI m) (nI t) (nI w) fu i (sqI F R (wk8 d m (j0 + 1))) = nI t ↔ ∃ j, j0 ≤ j ∧ wk8 d m (j + 1) = t ∧ ∀ i, j0 ≤ i → i < j → wk8 d m (i + 1) ≠ w)
  | 0, j0, i, h => by
    have hR : R ≤ 8 := by omega
    rw [mX5_attacks_L1, sqI_eq hR (on64 hR ht)]
    constructor
    · rintro ⟨-, e⟩
      exact ⟨j0, Nat.le_refl _, e, fun i h1 h2 => by omega⟩
    · rintro ⟨j, h1, e, -⟩
      have h2 := wk8_7 hd (on64 hR hm) (j := j) (by rw [e]; exact on64 hR ht)
      omega
  | fu + 1, j0, i, h => by
    have hR : R ≤ 8 := by omega
    have ht64 := on64 hR ht
    rw [mX5_attacks_L1]
    by_cases e1 : wk8 d m (j0 + 1) = t
    · have e2 : sqI F R (wk8 d m (j0 + 1)) = nI t := (sqI_eq hR ht64).mpr ⟨by rw [e1]; exact ht, e1⟩
      rw [if_pos e2]
      exact ⟨fun _ => ⟨j0, Nat.le_refl _, e1, fun i h1 h2 => by omega⟩, fun _ => e2⟩
    · rw [if_neg (fun q => e1 ((sqI_eq hR ht64).mp q).2)]
      by_cases e2 : sqI F R (wk8 d m (j0 + 1)) = nI w
      · rw [if_pos e2]
        constructor
        · intro q; exact absurd ((sqI_eq hR ht64).mp q).2 e1
        · rintro ⟨j, h1, e, hb⟩
          have hj : j0 < j := by
            rcases Nat.lt_or_ge j0 j with q | q
            · exact q
            · have : j = j0 := by omega
              subst this
              exact absurd e e1
          exact absurd ((sqI_eq hR hw).mp e2).2 (hb j0 (Nat.le_refl _) hj)
      · rw [if_neg e2]
        by_cases e3 : on F R (wk8 d m (j0 + 1))
        · have e4 := sqI_on e3
          have hs := on64 hR e3
          rw [if_neg (by rw [e4]; exact nI_nm1 _ hs), h3, h4, e4, r_step F hB.2.1 R hB.2.2.2 d (by omega) _ hs]
          refine Iff.trans (r_attL hB hd hm ht hw h3 h4 fu (j0 + 1) (i + 1) (by omega)) ?_
          constructor
          · rintro ⟨j, h1, e, hb⟩
            refine ⟨j, by omega, e, fun i h2 h3 => ?_⟩
            rcases Nat.lt_or_ge j0 i with q | q
            · exact hb i (by omega) h3
            · have : i = j0 := by omega
              subst this
              intro q2
              exact e2 (by rw [e4, q2])
          · rintro ⟨j, h1, e, hb⟩
            have hj : j ≠ j0 := by
              intro q
              subst q
              exact e1 e
            exact ⟨j, by omega, e, fun i h2 h3 => hb i (by omega) h3⟩
        · rw [if_pos (sqI_no e3)]
          constructor
          · intro q; exact absurd ((sqI_eq hR ht64).mp q).2 e1
          · rintro ⟨j, h1, e, hb⟩
            exact absurd (wk8_onL hR hd hm (j := j) (by rw [e]; exact ht) j0 h1) e3
theorem zI_b0 {b : Bool} : zI b = 0 ↔ ¬ b = true := by rw [zI_eq0]; simp
theorem r_C2 {F R k m t w d : Nat} (hB : bd F R) (hk : k < 6) (hk3 : 3 ≤ k) (hd : d < 8) (hm : on F R m) (ht : on F R t) (hw : w < 64) (h3 : mX5_attacks_V3 (nI m) (nI t) = et_fs d) (h4 : mX5_attacks_V4 (nI m) (nI t) = et_rs d) : mX5_attacks_C2 (nI F) (nI R) (nI k) (nI m) (nI t) (nI w) = true ↔ d ∈ wys k ∧ ∃ j, wk8 d m (j + 1) = t ∧ ∀ i, i < j → wk8 d m (i + 1) ≠ w := by
  have hR : R ≤ 8 := by omega
  have hs := r_step F hB.2.1 R hB.2.2.2 d (by omega) m (on64 hR hm)
  have hl := r_attL hB hd hm ht hw h3 h4 9 0 0 rfl
  have e0 : sqI F R (sp8 d m) = sqI F R (wk8 d m (0 + 1)) := rfl
  unfold mX5_attacks_C2
  rw [h3, h4, hs, e0]
  by_cases hg : d ∈ wys k
  · rw [if_neg (by rw [zI_b0]; exact fun q => q ((r_go k hk hk3 d hd).mpr hg))]
    by_cases hq : mX5_attacks_L1 (nI F) (nI R) (nI m) (nI t) (nI w) 9 0 (sqI F R (wk8 d m (0 + 1))) = nI t
    · rw [if_pos hq]
      obtain ⟨j, -, e, hb⟩ := hl.mp hq
      exact ⟨fun _ => ⟨hg, j, e, fun i hi => hb i (Nat.zero_le _) hi⟩, fun _ => rfl⟩
    · rw [if_neg hq]
      refine ⟨fun q => (by cases q), fun ⟨_, j, e, hb⟩ => absurd (hl.mpr ⟨j, Nat.zero_le _, e, fun i _ hi => hb i hi⟩) hq⟩
  · rw [if_pos (by rw [zI_b0]; exact fun q => hg ((r_go k hk hk3 d hd).mp q))]
    exact ⟨fun q => (by cases q), fun q => absurd q.1 hg⟩
theorem r_att {F R k m t w : Nat} (hB : bd F R) (hk : k < 6) (hm : on F R m) (ht : on F R t) (hw : w < 64) : mX5_attacks (nI F) (nI R) (nI k) (nI m) (nI t) (nI w) = true ↔ att k m t w := by
  have hR : R ≤ 8 := by omega
  have hm64 := on64 hR hm
  have ht64 := on64 hR ht
  rcases (show k = 0 ∨ k = 1 ∨ k = 2 ∨ 3 ≤ k by omega) with rfl | rfl | rfl | hk3
  · constructor
    · intro h
      unfold mX5_attacks at h
      rw [if_neg (by decide), if_neg (by decide), if_pos (show nI 0 = 0 from rfl)] at h
      split at h
      · split at h <;> cases h
      · cases h
    · rintro ⟨d, hd, -⟩
      cases hd
  · have e : mX5_attacks (nI F) (nI R) (nI 1) (nI m) (nI t) (nI w) = mX5_attacks 0 0 1 (nI m) (nI t) 0 := by
      unfold mX5_attacks
      rw [if_pos (show nI 1 = 1 from rfl), if_pos rfl]
    rw [e, r_a1 m hm64 t ht64]
    constructor
    · rintro (h | h)
      · exact ⟨6, by decide, 0, by decide, h, fun i hi => by omega⟩
      · exact ⟨7, by decide, 0, by decide, h, fun i hi => by omega⟩
    · rintro ⟨d, hd, j, hj, e, -⟩
      have hj0 : j = 0 := by have : j < 1 := hj; omega
      subst hj0
      rcases List.mem_cons.mp hd with rfl | hd
      · exact Or.inl e
      · rw [List.mem_singleton.mp hd] at e
        exact Or.inr e
  · have e : mX5_attacks (nI F) (nI R) (nI 2) (nI m) (nI t) (nI w) = mX5_attacks 0 0 2 (nI m) (nI t) 0 := by
      unfold mX5_attacks
      rw [if_neg (show ¬ nI 2 = 1 by decide), if_pos (show nI 2 = 2 from rfl), if_neg (show ¬ (2 : Int32) = 1 by decide), if_pos (show (2 : Int32) = 2 from rfl)]
    rw [e, r_a2 m hm64 t ht64]
    constructor
    · rintro ⟨d, hd, h⟩
      exact ⟨d, hd, 0, by decide, h, fun i hi => by omega⟩
    · rintro ⟨d, hd, j, hj, e, -⟩
      have hj0 : j = 0 := by have : j < 1 := hj; omega
      subst hj0
      exact ⟨d, hd, e⟩
  · have h1 : ¬ nI k = 1 := by rw [show (1 : Int32) = nI 1 from rfl, nI_eq64 (by omega) (by omega)]; omega
    have h2 : ¬ nI k = 2 := by rw [show (2 : Int32) = nI 2 from rfl, nI_eq64 (by omega) (by omega)]; omega
    have h0 : ¬ nI k = 0 := by rw [show (0 : Int32) = nI 0 from rfl, nI_eq64 (by omega) (by omega)]; omega
    have hr7 : rch k = 7 := by
      rcases (show k = 3 ∨ k = 4 ∨ k = 5 by omega) with rfl | rfl | rfl <;> rfl
    have hk2 : k ≠ 2 := by omega
    by_cases hmt : m = t
    · have h00 := (r_00 m hm64 t ht64).mpr hmt
      have e : mX5_attacks (nI F) (nI R) (nI k) (nI m) (nI t) (nI w) = false := by
        unfold mX5_attacks
        rw [if_neg h1, if_neg h2, if_pos h00.1, if_pos h00.2]
      rw [e]
      constructor
      · intro q; cases q
      · rintro ⟨d, hd, j, hj, e, -⟩
        have h4 := (r_la m hm64 d (wys_8 k hk hk2 d hd) j (by omega) (by rw [e]; exact ht64)).1
        rw [e] at h4
        exact absurd hmt h4
    · have e : mX5_attacks (nI F) (nI R) (nI k) (nI m) (nI t) (nI w) = mX5_attacks_C1 (nI F) (nI R) (nI k) (nI m) (nI t) (nI w) := by
        unfold mX5_attacks
        rw [if_neg h1, if_neg h2]
        by_cases e1 : (nI t - nI t / 8 * 8) - (nI m - nI m / 8 * 8) = 0
        · by_cases e2 : nI t / 8 - nI m / 8 = 0
          · exact absurd ((r_00 m hm64 t ht64).mp ⟨e1, e2⟩) hmt
          · rw [if_pos e1, if_neg e2, if_neg h0]
        · rw [if_neg e1, if_neg h0]
      rw [e, r_C1]
      by_cases ha : al8 m t = true
      · rw [if_pos ha]
        obtain ⟨d, hd, h3, h4⟩ := r_al m hm64 t ht64 hmt ha
        rw [r_C2 hB hk hk3 hd hm ht hw h3 h4]
        constructor
        · rintro ⟨hg, j, e, hb⟩
          exact ⟨d, hg, j, by rw [hr7]; exact wk8_7 hd hm64 (by rw [e]; exact ht64), e, hb⟩
        · rintro ⟨g, hg, j, hj, e, hb⟩
          have hg8 := wys_8 k hk hk2 g hg
          have h5 := r_la m hm64 g hg8 j (by omega) (by rw [e]; exact ht64)
          rw [e, h3, h4] at h5
          have : d = g := r_d1 d hd g hg8 h5.2.2.1 h5.2.2.2
          subst this
          exact ⟨hg, j, e, hb⟩
      · rw [if_neg ha]
        constructor
        · intro q; cases q
        · rintro ⟨g, hg, j, hj, e, hb⟩
          have h5 := r_la m hm64 g (wys_8 k hk hk2 g hg) j (by omega) (by rw [e]; exact ht64)
          rw [e] at h5
          exact absurd h5.2.1 ha
