/-! the reference's moves of white in the central words -/
theorem orL {L : Nat → Nat → Bool → Bool} {V : Nat → Bool → Bool} {hit : Nat → Prop} {N : Nat} (h0 : ∀ i s, L 0 i s = s) (h1 : ∀ k i s, L (k + 1) i s = L k (i + 1) (V i s)) (hV : ∀ i, i < N → ∀ s, (V i s = true ↔ s = true ∨ hit i)) : ∀ k i s, i + k ≤ N → (L k i s = true ↔ s = true ∨ ∃ j, i ≤ j ∧ j < i + k ∧ hit j)
  | 0, i, s, _ => by
    rw [h0]
    exact ⟨Or.inl, fun q => q.elim id (fun ⟨j, q1, q2, _⟩ => by omega)⟩
  | k + 1, i, s, hN => by
    rw [h1, orL h0 h1 hV k (i + 1) _ (by omega), hV i (by omega)]
    constructor
    · rintro ((q | q) | ⟨j, q1, q2, q3⟩)
      · exact Or.inl q
      · exact Or.inr ⟨i, Nat.le_refl _, by omega, q⟩
      · exact Or.inr ⟨j, by omega, by omega, q3⟩
    · rintro (q | ⟨j, q1, q2, q3⟩)
      · exact Or.inl (Or.inl q)
      · rcases Nat.lt_or_ge i j with h | h
        · exact Or.inr ⟨j, by omega, by omega, q3⟩
        · have : j = i := by omega
          subst this
          exact Or.inl (Or.inr q3)
theorem r_kV2 {mF mR : Int32} {tbl : Nat → Int64} {kd ww wm wb dd : Int32} (i2 : Nat) (a : Bool) (i1 : Nat) : mX5_kingReaches_V2 mF mR tbl kd ww wm wb dd i2 a i1 = true ↔ a = true ∨ (¬ mX5_isLost_V1 mF mR ww i2 i1 < 0 ∧ ¬ mX5_isLost_V1 mF mR ww i2 i1 = wm ∧ ¬ mX5_isLost_V1 mF mR ww i2 i1 = wb ∧ ¬ mX5_isNext (mX5_isLost_V1 mF mR ww i2 i1) wb = true ∧ mX5_reaches tbl kd (mX5_isLost_V1 mF mR ww i2 i1) wm wb dd = true) := by
  have e : mX5_kingReaches_V1 mF mR ww i2 i1 = mX5_isLost_V1 mF mR ww i2 i1 := rfl
  unfold mX5_kingReaches_V2
  rw [e]
  cases a with
  | true => rw [if_neg (by decide)]; simp
  | false =>
    rw [if_pos (by decide)]
    by_cases h1 : mX5_isLost_V1 mF mR ww i2 i1 < 0
    · rw [if_pos h1]
      exact ⟨fun q => (by cases q), fun q => q.elim (fun z => by cases z) (fun z => absurd h1 z.1)⟩
    · rw [if_neg h1]
      by_cases h2 : mX5_isLost_V1 mF mR ww i2 i1 = wm
      · rw [if_pos h2]
        exact ⟨fun q => (by cases q), fun q => q.elim (fun z => by cases z) (fun z => absurd h2 z.2.1)⟩
      · rw [if_neg h2]
        by_cases h3 : mX5_isLost_V1 mF mR ww i2 i1 = wb
        · rw [if_pos h3]
          exact ⟨fun q => (by cases q), fun q => q.elim (fun z => by cases z) (fun z => absurd h3 z.2.2.1)⟩
        · rw [if_neg h3]
          by_cases h4 : mX5_isNext (mX5_isLost_V1 mF mR ww i2 i1) wb = true
          · rw [if_neg (by rw [zI_b0]; exact fun q => q h4)]
            exact ⟨fun q => (by cases q), fun q => q.elim (fun z => by cases z) (fun z => absurd h4 z.2.2.2.1)⟩
          · rw [if_pos (by rw [zI_b0]; exact h4)]
            by_cases h5 : mX5_reaches tbl kd (mX5_isLost_V1 mF mR ww i2 i1) wm wb dd = true
            · rw [if_neg (by rw [zI_b0]; exact fun q => q h5)]
              exact ⟨fun _ => Or.inr ⟨h1, h2, h3, h4, h5⟩, fun _ => rfl⟩
            · rw [if_pos (by rw [zI_b0]; exact h5)]
              exact ⟨fun q => (by cases q), fun q => q.elim (fun z => by cases z) (fun z => absurd z.2.2.2.2 h5)⟩
theorem r_kL {mF mR : Int32} {tbl : Nat → Int64} {kd ww wm wb dd : Int32} : mX5_kingReaches mF mR tbl kd ww wm wb dd = true ↔ ∃ i, i < 3 ∧ ∃ j, j < 3 ∧ (¬ mX5_isLost_V1 mF mR ww j i < 0 ∧ ¬ mX5_isLost_V1 mF mR ww j i = wm ∧ ¬ mX5_isLost_V1 mF mR ww j i = wb ∧ ¬ mX5_isNext (mX5_isLost_V1 mF mR ww j i) wb = true ∧ mX5_reaches tbl kd (mX5_isLost_V1 mF mR ww j i) wm wb dd = true) := by
  have h2 : ∀ i1 s, mX5_kingReaches_L2 mF mR tbl kd ww wm wb dd i1 3 0 s = true ↔ s = true ∨ ∃ j, 0 ≤ j ∧ j < 0 + 3 ∧ (¬ mX5_isLost_V1 mF mR ww j i1 < 0 ∧ ¬ mX5_isLost_V1 mF mR ww j i1 = wm ∧ ¬ mX5_isLost_V1 mF mR ww j i1 = wb ∧ ¬ mX5_isNext (mX5_isLost_V1 mF mR ww j i1) wb = true ∧ mX5_reaches tbl kd (mX5_isLost_V1 mF mR ww j i1) wm wb dd = true) := fun i1 s =>
    orL (N := 3) (fun _ _ => by rw [mX5_kingReaches_L2]) (fun _ _ _ => by rw [mX5_kingReaches_L2]) (fun i _ s => r_kV2 i s i1) 3 0 s (by omega)
  unfold mX5_kingReaches
  rw [orL (N := 3) (L := mX5_kingReaches_L1 mF mR tbl kd ww wm wb dd) (fun _ _ => by rw [mX5_kingReaches_L1]) (fun _ _ _ => by rw [mX5_kingReaches_L1]) (fun i _ s => h2 i s) 3 0 false (by omega)]
  constructor
  · rintro (q | ⟨i, -, hi, j, -, hj, q⟩)
    · cases q
    · exact ⟨i, by omega, j, by omega, q⟩
  · rintro ⟨i, hi, j, hj, q⟩
    exact Or.inr ⟨i, Nat.zero_le _, by omega, j, Nat.zero_le _, by omega, q⟩
theorem r_king {F R k w m b : Nat} {tbl : Nat → Int64} {dd : Int32} {B : cP} (hB : bd F R) (hv : vW F R k w m b) (hBv : ∀ v, B v m b → vB F R k v m b) (hr : ∀ v, on F R v → (mX5_reaches tbl (nI k) (nI v) (nI m) (nI b) dd = true ↔ B v m b)) : mX5_kingReaches (nI F) (nI R) tbl (nI k) (nI w) (nI m) (nI b) dd = true ↔ ∃ v, nx w v ∧ B v m b := by
  have hR : R ≤ 8 := by omega
  have hw := on64 hR hv.1.1
  have hm := on64 hR hv.1.2.1
  have hb := on64 hR hv.1.2.2.1
  rw [r_kL]
  constructor
  · rintro ⟨i, hi, j, hj, q1, q2, q3, q4, q5⟩
    rw [r_V1 hB hw i hi j hj] at q1 q2 q3 q4 q5
    have ho : on F R (nb3 i j w) := Classical.not_not.mp (fun z => q1 ((sqI_neg hR).mpr z))
    rw [sqI_on ho] at q5
    exact ⟨_, (r_nb w hw _ (on64 hR ho)).mpr ⟨i, hi, j, hj, rfl⟩, (hr _ ho).mp q5⟩
  · rintro ⟨v, h1, h2⟩
    have hbv := hBv v h2
    have hv64 := on64 hR hbv.1
    obtain ⟨i, hi, j, hj, e⟩ := (r_nb w hw v hv64).mp h1
    refine ⟨i, hi, j, hj, ?_⟩
    rw [r_V1 hB hw i hi j hj, e, sqI_on hbv.1]
    exact ⟨nI_nneg64 hv64, fun z => hbv.2.2.2.1 ((nI_eq64 hv64 hm).mp z), fun z => hbv.2.2.2.2.1 ((nI_eq64 hv64 hb).mp z), fun z => hbv.2.2.2.2.2.2.1 ((r_nx v hv64 b hb).mp z), (hr v hbv.1).mpr h2⟩
/-! the man -/
def d5 (i1 i2 : Nat) : Nat := ([16, 10, 16, 12, 16, 8, 4, 1, 6, 14, 16, 0, 16, 3, 16, 9, 5, 2, 7, 15, 16, 11, 16, 13, 16] : List Nat).getD (5 * i1 + i2) 16
theorem r_d5 : ∀ i1, i1 < 5 → ∀ i2, i2 < 5 → d5 i1 i2 < 16 → nI i1 - 2 = et_fs (d5 i1 i2) ∧ nI i2 - 2 = et_rs (d5 i1 i2) := by decide +kernel
theorem r_d5j0 : ∀ k, k < 4 → ∀ i1, i1 < 5 → ∀ i2, i2 < 5 → (mX5_manReaches_V1 (nI (k + 2)) i2 i1 = true ↔ k + 2 = 2 ∧ d5 i1 i2 ∈ wys (k + 2)) := by decide +kernel
theorem r_d5j (k : Nat) (hk : k < 6) (hk2 : 2 ≤ k) (i1 : Nat) (h1 : i1 < 5) (i2 : Nat) (h2 : i2 < 5) : mX5_manReaches_V1 (nI k) i2 i1 = true ↔ k = 2 ∧ d5 i1 i2 ∈ wys k := by
  obtain ⟨k', rfl⟩ : ∃ k', k = k' + 2 := ⟨k - 2, by omega⟩
  exact r_d5j0 k' (by omega) i1 h1 i2 h2
theorem r_d5s0 : ∀ k, k < 4 → ∀ i1, i1 < 5 → ∀ i2, i2 < 5 → (mX5_manReaches_V2 (nI (k + 2)) i2 i1 = true ↔ k + 2 ≠ 2 ∧ d5 i1 i2 ∈ wys (k + 2)) := by decide +kernel
theorem r_d5s (k : Nat) (hk : k < 6) (hk2 : 2 ≤ k) (i1 : Nat) (h1 : i1 < 5) (i2 : Nat) (h2 : i2 < 5) : mX5_manReaches_V2 (nI k) i2 i1 = true ↔ k ≠ 2 ∧ d5 i1 i2 ∈ wys k := by
  obtain ⟨k', rfl⟩ : ∃ k', k = k' + 2 := ⟨k - 2, by omega⟩
  exact r_d5s0 k' (by omega) i1 h1 i2 h2
theorem r_d5x : ∀ d, d < 16 → ∃ i1, i1 < 5 ∧ ∃ i2, i2 < 5 ∧ d5 i1 i2 = d := by decide +kernel
theorem r_V4 {tbl : Nat → Int64} {kd ww wb dd sq : Int32} (a : Bool) : mX5_manReaches_V4 tbl kd ww wb dd a sq = true ↔ a = true ∨ mX5_reaches tbl kd ww sq wb dd = true := by
  unfold mX5_manReaches_V4
  cases a with
  | true => rw [if_neg (by decide)]; simp
  | false =>
    rw [if_pos (by decide)]
    by_cases h : mX5_reaches tbl kd ww sq wb dd = true
    · rw [if_neg (by rw [zI_b0]; exact fun q => q h)]
      exact ⟨fun _ => Or.inr h, fun _ => rfl⟩
    · rw [if_pos (by rw [zI_b0]; exact h)]
      exact ⟨fun q => (by cases q), fun q => q.elim (fun z => by cases z) (fun z => absurd z h)⟩
theorem r_L3s {F R w m b d i1 i2 : Nat} {tbl : Nat → Int64} {kd dd : Int32} (hB : bd F R) (hd : d < 8) (hm : on F R m) (hw : w < 64) (hb : b < 64) (hs : mX5_manReaches_V2 kd i2 i1 = true) (hf : nI i1 - 2 = et_fs d) (hr : nI i2 - 2 = et_rs d) : ∀ (fu j0 i : Nat) (a : Bool), j0 + fu = 9 → ((mX5_manReaches_L3 (nI F) (nI R) tbl kd (nI w) (nI b) dd i2 i1 fu i a (sqI F R (wk8 d m (j0 + 1)))).1 = true ↔ a = true ∨ ∃ j, j0 ≤ j ∧ (∀ i, j0 ≤ i → i ≤ j → on F R (wk8 d m (i + 1)) ∧ wk8 d m (i + 1) ≠ w ∧ wk8 d m (i + 1) ≠ b) ∧ mX5_reaches tbl kd (nI w) (nI (wk8 d m (j + 1))) (nI b) dd = true)
  | 0, j0, i, a, h => by
    have hR : R ≤ 8 := by omega
    rw [mX5_manReaches_L3]
    constructor
    · exact Or.inl
    · rintro (q | ⟨j, h1, h2, -⟩)
      · exact q
      · have := wk8_7 hd (on64 hR hm) (on64 hR (h2 j h1 (Nat.le_refl _)).1)
        omega
  | fu + 1, j0, i, a, h => by
    have hR : R ≤ 8 := by omega
    rw [mX5_manReaches_L3]
    by_cases ho : on F R (wk8 d m (j0 + 1))
    · have hs64 := on64 hR ho
      rw [sqI_on ho, if_neg (nI_nneg64 hs64)]
      by_cases e1 : wk8 d m (j0 + 1) = w
      · rw [if_pos (by rw [e1])]
        constructor
        · exact Or.inl
        · rintro (q | ⟨j, h1, h2, -⟩)
          · exact q
          · exact absurd e1 (h2 j0 (Nat.le_refl _) h1).2.1
      · rw [if_neg (fun q => e1 ((nI_eq64 hs64 hw).mp q))]
        by_cases e2 : wk8 d m (j0 + 1) = b
        · rw [if_pos (by rw [e2])]
          constructor
          · exact Or.inl
          · rintro (q | ⟨j, h1, h2, -⟩)
            · exact q
            · exact absurd e2 (h2 j0 (Nat.le_refl _) h1).2.2
        · rw [if_neg (fun q => e2 ((nI_eq64 hs64 hb).mp q))]
          have e3 : mX5_manReaches_V5 (nI F) (nI R) kd (nI (wk8 d m (j0 + 1))) i2 i1 = sqI F R (wk8 d m (j0 + 1 + 1)) := by
            unfold mX5_manReaches_V5
            rw [if_neg (by rw [zI_b0]; exact fun q => q hs), hf, hr, r_step F hB.2.1 R hB.2.2.2 d (by omega) _ hs64]
            rfl
          rw [e3, r_L3s hB hd hm hw hb hs hf hr fu (j0 + 1) (i + 1) _ (by omega), r_V4]
          constructor
          · rintro ((q | q) | ⟨j, h1, h2, h3⟩)
            · exact Or.inl q
            · refine Or.inr ⟨j0, Nat.le_refl _, fun i h4 h5 => ?_, q⟩
              have : i = j0 := by omega
              subst this
              exact ⟨ho, e1, e2⟩
            · refine Or.inr ⟨j, by omega, fun i h4 h5 => ?_, h3⟩
              rcases Nat.lt_or_ge j0 i with h6 | h6
              · exact h2 i (by omega) h5
              · have : i = j0 := by omega
                subst this
                exact ⟨ho, e1, e2⟩
          · rintro (q | ⟨j, h1, h2, h3⟩)
            · exact Or.inl (Or.inl q)
            · rcases Nat.lt_or_ge j0 j with h6 | h6
              · exact Or.inr ⟨j, by omega, fun i h4 h5 => h2 i (by omega) h5, h3⟩
              · have : j = j0 := by omega
                subst this
                exact Or.inl (Or.inr h3)
    · rw [if_pos ((sqI_neg hR).mpr ho)]
      constructor
      · exact Or.inl
      · rintro (q | ⟨j, h1, h2, -⟩)
        · exact q
        · exact absurd (h2 j0 (Nat.le_refl _) h1).1 ho
/-- what one way gives -/
def mhit (F R k w m b d : Nat) (tbl : Nat → Int64) (dd : Int32) : Prop := d ∈ wys k ∧ ∃ j, j < rch k ∧ (∀ i, i ≤ j → on F R (wk8 d m (i + 1)) ∧ wk8 d m (i + 1) ≠ w ∧ wk8 d m (i + 1) ≠ b) ∧ mX5_reaches tbl (nI k) (nI w) (nI (wk8 d m (j + 1))) (nI b) dd = true
theorem r_mV {F R k w m b : Nat} {tbl : Nat → Int64} {dd : Int32} (hB : bd F R) (hk : k < 6) (hk2 : 2 ≤ k) (hm : on F R m) (hw : w < 64) (hb : b < 64) : ∀ i1, i1 < 5 → ∀ i2, i2 < 5 → ∀ a : Bool, ((mX5_manReaches_L3 (nI F) (nI R) tbl (nI k) (nI w) (nI b) dd i2 i1 9 0 a (mX5_manReaches_V3 (nI F) (nI R) (nI k) (nI m) i2 i1)).1 = true ↔ a = true ∨ mhit F R k w m b (d5 i1 i2) tbl dd) := by
  intro i1 h1 i2 h2 a
  have hR : R ≤ 8 := by omega
  have hj := r_d5j k hk hk2 i1 h1 i2 h2
  have hs := r_d5s k hk hk2 i1 h1 i2 h2
  by_cases hd : d5 i1 i2 ∈ wys k
  · have hd16 := wys_16 k hk _ hd
    obtain ⟨hf, hr⟩ := r_d5 i1 h1 i2 h2 hd16
    have hst := r_step F hB.2.1 R hB.2.2.2 _ hd16 m (on64 hR hm)
    have e3 : mX5_manReaches_V3 (nI F) (nI R) (nI k) (nI m) i2 i1 = sqI F R (wk8 (d5 i1 i2) m (0 + 1)) := by
      unfold mX5_manReaches_V3
      rw [hf, hr, hst]
      by_cases hk2 : k = 2
      · rw [if_neg (by rw [zI_b0]; exact fun q => q (hj.mpr ⟨hk2, hd⟩))]; rfl
      · rw [if_pos (by rw [zI_b0]; exact fun q => hk2 (hj.mp q).1), if_neg (by rw [zI_b0]; exact fun q => q (hs.mpr ⟨hk2, hd⟩))]; rfl
    rw [e3]
    by_cases hk3 : k = 2
    · -- a knight: one step
      have hsn : ¬ mX5_manReaches_V2 (nI k) i2 i1 = true := fun q => (hs.mp q).1 hk3
      have hr1 : rch k = 1 := by rw [hk3]; rfl
      have hmh : mhit F R k w m b (d5 i1 i2) tbl dd ↔ (on F R (wk8 (d5 i1 i2) m (0 + 1)) ∧ wk8 (d5 i1 i2) m (0 + 1) ≠ w ∧ wk8 (d5 i1 i2) m (0 + 1) ≠ b) ∧ mX5_reaches tbl (nI k) (nI w) (nI (wk8 (d5 i1 i2) m (0 + 1))) (nI b) dd = true := by
        unfold mhit
        rw [hr1]
        constructor
        · rintro ⟨-, j, q1, q2, q3⟩
          have : j = 0 := by omega
          subst this
          exact ⟨q2 0 (Nat.le_refl _), q3⟩
        · rintro ⟨q1, q2⟩
          exact ⟨hd, 0, by omega, fun i hi => by
            have : i = 0 := by omega
            subst this
            exact q1, q2⟩
      rw [hmh, mX5_manReaches_L3]
      by_cases ho : on F R (wk8 (d5 i1 i2) m (0 + 1))
      · have hs64 := on64 hR ho
        rw [sqI_on ho, if_neg (nI_nneg64 hs64)]
        by_cases q1 : wk8 (d5 i1 i2) m (0 + 1) = w
        · rw [if_pos (by rw [q1])]
          exact ⟨Or.inl, fun q => q.elim id (fun z => absurd q1 z.1.2.1)⟩
        · rw [if_neg (fun q => q1 ((nI_eq64 hs64 hw).mp q))]
          by_cases q2 : wk8 (d5 i1 i2) m (0 + 1) = b
          · rw [if_pos (by rw [q2])]
            exact ⟨Or.inl, fun q => q.elim id (fun z => absurd q2 z.1.2.2)⟩
          · rw [if_neg (fun q => q2 ((nI_eq64 hs64 hb).mp q))]
            have e5 : mX5_manReaches_V5 (nI F) (nI R) (nI k) (nI (wk8 (d5 i1 i2) m (0 + 1))) i2 i1 = -1 := by
              unfold mX5_manReaches_V5
              rw [if_pos (by rw [zI_b0]; exact hsn)]
            rw [e5, mX5_manReaches_L3, if_pos (by decide), r_V4]
            exact ⟨fun q => q.elim Or.inl (fun z => Or.inr ⟨⟨ho, q1, q2⟩, z⟩), fun q => q.elim Or.inl (fun z => Or.inr z.2)⟩
      · rw [if_pos ((sqI_neg hR).mpr ho)]
        exact ⟨Or.inl, fun q => q.elim id (fun z => absurd z.1.1 ho)⟩
    · have hd8 := wys_8 k hk hk3 _ hd
      rw [r_L3s hB hd8 hm hw hb (hs.mpr ⟨hk3, hd⟩) hf hr 9 0 0 a rfl]
      have hr7 : rch k = 7 := by
        rcases (show k = 3 ∨ k = 4 ∨ k = 5 by omega) with rfl | rfl | rfl <;> rfl
      constructor
      · rintro (q | ⟨j, -, q1, q2⟩)
        · exact Or.inl q
        · exact Or.inr ⟨hd, j, by rw [hr7]; exact wk8_7 hd8 (on64 hR hm) (on64 hR (q1 j (Nat.zero_le _) (Nat.le_refl _)).1), fun i hi => q1 i (Nat.zero_le _) hi, q2⟩
      · rintro (q | ⟨-, j, -, q1, q2⟩)
        · exact Or.inl q
        · exact Or.inr ⟨j, Nat.zero_le _, fun i _ hi => q1 i hi, q2⟩
  · have e3 : mX5_manReaches_V3 (nI F) (nI R) (nI k) (nI m) i2 i1 = -1 := by
      unfold mX5_manReaches_V3
      rw [if_pos (by rw [zI_b0]; exact fun q => hd (hj.mp q).2), if_pos (by rw [zI_b0]; exact fun q => hd (hs.mp q).2)]
    rw [e3, mX5_manReaches_L3, if_pos (by decide)]
    exact ⟨Or.inl, fun q => q.elim id (fun z => absurd z.1 hd)⟩
theorem r_mL {F R k w m b : Nat} {tbl : Nat → Int64} {dd : Int32} (hB : bd F R) (hk : k < 6) (hk2 : 2 ≤ k) (hm : on F R m) (hw : w < 64) (hb : b < 64) : mX5_manReaches (nI F) (nI R) tbl (nI k) (nI w) (nI m) (nI b) dd = true ↔ ∃ d, mhit F R k w m b d tbl dd := by
  have h2 : ∀ i1, i1 < 5 → ∀ s, (mX5_manReaches_L2 (nI F) (nI R) tbl (nI k) (nI w) (nI m) (nI b) dd i1 5 0 s = true ↔ s = true ∨ ∃ j, 0 ≤ j ∧ j < 0 + 5 ∧ mhit F R k w m b (d5 i1 j) tbl dd) := fun i1 h1 s =>
    orL (N := 5) (L := mX5_manReaches_L2 (nI F) (nI R) tbl (nI k) (nI w) (nI m) (nI b) dd i1) (V := fun i2 s => (mX5_manReaches_L3 (nI F) (nI R) tbl (nI k) (nI w) (nI b) dd i2 i1 9 0 s (mX5_manReaches_V3 (nI F) (nI R) (nI k) (nI m) i2 i1)).1) (fun _ _ => by rw [mX5_manReaches_L2]) (fun _ _ _ => by rw [mX5_manReaches_L2]) (fun i hi s => r_mV hB hk hk2 hm hw hb i1 h1 i hi s) 5 0 s (by omega)
  unfold mX5_manReaches
  rw [if_neg (by rw [show (1 : Int32) = nI 1 from rfl, nI_eq64 (by omega) (by omega)]; omega)]
  rw [orL (N := 5) (L := mX5_manReaches_L1 (nI F) (nI R) tbl (nI k) (nI w) (nI m) (nI b) dd) (fun _ _ => by rw [mX5_manReaches_L1]) (fun _ _ _ => by rw [mX5_manReaches_L1]) (fun i hi s => h2 i hi s) 5 0 false (by omega)]
  constructor
  · rintro (q | ⟨i, -, hi, j, -, hj, q⟩)
    · cases q
    · exact ⟨_, q⟩
  · rintro ⟨d, q⟩
    obtain ⟨i, hi, j, hj, e⟩ := r_d5x d (wys_16 k hk d q.1)
    exact Or.inr ⟨i, Nat.zero_le _, by omega, j, Nat.zero_le _, by omega, by rw [e]; exact q⟩
theorem r_man {F R k w m b : Nat} {tbl : Nat → Int64} {dd : Int32} {B : cP} (hB : bd F R) (hk : k < 6) (hk2 : 2 ≤ k) (hv : vW F R k w m b) (hBv : ∀ t, B w t b → vB F R k w t b) (hr : ∀ t, on F R t → (mX5_reaches tbl (nI k) (nI w) (nI t) (nI b) dd = true ↔ B w t b)) : mX5_manReaches (nI F) (nI R) tbl (nI k) (nI w) (nI m) (nI b) dd = true ↔ ∃ t, att k m t w ∧ t ≠ w ∧ B w t b := by
  have hR : R ≤ 8 := by omega
  rw [r_mL hB hk hk2 hv.1.2.1 (on64 hR hv.1.1) (on64 hR hv.1.2.2.1)]
  constructor
  · rintro ⟨d, hd, j, hj, q1, q2⟩
    have hl := q1 j (Nat.le_refl _)
    exact ⟨_, ⟨d, hd, j, hj, rfl, fun i hi => (q1 i (by omega)).2.1⟩, hl.2.1, (hr _ hl.1).mp q2⟩
  · rintro ⟨t, ⟨d, hd, j, hj, e, hb⟩, htw, hBt⟩
    subst e
    have hvt := hBv _ hBt
    have hon := wk8_on hk hR hd hj hv.1.2.1 hvt.2.1
    refine ⟨d, hd, j, hj, fun i hi => ⟨hon i hi, ?_, ?_⟩, (hr _ hvt.2.1).mpr hBt⟩
    · rcases Nat.lt_or_ge i j with h | h
      · exact hb i h
      · have : i = j := by omega
        subst this
        exact htw
    · rcases Nat.lt_or_ge i j with h | h
      · intro q
        exact hv.2 ⟨d, hd, i, by omega, q, fun i2 hi2 => hb i2 (by omega)⟩
      · have : i = j := by omega
        subst this
        exact hvt.2.2.2.2.2.1
/-! the pawn -/
theorem r_up : ∀ m, m < 64 → sp8 3 m = if m / 8 < 7 then m + 8 else 64 := by decide +kernel
theorem r_up8 : ∀ m, m < 64 → (nI m / 8 = 1 ↔ m / 8 = 1) := by decide +kernel
theorem r_upR : ∀ R, R < 9 → 3 ≤ R → ∀ m, m < 64 → (nI R - 1 ≤ nI m / 8 ↔ R ≤ m / 8 + 1) := by decide +kernel
theorem r_stepU {F R m : Nat} (hB : bd F R) (hm : on F R m) (h : m / 8 + 1 < R) : mX5_step (nI F) (nI R) (nI m) (0 : Int32) (1 : Int32) = nI (m + 8) ∧ on F R (m + 8) := by
  have hR : R ≤ 8 := by omega
  have hm64 := on64 hR hm
  have hs := r_step F hB.2.1 R hB.2.2.2 3 (by omega) m hm64
  rw [r_up m hm64, if_pos (by omega)] at hs
  have ho : on F R (m + 8) := ⟨by have := hm.1; omega, by omega⟩
  rw [sqI_on ho] at hs
  exact ⟨hs, ho⟩
theorem r_mr3 {mF mR : Int32} {tbl : Nat → Int64} {ww wm wb dd : Int32} : mX5_manReaches_V14 mF mR tbl ww wm wb dd = true ↔ mX5_reaches tbl 2 ww (mX5_step mF mR wm 0 1) wb dd = true ∨ mX5_reaches tbl 3 ww (mX5_step mF mR wm 0 1) wb dd = true ∨ mX5_reaches tbl 4 ww (mX5_step mF mR wm 0 1) wb dd = true ∨ mX5_reaches tbl 5 ww (mX5_step mF mR wm 0 1) wb dd = true := by
  unfold mX5_manReaches_V14 mX5_manReaches_V13 mX5_manReaches_V12 mX5_manReaches_V11
  cases mX5_reaches tbl 2 ww (mX5_step mF mR wm 0 1) wb dd <;> cases mX5_reaches tbl 3 ww (mX5_step mF mR wm 0 1) wb dd <;> cases mX5_reaches tbl 4 ww (mX5_step mF mR wm 0 1) wb dd <;> cases mX5_reaches tbl 5 ww (mX5_step mF mR wm 0 1) wb dd <;> simp [zI]
theorem r_pawn {F R w m b : Nat} {tbl : Nat → Int64} {dd : Int32} {B pb : cP} (hB : bd F R) (hv : vW F R 1 w m b) (hBv : ∀ t, B w t b → vB F R 1 w t b) (hpv : ∀ t, pb w t b → t ≠ w ∧ t ≠ b) (hr : ∀ t, on F R t → (mX5_reaches tbl 1 (nI w) (nI t) (nI b) dd = true ↔ B w t b))
    (hp : ∀ t, on F R t → (pb w t b ↔ mX5_reaches tbl 2 (nI w) (nI t) (nI b) dd = true ∨ mX5_reaches tbl 3 (nI w) (nI t) (nI b) dd = true ∨ mX5_reaches tbl 4 (nI w) (nI t) (nI b) dd = true ∨ mX5_reaches tbl 5 (nI w) (nI t) (nI b) dd = true)) : mX5_manReaches (nI F) (nI R) tbl (nI 1) (nI w) (nI m) (nI b) dd = true ↔ mst F R 1 B pb w m b := by
  have hR : R ≤ 8 := by omega
  have hw := on64 hR hv.1.1
  have hm := on64 hR hv.1.2.1
  have hb := on64 hR hv.1.2.2.1
  have hpw := hv.1.2.2.2.2.2.2.2 rfl
  obtain ⟨hs, ho⟩ := r_stepU hB hv.1.2.1 hpw.2
  have ho64 := on64 hR ho
  have hV6 : mX5_manReaches_V6 (nI F) (nI R) (nI w) (nI m) (nI b) = true ↔ m + 8 ≠ w ∧ m + 8 ≠ b := by
    unfold mX5_manReaches_V6
    rw [hs, if_neg (nI_nneg64 ho64)]
    by_cases h1 : m + 8 = w
    · rw [if_pos (by rw [h1])]
      exact ⟨fun q => (by cases q), fun q => absurd h1 q.1⟩
    · rw [if_neg (fun q => h1 ((nI_eq64 ho64 hw).mp q))]
      by_cases h2 : m + 8 = b
      · rw [if_pos (by rw [h2])]
        exact ⟨fun q => (by cases q), fun q => absurd h2 q.2⟩
      · rw [if_neg (fun q => h2 ((nI_eq64 ho64 hb).mp q))]
        exact ⟨fun _ => ⟨h1, h2⟩, fun _ => rfl⟩
  unfold mst
  rw [if_pos rfl]
  unfold mX5_manReaches
  rw [if_pos (show nI 1 = 1 from rfl)]
  by_cases hopen : m + 8 ≠ w ∧ m + 8 ≠ b
  · have h6 := hV6.mpr hopen
    rw [if_neg (by rw [zI_b0]; exact fun q => q h6), hs]
    by_cases hlast : m / 8 + 2 = R
    · rw [if_pos ((r_p9 R hB.2.2.2 hB.2.2.1 _ ho64).mpr (by omega)), r_mr3, hs]
      constructor
      · intro q
        exact Or.inr (Or.inr ⟨hlast, (hp _ ho).mpr q⟩)
      · rintro (q | ⟨q1, -, -, q⟩ | ⟨-, q⟩)
        · have := (hBv _ q).2.2.2.2.2.2.2 rfl
          omega
        · have h3 := (hBv _ q).2.1.2
          omega
        · exact (hp _ ho).mp q
    · rw [if_neg (fun q => hlast (by have := (r_p9 R hB.2.2.2 hB.2.2.1 _ ho64).mp q; omega))]
      have hV10 : mX5_manReaches_V10 (nI F) (nI R) tbl (nI 1) (nI w) (nI m) (nI b) dd = true ↔ B w (m + 8) b := by
        unfold mX5_manReaches_V10
        rw [if_neg (by rw [zI_b0]; exact fun q => q h6), hs]
        have := hr _ ho
        by_cases h7 : mX5_reaches tbl (nI 1) (nI w) (nI (m + 8)) (nI b) dd = true
        · rw [if_neg (by rw [zI_b0]; exact fun q => q h7)]
          exact ⟨fun _ => this.mp h7, fun _ => rfl⟩
        · rw [if_pos (by rw [zI_b0]; exact h7)]
          exact ⟨fun q => (by cases q), fun q => absurd (this.mpr q) h7⟩
      by_cases h10 : B w (m + 8) b
      · rw [if_neg (by rw [zI_b0]; exact fun q => q (hV10.mpr h10))]
        exact ⟨fun _ => Or.inl h10, fun _ => rfl⟩
      · rw [if_pos (by rw [zI_b0]; exact fun q => h10 (hV10.mp q))]
        by_cases h1 : m / 8 = 1
        · obtain ⟨hs2, ho2⟩ := r_stepU hB ho (by omega)
          have ho2' : on F R (m + 16) := ho2
          have h64 := on64 hR ho2'
          have hV9 : mX5_manReaches_V9 (nI F) (nI R) (nI w) (nI m) (nI b) = nI (m + 16) := by
            unfold mX5_manReaches_V9
            rw [if_neg (by rw [zI_b0]; exact fun q => q h6), if_pos ((r_up8 m hm).mpr h1), hs]
            exact hs2
          rw [hV9, if_neg (nI_nneg64 h64)]
          have hF : ∀ {c : Prop}, ¬ c → ((false = true) ↔ c) := fun h => ⟨fun q => (by cases q), fun q => absurd q h⟩
          by_cases h11 : R ≤ (m + 16) / 8 + 1
          · rw [if_pos ((r_upR R hB.2.2.2 hB.2.2.1 _ h64).mpr h11)]
            refine hF ?_
            rintro (q | ⟨-, -, -, q⟩ | ⟨q, -⟩)
            · exact h10 q
            · have := (hBv _ q).2.2.2.2.2.2.2 rfl
              omega
            · exact hlast q
          · rw [if_neg (fun q => h11 ((r_upR R hB.2.2.2 hB.2.2.1 _ h64).mp q))]
            by_cases h12 : m + 16 = w
            · rw [if_pos (by rw [h12])]
              refine hF ?_
              rintro (q | ⟨-, -, -, q⟩ | ⟨q, -⟩)
              · exact h10 q
              · exact (hBv _ q).2.2.2.1 h12.symm
              · exact hlast q
            · rw [if_neg (fun q => h12 ((nI_eq64 h64 hw).mp q))]
              by_cases h13 : m + 16 = b
              · rw [if_pos (by rw [h13])]
                refine hF ?_
                rintro (q | ⟨-, -, -, q⟩ | ⟨q, -⟩)
                · exact h10 q
                · exact (hBv _ q).2.2.2.2.2.1 h13
                · exact hlast q
              · rw [if_neg (fun q => h13 ((nI_eq64 h64 hb).mp q))]
                have := hr _ ho2'
                by_cases h7 : mX5_reaches tbl (nI 1) (nI w) (nI (m + 16)) (nI b) dd = true
                · rw [if_neg (by rw [zI_b0]; exact fun q => q h7)]
                  exact ⟨fun _ => Or.inr (Or.inl ⟨h1, hopen.1, hopen.2, this.mp h7⟩), fun _ => rfl⟩
                · rw [if_pos (by rw [zI_b0]; exact h7)]
                  refine hF ?_
                  rintro (q | ⟨-, -, -, q⟩ | ⟨q, -⟩)
                  · exact h10 q
                  · exact h7 (this.mpr q)
                  · exact hlast q
        · have hV9 : mX5_manReaches_V9 (nI F) (nI R) (nI w) (nI m) (nI b) = -1 := by
            unfold mX5_manReaches_V9
            rw [if_neg (by rw [zI_b0]; exact fun q => q h6), if_neg (fun q => h1 ((r_up8 m hm).mp q))]
          rw [hV9, if_pos (by decide)]
          refine ⟨fun q => (by cases q), ?_⟩
          rintro (q | ⟨q, -, -, -⟩ | ⟨q, -⟩)
          · exact absurd q h10
          · exact absurd q h1
          · exact absurd q hlast
  · have h6 : ¬ mX5_manReaches_V6 (nI F) (nI R) (nI w) (nI m) (nI b) = true := fun q => hopen (hV6.mp q)
    rw [if_pos (by rw [zI_b0]; exact h6)]
    have h8 : mX5_manReaches_V8 (nI F) (nI R) tbl (nI 1) (nI w) (nI m) (nI b) dd = false := by
      unfold mX5_manReaches_V8
      rw [if_pos (by rw [zI_b0]; exact h6)]
    have h7 : mX5_manReaches_V7 (nI F) (nI R) (nI w) (nI m) (nI b) = -1 := by
      unfold mX5_manReaches_V7
      rw [if_pos (by rw [zI_b0]; exact h6)]
    rw [h8, if_pos (by decide), h7, if_pos (by decide)]
    refine ⟨fun q => (by cases q), ?_⟩
    rintro (q | ⟨-, q1, q2, -⟩ | ⟨-, q⟩)
    · have := hBv _ q
      exact absurd ⟨fun z => this.2.2.2.1 z.symm, this.2.2.2.2.2.1⟩ hopen
    · exact absurd ⟨q1, q2⟩ hopen
    · exact absurd (hpv _ q) hopen
