/-! a pass of the reference -/
def pInv (k who d t0 : Nat) (L : cP) (tb0 tb3 : Nat → Int64) : Prop := ∀ k' who' w m b, 1 ≤ k' → k' < 6 → who' < 2 → w < 64 → m < 64 → b < 64 → ((k' = k ∧ who' = who ∧ (w * 64 + m) * 64 + b < t0 ∧ L w m b) → BY tb3 (ix k' who' w m b) = d + 1) ∧ (¬ (k' = k ∧ who' = who ∧ (w * 64 + m) * 64 + b < t0 ∧ L w m b) → BY tb3 (ix k' who' w m b) = BY tb0 (ix k' who' w m b))
/-- bytes but this kind's and side's are as they were -/
def pOth (k who : Nat) (tb0 tb3 : Nat → Int64) : Prop := ∀ k' who' w m b, 1 ≤ k' → k' < 6 → who' < 2 → w < 64 → m < 64 → b < 64 → ¬ (k' = k ∧ who' = who) → BY tb3 (ix k' who' w m b) = BY tb0 (ix k' who' w m b)
theorem pInv.oth {k who d t0 : Nat} {L : cP} {tb0 tb3 : Nat → Int64} (h : pInv k who d t0 L tb0 tb3) : pOth k who tb0 tb3 := fun k' who' w m b h1 h2 h3 h4 h5 h6 h7 => (h k' who' w m b h1 h2 h3 h4 h5 h6).2 (fun q => h7 ⟨q.1, q.2.1⟩)
theorem pInv.skip {k who d t0 t1 : Nat} {L : cP} {tb0 tb3 : Nat → Int64} (h : pInv k who d t0 L tb0 tb3) (ht : t0 ≤ t1) (hn : ∀ w m b, w < 64 → m < 64 → b < 64 → t0 ≤ (w * 64 + m) * 64 + b → (w * 64 + m) * 64 + b < t1 → ¬ L w m b) : pInv k who d t1 L tb0 tb3 := by
  intro k' who' w m b h1 h2 h3 h4 h5 h6
  obtain ⟨a1, a2⟩ := h k' who' w m b h1 h2 h3 h4 h5 h6
  have e : (k' = k ∧ who' = who ∧ (w * 64 + m) * 64 + b < t1 ∧ L w m b) ↔ (k' = k ∧ who' = who ∧ (w * 64 + m) * 64 + b < t0 ∧ L w m b) := by
    constructor
    · rintro ⟨q1, q2, q3, q4⟩
      refine ⟨q1, q2, ?_, q4⟩
      rcases Nat.lt_or_ge ((w * 64 + m) * 64 + b) t0 with q | q
      · exact q
      · exact absurd q4 (hn w m b h4 h5 h6 q q3)
    · rintro ⟨q1, q2, q3, q4⟩
      exact ⟨q1, q2, by omega, q4⟩
  exact ⟨fun q => a1 (e.mp q), fun q => a2 (fun z => q (e.mpr z))⟩
/-- what a pass must know of its test -/
def pG (F R k who d : Nat) (L : cP) (tb0 : Nat → Int64) : Prop := ∀ (tb3 : Nat → Int64) (w m b : Nat), w < 64 → m < 64 → b < 64 → pOth k who tb0 tb3 → BY tb3 (ix k who w m b) = BY tb0 (ix k who w m b) →
  ((mX5_isPosition (nI F) (nI R) (nI k) (nI w) (nI m) (nI b) (mX5_pass_V1 (nI d)) = true ∧ ¬ 0 ≤ mX5_known tb3 (nI k) (mX5_pass_V1 (nI d)) (nI w) (nI m) (nI b) ∧ mX5_pass_V2 (nI F) (nI R) (nI k) (nI d) b tb3 m w = true) ↔ L w m b)
section RPass
variable {F R k who d : Nat} {L : cP} {tb0 : Nat → Int64}
theorem r_pL3 (hB : bd F R) (hk : k < 6) (hk1 : 1 ≤ k) (hwho : who < 2) (hd : d < 255) (hV1 : mX5_pass_V1 (nI d) = nI who) (hLv : ∀ w m b, L w m b → vB F R k w m b) (hG : pG F R k who d L tb0) {w m : Nat} (hw : w < 64) (hm : m < 64) : ∀ (k3 i3 : Nat) (s : Bool) (tb3 : Nat → Int64), i3 + k3 = 64 → pInv k who d ((w * 64 + m) * 64 + i3) L tb0 tb3 → pInv k who d ((w * 64 + m) * 64 + 64) L tb0 (mX5_pass_L3 (nI F) (nI R) (nI k) (nI d) m w k3 i3 s tb3).2 ∧ ((mX5_pass_L3 (nI F) (nI R) (nI k) (nI d) m w k3 i3 s tb3).1 = true ↔ s = true ∨ ∃ b, i3 ≤ b ∧ b < 64 ∧ L w m b)
  | 0, i3, s, tb3, hi, hv => by
    have : i3 = 64 := by omega
    subst this
    rw [mX5_pass_L3]
    exact ⟨hv, ⟨Or.inl, fun q => q.elim id (fun ⟨b, q1, q2, _⟩ => by omega)⟩⟩
  | k3 + 1, i3, s, tb3, hi, hv => by
    have hi64 : i3 < 64 := by omega
    rw [mX5_pass_L3]
    have none : (∀ b, b < 64 → ¬ L w m b) → pInv k who d ((w * 64 + m) * 64 + 64) L tb0 tb3 ∧ (s = true ↔ s = true ∨ ∃ b, i3 ≤ b ∧ b < 64 ∧ L w m b) := fun hn =>
      ⟨hv.skip (by omega) (fun w' m' b' h1 h2 h3 h4 h5 q => by
        have e1 : w' = w := by omega
        have e2 : m' = m := by omega
        subst e1; subst e2
        exact hn b' h3 q), ⟨Or.inl, fun q => q.elim id (fun ⟨b, _, q2, q3⟩ => absurd q3 (hn b q2))⟩⟩
    by_cases hsq : on F R m
    · rw [if_neg (by rw [zI_b0]; exact fun q => q ((r_sq F hB.2.1 R hB.2.2.2 m hm).mpr hsq))]
      by_cases hmw : m = w
      · rw [if_pos (by rw [hmw])]
        exact none (fun b _ q => (hLv w m b q).2.2.2.1 hmw.symm)
      · rw [if_neg (fun q => hmw ((nI_eq64 hm hw).mp q))]
        have hown : BY tb3 (ix k who w m i3) = BY tb0 (ix k who w m i3) := (hv k who w m i3 hk1 hk hwho hw hm hi64).2 (fun q => by omega)
        have hg := hG tb3 w m i3 hw hm hi64 hv.oth hown
        have go : ¬ L w m i3 → pInv k who d ((w * 64 + m) * 64 + 64) L tb0 (mX5_pass_L3 (nI F) (nI R) (nI k) (nI d) m w k3 (i3 + 1) s tb3).2 ∧ ((mX5_pass_L3 (nI F) (nI R) (nI k) (nI d) m w k3 (i3 + 1) s tb3).1 = true ↔ s = true ∨ ∃ b, i3 ≤ b ∧ b < 64 ∧ L w m b) := by
          intro hn
          obtain ⟨h1, h2⟩ := r_pL3 hB hk hk1 hwho hd hV1 hLv hG hw hm k3 (i3 + 1) s tb3 (by omega) (hv.skip (by omega) (fun w' m' b' h1 h2 h3 h4 h5 q => by
            have e1 : w' = w := by omega
            have e2 : m' = m := by omega
            have e3 : b' = i3 := by omega
            subst e1; subst e2; subst e3
            exact hn q))
          refine ⟨h1, h2.trans ⟨fun q => q.elim Or.inl (fun ⟨b, q1, q2, q3⟩ => Or.inr ⟨b, by omega, q2, q3⟩), fun q => q.elim Or.inl (fun ⟨b, q1, q2, q3⟩ => Or.inr ⟨b, ?_, q2, q3⟩)⟩⟩
          rcases Nat.lt_or_ge i3 b with q | q
          · exact q
          · have : b = i3 := by omega
            subst this
            exact absurd q3 hn
        by_cases c1 : mX5_isPosition (nI F) (nI R) (nI k) (nI w) (nI m) (nI i3) (mX5_pass_V1 (nI d)) = true
        · rw [if_neg (by rw [zI_b0]; exact fun q => q c1)]
          by_cases c2 : 0 ≤ mX5_known tb3 (nI k) (mX5_pass_V1 (nI d)) (nI w) (nI m) (nI i3)
          · rw [if_pos c2]
            exact go (fun q => (hg.mpr q).2.1 c2)
          · rw [if_neg c2]
            by_cases c3 : mX5_pass_V2 (nI F) (nI R) (nI k) (nI d) i3 tb3 m w = true
            · rw [if_neg (by rw [zI_b0]; exact fun q => q c3)]
              have hl := hg.mp ⟨c1, c2, c3⟩
              have h0 : BY tb3 (ix k who w m i3) = 0 := by
                rw [hV1, r_known hk hk1 hwho hw hm hi64, nI_byte_le _ (BY_lt _ _)] at c2
                exact Classical.not_not.mp c2
              obtain ⟨h1, h2⟩ := r_pL3 hB hk hk1 hwho hd hV1 hLv hG hw hm k3 (i3 + 1) true (mX5_note tb3 (nI k) (mX5_pass_V1 (nI d)) (nI w) (nI m) (nI i3) (nI d)) (by omega) (by
                rw [hV1]
                intro k' who' w' m' b' g1 g2 g3 g4 g5 g6
                rw [r_note hk hk1 hwho hw hm hi64 hd h0]
                obtain ⟨a1, a2⟩ := hv k' who' w' m' b' g1 g2 g3 g4 g5 g6
                by_cases e : ix k' who' w' m' b' = ix k who w m i3
                · rw [if_pos e]
                  obtain ⟨e1, e2, e3, e4, e5⟩ := ix_inj g1 hk1 g3 hwho g4 g5 g6 hw hm hi64 e
                  subst e1; subst e2; subst e3; subst e4; subst e5
                  exact ⟨fun _ => rfl, fun q => absurd ⟨rfl, rfl, by omega, hl⟩ q⟩
                · rw [if_neg e]
                  refine ⟨fun ⟨q1, q2, q3, q4⟩ => a1 ⟨q1, q2, ?_, q4⟩, fun q => a2 (fun ⟨q1, q2, q3, q4⟩ => q ⟨q1, q2, by omega, q4⟩)⟩
                  rcases Nat.lt_or_ge ((w' * 64 + m') * 64 + b') ((w * 64 + m) * 64 + i3) with z | z
                  · exact z
                  · exfalso
                    apply e
                    have e1 : w' = w := by omega
                    have e2 : m' = m := by omega
                    have e3 : b' = i3 := by omega
                    rw [q1, q2, e1, e2, e3])
              exact ⟨h1, h2.trans ⟨fun _ => Or.inr ⟨i3, Nat.le_refl _, hi64, hl⟩, fun _ => Or.inl rfl⟩⟩
            · rw [if_pos (by rw [zI_b0]; exact c3)]
              exact go (fun q => c3 (hg.mpr q).2.2)
        · rw [if_pos (by rw [zI_b0]; exact c1)]
          exact go (fun q => c1 (hg.mpr q).1)
    · rw [if_pos (by rw [zI_b0]; exact fun q => hsq ((r_sq F hB.2.1 R hB.2.2.2 m hm).mp q))]
      exact none (fun b _ q => hsq (hLv w m b q).2.1)
theorem r_pL2 (hB : bd F R) (hk : k < 6) (hk1 : 1 ≤ k) (hwho : who < 2) (hd : d < 255) (hV1 : mX5_pass_V1 (nI d) = nI who) (hLv : ∀ w m b, L w m b → vB F R k w m b) (hG : pG F R k who d L tb0) {w : Nat} (hw : w < 64) : ∀ (k2 i2 : Nat) (s : Bool) (tb2 : Nat → Int64), i2 + k2 = 64 → pInv k who d ((w * 64 + i2) * 64) L tb0 tb2 → pInv k who d ((w + 1) * 4096) L tb0 (mX5_pass_L2 (nI F) (nI R) (nI k) (nI d) w k2 i2 s tb2).2 ∧ ((mX5_pass_L2 (nI F) (nI R) (nI k) (nI d) w k2 i2 s tb2).1 = true ↔ s = true ∨ ∃ m b, i2 ≤ m ∧ m < 64 ∧ b < 64 ∧ L w m b)
  | 0, i2, s, tb2, hi, hv => by
    have : i2 = 64 := by omega
    subst this
    rw [mX5_pass_L2]
    have e : (w * 64 + 64) * 64 = (w + 1) * 4096 := by omega
    rw [e] at hv
    exact ⟨hv, ⟨Or.inl, fun q => q.elim id (fun ⟨m, b, q1, q2, _⟩ => by omega)⟩⟩
  | k2 + 1, i2, s, tb2, hi, hv => by
    rw [mX5_pass_L2]
    by_cases hsq : on F R w
    · rw [if_neg (by rw [zI_b0]; exact fun q => q ((r_sq F hB.2.1 R hB.2.2.2 w hw).mpr hsq))]
      obtain ⟨g1, g2⟩ := r_pL3 hB hk hk1 hwho hd hV1 hLv hG hw (show i2 < 64 by omega) 64 0 s tb2 (by omega) hv
      obtain ⟨h1, h2⟩ := r_pL2 hB hk hk1 hwho hd hV1 hLv hG hw k2 (i2 + 1) (mX5_pass_L3 (nI F) (nI R) (nI k) (nI d) i2 w 64 0 s tb2).1 (mX5_pass_L3 (nI F) (nI R) (nI k) (nI d) i2 w 64 0 s tb2).2 (by omega) (by
        have e : (w * 64 + i2) * 64 + 64 = (w * 64 + (i2 + 1)) * 64 := by omega
        rw [← e]; exact g1)
      refine ⟨h1, h2.trans ?_⟩
      rw [g2]
      constructor
      · rintro ((q | ⟨b, q1, q2, q3⟩) | ⟨m, b, q1, q2, q3, q4⟩)
        · exact Or.inl q
        · exact Or.inr ⟨i2, b, Nat.le_refl _, by omega, q2, q3⟩
        · exact Or.inr ⟨m, b, by omega, q2, q3, q4⟩
      · rintro (q | ⟨m, b, q1, q2, q3, q4⟩)
        · exact Or.inl (Or.inl q)
        · rcases Nat.lt_or_ge i2 m with z | z
          · exact Or.inr ⟨m, b, z, q2, q3, q4⟩
          · have : m = i2 := by omega
            subst this
            exact Or.inl (Or.inr ⟨b, Nat.zero_le _, q3, q4⟩)
    · rw [if_pos (by rw [zI_b0]; exact fun q => hsq ((r_sq F hB.2.1 R hB.2.2.2 w hw).mp q))]
      have hn : ∀ m b, ¬ L w m b := fun m b q => hsq (hLv w m b q).1
      exact ⟨hv.skip (by omega) (fun w' m' b' h1 h2 h3 h4 h5 q => by
        have e1 : w' = w := by omega
        subst e1
        exact hn m' b' q), ⟨Or.inl, fun q => q.elim id (fun ⟨m, b, _, _, _, q4⟩ => absurd q4 (hn m b))⟩⟩
theorem r_pL1 (hB : bd F R) (hk : k < 6) (hk1 : 1 ≤ k) (hwho : who < 2) (hd : d < 255) (hV1 : mX5_pass_V1 (nI d) = nI who) (hLv : ∀ w m b, L w m b → vB F R k w m b) (hG : pG F R k who d L tb0) {T : Nat} (hT : 64 * 4096 = T) : ∀ (k1 i1 : Nat) (s : Bool) (tb1 : Nat → Int64), i1 + k1 = 64 → pInv k who d (i1 * 4096) L tb0 tb1 → pInv k who d T L tb0 (mX5_pass_L1 (nI F) (nI R) (nI k) (nI d) k1 i1 s tb1).2 ∧ ((mX5_pass_L1 (nI F) (nI R) (nI k) (nI d) k1 i1 s tb1).1 = true ↔ s = true ∨ ∃ w m b, i1 ≤ w ∧ w < 64 ∧ m < 64 ∧ b < 64 ∧ L w m b) := by
  intro k1
  induction k1 with
  | zero =>
    intro i1 s tb1 hi hv
    have h64 : i1 = 64 := by clear hT; omega
    have e : i1 * 4096 = T := by rw [h64]; exact hT
    rw [e] at hv
    clear hT
    rw [mX5_pass_L1]
    exact ⟨hv, ⟨Or.inl, fun q => q.elim id (fun ⟨w, m, b, q1, q2, _⟩ => by omega)⟩⟩
  | succ k1 ih =>
    intro i1 s tb1 hi hv
    rw [mX5_pass_L1]
    obtain ⟨g1, g2⟩ := r_pL2 hB hk hk1 hwho hd hV1 hLv hG (show i1 < 64 by omega) 64 0 s tb1 (by omega) (by
      have e : (i1 * 64 + 0) * 64 = i1 * 4096 := by omega
      rw [e]; exact hv)
    obtain ⟨h1, h2⟩ := ih (i1 + 1) (mX5_pass_L2 (nI F) (nI R) (nI k) (nI d) i1 64 0 s tb1).1 (mX5_pass_L2 (nI F) (nI R) (nI k) (nI d) i1 64 0 s tb1).2 (by omega) g1
    refine ⟨h1, h2.trans ?_⟩
    rw [g2]
    constructor
    · rintro ((q | ⟨m, b, q1, q2, q3, q4⟩) | ⟨w, m, b, q1, q2, q3, q4, q5⟩)
      · exact Or.inl q
      · exact Or.inr ⟨i1, m, b, Nat.le_refl _, by omega, q2, q3, q4⟩
      · exact Or.inr ⟨w, m, b, by omega, q2, q3, q4, q5⟩
    · rintro (q | ⟨w, m, b, q1, q2, q3, q4, q5⟩)
      · exact Or.inl (Or.inl q)
      · rcases Nat.lt_or_ge i1 w with z | z
        · exact Or.inr ⟨w, m, b, z, q2, q3, q4, q5⟩
        · have : w = i1 := by omega
          subst this
          exact Or.inl (Or.inr ⟨m, b, Nat.zero_le _, q3, q4, q5⟩)
theorem r_pass (hB : bd F R) (hk : k < 6) (hk1 : 1 ≤ k) (hwho : who < 2) (hd : d < 255) (hV1 : mX5_pass_V1 (nI d) = nI who) (hLv : ∀ w m b, L w m b → vB F R k w m b) (hG : pG F R k who d L tb0) : pInv k who d 262144 L tb0 (mX5_pass (nI F) (nI R) tb0 (nI k) (nI d)).2 ∧ ((mX5_pass (nI F) (nI R) tb0 (nI k) (nI d)).1 = true ↔ ∃ w m b, L w m b) := by
  have hR : R ≤ 8 := by omega
  obtain ⟨h1, h2⟩ := r_pL1 hB hk hk1 hwho hd hV1 hLv hG (T := 262144) (by decide) 64 0 false tb0 (by omega) (fun k' who' w m b g1 g2 g3 g4 g5 g6 => ⟨fun q => by omega, fun _ => rfl⟩)
  refine ⟨h1, h2.trans ⟨fun q => q.elim (fun z => by cases z) (fun ⟨w, m, b, _, _, _, _, z⟩ => ⟨w, m, b, z⟩), fun ⟨w, m, b, z⟩ => Or.inr ⟨w, m, b, Nat.zero_le _, on64 hR (hLv w m b z).1, on64 hR (hLv w m b z).2.1, on64 hR (hLv w m b z).2.2.1, z⟩⟩⟩
end RPass
/-! the table before a pass, in the central words -/
def TB (t : Nat → Int64) (k who : Nat) (L : Nat → cP) (v : Nat → Nat) (n : Nat) : Prop := ∀ w m b, w < 64 → m < 64 → b < 64 → (∀ g, g < n → L g w m b → BY t (ix k who w m b) = v g) ∧ ((∀ g, g < n → ¬ L g w m b) → BY t (ix k who w m b) = 0)
/-- black's halves below n, white's below n' -/
def TC (F R k : Nat) (pb : Nat → cP) (n n' : Nat) (t : Nat → Int64) : Prop := TB t k 1 (LB F R k pb) (fun g => 2 * g + 1) n ∧ TB t k 0 (LW F R k pb) (fun g => 2 * g + 2) n'
theorem TB.ne0 {t : Nat → Int64} {k who : Nat} {L : Nat → cP} {v : Nat → Nat} {n w m b : Nat} (h : TB t k who L v n) (hv : ∀ g, v g ≠ 0) (hw : w < 64) (hm : m < 64) (hb : b < 64) : BY t (ix k who w m b) ≠ 0 ↔ ∃ g, g < n ∧ L g w m b := by
  obtain ⟨h1, h2⟩ := h w m b hw hm hb
  constructor
  · intro q
    apply Classical.byContradiction
    intro z
    exact q (h2 (fun g hg y => z ⟨g, hg, y⟩))
  · rintro ⟨g, hg, q⟩
    rw [h1 g hg q]
    exact hv g
theorem TB.val {t : Nat → Int64} {k who : Nat} {L : Nat → cP} {v : Nat → Nat} {n w m b h : Nat} (q : TB t k who L v n) (hv : ∀ g, v g ≠ 0) (hi : ∀ g g', v g = v g' → g = g') (hh : h < n) (hw : w < 64) (hm : m < 64) (hb : b < 64) : BY t (ix k who w m b) = v h ↔ L h w m b := by
  obtain ⟨h1, h2⟩ := q w m b hw hm hb
  constructor
  · intro e
    have h3 : BY t (ix k who w m b) ≠ 0 := by rw [e]; exact hv h
    obtain ⟨g, hg, z⟩ := (q.ne0 hv hw hm hb).mp h3
    have e2 := h1 g hg z
    have : g = h := hi g h (by rw [← e2, e])
    subst this
    exact z
  · exact h1 h hh
/-- all that is to be found is found -/
def TF (t : Nat → Int64) (k who : Nat) (L : Nat → cP) (v : Nat → Nat) : Prop := ∀ w m b, w < 64 → m < 64 → b < 64 → (∀ g, L g w m b → BY t (ix k who w m b) = v g) ∧ ((∀ g, ¬ L g w m b) → BY t (ix k who w m b) = 0)
theorem TF.val {t : Nat → Int64} {k who : Nat} {L : Nat → cP} {v : Nat → Nat} {w m b h : Nat} (q : TF t k who L v) (hv : ∀ g, v g ≠ 0) (hi : ∀ g g', v g = v g' → g = g') (hw : w < 64) (hm : m < 64) (hb : b < 64) : BY t (ix k who w m b) = v h ↔ L h w m b := by
  obtain ⟨h1, h2⟩ := q w m b hw hm hb
  constructor
  · intro e
    apply Classical.byContradiction
    intro z
    have h3 : ∃ g, L g w m b := by
      apply Classical.byContradiction
      intro y
      have := h2 (fun g q => y ⟨g, q⟩)
      exact hv h (by rw [← e, this])
    obtain ⟨g, y⟩ := h3
    have : g = h := hi g h (by rw [← h1 g y, e])
    subst this
    exact z y
  · exact h1 h
/-- the promoted men's tables -/
def PC (F R : Nat) (t : Nat → Int64) : Prop := ∀ q, 2 ≤ q → q ≤ 5 → TF t q 1 (LB F R q c0) (fun g => 2 * g + 1)
theorem r_pV1e : ∀ h, h < 100 → mX5_pass_V1 (nI (2 * h)) = 1 ∧ mX5_pass_V1 (nI (2 * h + 1)) = 0 := by decide +kernel
theorem r_pV3 : ∀ h, h < 100 → (mX5_pass_V3 (nI (2 * h)) = true ↔ h = 0) := by decide +kernel
theorem pG_B {F R k h : Nat} {pb : Nat → cP} {tb0 : Nat → Int64} (hB : bd F R) (hk : k < 6) (hk1 : 1 ≤ k) (hh : h < 100) (hT : TC F R k pb h h tb0) : pG F R k 1 (2 * h) (LB F R k pb h) tb0 := by
  intro tb3 w m b hw hm hb ho hs
  have hR : R ≤ 8 := by omega
  have e1 := (r_pV1e h hh).1
  rw [e1]
  have hpos : mX5_isPosition (nI F) (nI R) (nI k) (nI w) (nI m) (nI b) 1 = true ↔ vB F R k w m b := by
    rw [r_pos hB hk hk1 hw hm hb (Or.inr rfl)]
    exact ⟨fun q => q.1, fun q => ⟨q, Or.inl rfl⟩⟩
  have hkn : ¬ 0 ≤ mX5_known tb3 (nI k) 1 (nI w) (nI m) (nI b) ↔ ¬ (lv F R k pb h).1 w m b := by
    rw [show (1 : Int32) = nI 1 from rfl, r_known hk hk1 (by omega) hw hm hb, nI_byte_le _ (BY_lt _ _), hs, hT.1.ne0 (fun g => by omega) hw hm hb, lv_B]
  have hKW : ∀ t, on F R t → (¬ mX5_known tb3 (nI k) 0 (nI w) (nI m) (nI t) < 0 ↔ (lv F R k pb h).2 w m t) := by
    intro t ht
    have ht64 := on64 hR ht
    rw [show (0 : Int32) = nI 0 from rfl, r_known hk hk1 (by omega) hw hm ht64, show (nI 0 : Int32) = 0 from rfl, nI_byte_neg _ (BY_lt _ _), ho k 0 w m t hk1 hk (by omega) hw hm ht64 (by omega)]
    rw [lv_W]
    exact hT.2.ne0 (fun g => by omega) hw hm ht64
  rw [hpos, hkn]
  have hV2 : mX5_pass_V2 (nI F) (nI R) (nI k) (nI (2 * h)) b tb3 m w = mX5_isLost (nI F) (nI R) tb3 (nI k) (nI w) (nI m) (nI b) (mX5_pass_V3 (nI (2 * h))) := by
    unfold mX5_pass_V2
    rw [if_pos e1]
  rw [hV2]
  constructor
  · rintro ⟨q1, q2, q3⟩
    rw [r_lost _ hB hk hk1 q1 hKW] at q3
    by_cases h0 : mX5_pass_V3 (nI (2 * h)) = true
    · rw [if_pos h0] at q3
      exact ⟨q1, q2, Or.inl q3.2, fun t ht => absurd ⟨t, ht⟩ q3.1⟩
    · rw [if_neg h0] at q3
      exact ⟨q1, q2, Or.inr q3.1, q3.2⟩
  · rintro ⟨q1, q2, q3, q4⟩
    refine ⟨q1, q2, ?_⟩
    rw [r_lost _ hB hk hk1 q1 hKW]
    by_cases h0 : mX5_pass_V3 (nI (2 * h)) = true
    · rw [if_pos h0]
      have hz := (r_pV3 h hh).mp h0
      subst hz
      have hno : ¬ ∃ t, bgo F R k w m b t := fun ⟨t, ht⟩ => (q4 t ht).2
      exact ⟨hno, q3.resolve_right hno⟩
    · rw [if_neg h0]
      refine ⟨?_, q4⟩
      rcases q3 with q3 | q3
      · apply Classical.byContradiction
        intro hno
        apply q2
        rw [lv_B]
        have hpos : 0 < h := by
          rcases Nat.eq_zero_or_pos h with z | z
          · exact absurd ((r_pV3 h hh).mpr z) h0
          · exact z
        exact ⟨0, hpos, q1, id, Or.inl q3, fun t ht => absurd ⟨t, ht⟩ hno⟩
      · exact q3
