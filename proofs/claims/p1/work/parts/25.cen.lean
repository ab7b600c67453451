/-! central words: squares 0..63 as the document's, steps by sixteen ways (straight, slanting, a knight's); 64: no square -/
def dfx (d : Nat) : Nat := ([2, 1, 3, 2, 1, 3, 1, 3, 1, 3, 0, 4, 0, 4, 1, 3] : List Nat).getD d 0
def drx (d : Nat) : Nat := ([1, 2, 2, 3, 1, 1, 3, 3, 0, 0, 1, 1, 3, 3, 4, 4] : List Nat).getD d 0
def sp8 (d s : Nat) : Nat := if s < 64 ∧ 2 ≤ s % 8 + dfx d ∧ s % 8 + dfx d < 10 ∧ 2 ≤ s / 8 + drx d ∧ s / 8 + drx d < 10 then (s % 8 + dfx d - 2) + 8 * (s / 8 + drx d - 2) else 64
def wk8 (d m : Nat) : Nat → Nat
  | 0 => m
  | j + 1 => sp8 d (wk8 d m j)
def wys : Nat → List Nat
  | 1 => [6, 7]
  | 2 => [8, 9, 10, 11, 12, 13, 14, 15]
  | 3 => [4, 5, 6, 7]
  | 4 => [0, 1, 2, 3]
  | 5 => [0, 1, 2, 3, 4, 5, 6, 7]
  | _ => []
def rch : Nat → Nat
  | 1 => 1
  | 2 => 1
  | _ => 7
/-- a man on m attacks t, the white king on w barring the way -/
def att (k m t w : Nat) : Prop := ∃ d, d ∈ wys k ∧ ∃ j, j < rch k ∧ wk8 d m (j + 1) = t ∧ ∀ i, i < j → wk8 d m (i + 1) ≠ w
abbrev on (F R s : Nat) : Prop := s % 8 < F ∧ s / 8 < R
abbrev nx (a b : Nat) : Prop := a ≠ b ∧ a % 8 ≤ b % 8 + 1 ∧ b % 8 ≤ a % 8 + 1 ∧ a / 8 ≤ b / 8 + 1 ∧ b / 8 ≤ a / 8 + 1
theorem nx_sym {a b : Nat} (h : nx a b) : nx b a := ⟨fun e => h.1 e.symm, h.2.2.1, h.2.1, h.2.2.2.2, h.2.2.2.1⟩
theorem on64 {F R s : Nat} (hR : R ≤ 8) (h : on F R s) : s < 64 := by
  have h2 := h.2
  omega
theorem sp8_lt (d s : Nat) : sp8 d s ≤ 64 := by
  unfold sp8
  split
  · omega
  · omega
theorem sp8_64 (d : Nat) : sp8 d 64 = 64 := by unfold sp8; rw [if_neg]; omega
theorem sp8_ge {d s : Nat} (h : 64 ≤ s) : sp8 d s = 64 := by unfold sp8; rw [if_neg]; omega
theorem wk8_lt {d m j : Nat} (h : wk8 d m (j + 1) < 64) : wk8 d m j < 64 := by
  rcases Nat.lt_or_ge (wk8 d m j) 64 with h1 | h1
  · exact h1
  · have : wk8 d m (j + 1) = 64 := sp8_ge h1
    omega
theorem wk8_lts {d m : Nat} : ∀ {j i : Nat}, wk8 d m j < 64 → i ≤ j → wk8 d m i < 64
  | 0, i, h, hi => by
    have : i = 0 := by omega
    subst this
    exact h
  | j + 1, i, h, hi => by
    rcases Nat.lt_or_ge i (j + 1) with h1 | h1
    · exact wk8_lts (wk8_lt h) (by omega)
    · have : i = j + 1 := by omega
      subst this
      exact h
def opp (d : Nat) : Nat := ([3, 2, 1, 0, 7, 6, 5, 4, 15, 14, 13, 12, 11, 10, 9, 8] : List Nat).getD d 0
theorem sp8_opp : ∀ d, d < 16 → ∀ s, s < 64 → sp8 d s < 64 → sp8 (opp d) (sp8 d s) = s := by decide +kernel
theorem wys_16 : ∀ k, k < 6 → ∀ d, d ∈ wys k → d < 16 := by decide +kernel
theorem wys_8 : ∀ k, k < 6 → k ≠ 2 → ∀ d, d ∈ wys k → d < 8 := by decide +kernel
theorem wys_opp : ∀ k, k < 6 → k ≠ 1 → ∀ d, d ∈ wys k → opp d ∈ wys k := by decide +kernel
/-- a way back -/
theorem wk8_back {d m : Nat} (hd : d < 16) : ∀ (j : Nat), wk8 d m j < 64 → ∀ i, i ≤ j → wk8 (opp d) (wk8 d m j) i = wk8 d m (j - i)
  | 0, _, i, hi => by
    have : i = 0 := by omega
    subst this
    rfl
  | j + 1, h, 0, _ => rfl
  | j + 1, h, i + 1, hi => by
    show sp8 (opp d) (wk8 (opp d) (wk8 d m (j + 1)) i) = _
    rw [wk8_back hd (j + 1) h i (by omega)]
    have e : j + 1 - i = (j - i) + 1 := by omega
    have h1 : wk8 d m ((j - i) + 1) < 64 := wk8_lts h (by omega)
    have e2 : j + 1 - (i + 1) = j - i := by omega
    rw [e, e2]
    exact sp8_opp d hd _ (wk8_lt h1) h1
theorem att_sym {k m t w : Nat} (hk : k < 6) (hk1 : k ≠ 1) (ht : t < 64) (h : att k m t w) : att k t m w := by
  obtain ⟨d, hd, j, hj, e, hb⟩ := h
  have hd16 := wys_16 k hk d hd
  subst e
  refine ⟨opp d, wys_opp k hk hk1 d hd, j, hj, ?_, fun i hi => ?_⟩
  · rw [wk8_back hd16 (j + 1) ht (j + 1) (Nat.le_refl _), Nat.sub_self]; rfl
  · rw [wk8_back hd16 (j + 1) ht (i + 1) (by omega)]
    have e : j + 1 - (i + 1) = (j - i - 1) + 1 := by omega
    rw [e]
    exact hb _ (by omega)
def cvxB (m d j i : Nat) : Bool := !(decide (wk8 d m (j + 1) < 64)) || ((decide (wk8 d m (i + 1) % 8 ≤ m % 8) || decide (wk8 d m (i + 1) % 8 ≤ wk8 d m (j + 1) % 8)) && (decide (wk8 d m (i + 1) / 8 ≤ m / 8) || decide (wk8 d m (i + 1) / 8 ≤ wk8 d m (j + 1) / 8)))
theorem cvxB_t : ∀ m, m < 64 → ∀ d, d < 8 → ∀ j, j < 7 → ∀ i, i < j → cvxB m d j i = true := by decide +kernel
theorem wk8_cvx (m : Nat) (hm : m < 64) (d : Nat) (hd : d < 8) (j : Nat) (hj : j < 7) (i : Nat) (hi : i < j) (h : wk8 d m (j + 1) < 64) : (wk8 d m (i + 1) % 8 ≤ m % 8 ∨ wk8 d m (i + 1) % 8 ≤ wk8 d m (j + 1) % 8) ∧ (wk8 d m (i + 1) / 8 ≤ m / 8 ∨ wk8 d m (i + 1) / 8 ≤ wk8 d m (j + 1) / 8) := by
  have := cvxB_t m hm d hd j hj i hi
  unfold cvxB at this
  rw [decide_eq_true h] at this
  simpa using this
theorem wk8_8 : ∀ d, d < 8 → ∀ m, m < 64 → wk8 d m 8 = 64 := by decide +kernel
theorem wk8_7 {d m j : Nat} (hd : d < 8) (hm : m < 64) (h : wk8 d m (j + 1) < 64) : j < 7 := by
  rcases Nat.lt_or_ge j 7 with h1 | h1
  · exact h1
  · have := wk8_lts h (i := 8) (by omega)
    rw [wk8_8 d hd m hm] at this
    omega
theorem wk8_onL {F R m d j : Nat} (hR : R ≤ 8) (hd : d < 8) (hm : on F R m) (ht : on F R (wk8 d m (j + 1))) : ∀ i, i ≤ j → on F R (wk8 d m (i + 1)) := by
  intro i hi
  rcases Nat.lt_or_ge i j with h | h
  · have := wk8_cvx m (on64 hR hm) d hd j (wk8_7 hd (on64 hR hm) (on64 hR ht)) i h (on64 hR ht)
    obtain ⟨a1, a2⟩ := hm
    obtain ⟨b1, b2⟩ := ht
    exact ⟨by omega, by omega⟩
  · have : i = j := by omega
    subst this
    exact ht
/-- between two squares of a board there is board -/
theorem wk8_on {F R k m d j : Nat} (hk : k < 6) (hR : R ≤ 8) (hd : d ∈ wys k) (hj : j < rch k) (hm : on F R m) (ht : on F R (wk8 d m (j + 1))) : ∀ i, i ≤ j → on F R (wk8 d m (i + 1)) := by
  by_cases hk2 : k = 2
  · intro i hi
    subst hk2
    have h1 : j < 1 := hj
    have : i = j := by omega
    subst this
    exact ht
  · exact wk8_onL hR (wys_8 k hk hk2 d hd) hm ht
/-- neighbours -/
theorem nx_sp : ∀ a, a < 64 → ∀ b, b < 64 → (nx a b ↔ ∃ d, d < 8 ∧ sp8 d a = b) := by decide +kernel
/-! positions and levels -/
abbrev cP := Nat → Nat → Nat → Prop
def vB (F R k w m b : Nat) : Prop := on F R w ∧ on F R m ∧ on F R b ∧ w ≠ m ∧ w ≠ b ∧ m ≠ b ∧ ¬ nx w b ∧ (k = 1 → 0 < m / 8 ∧ m / 8 + 1 < R)
def vW (F R k w m b : Nat) : Prop := vB F R k w m b ∧ ¬ att k m b w
/-- black's king may go from b to t -/
def bgo (F R k w m b t : Nat) : Prop := nx b t ∧ on F R t ∧ t ≠ w ∧ ¬ nx t w ∧ (t = m ∨ ¬ att k m t w)
def cLB (F R k : Nat) (KB KW : cP) : cP := fun w m b => vB F R k w m b ∧ ¬ KB w m b ∧ (att k m b w ∨ ∃ t, bgo F R k w m b t) ∧ ∀ t, bgo F R k w m b t → t ≠ m ∧ KW w m t
def mst (F R k : Nat) (B pb : cP) : cP := fun w m b =>
  if k = 1 then B w (m + 8) b ∨ (m / 8 = 1 ∧ m + 8 ≠ w ∧ m + 8 ≠ b ∧ B w (m + 16) b) ∨ (m / 8 + 2 = R ∧ pb w (m + 8) b)
  else ∃ t, att k m t w ∧ t ≠ w ∧ B w t b
def cLW (F R k : Nat) (KW B pb : cP) : cP := fun w m b => vW F R k w m b ∧ ¬ KW w m b ∧ ((∃ v, nx w v ∧ B v m b) ∨ mst F R k B pb w m b)
def lv (F R k : Nat) (pb : Nat → cP) : Nat → cP × cP
  | 0 => (fun _ _ _ => False, fun _ _ _ => False)
  | h + 1 => (fun w m b => (lv F R k pb h).1 w m b ∨ cLB F R k (lv F R k pb h).1 (lv F R k pb h).2 w m b,
      fun w m b => (lv F R k pb h).2 w m b ∨ cLW F R k (lv F R k pb h).2 (cLB F R k (lv F R k pb h).1 (lv F R k pb h).2) (pb h) w m b)
def LB (F R k : Nat) (pb : Nat → cP) (h : Nat) : cP := cLB F R k (lv F R k pb h).1 (lv F R k pb h).2
def LW (F R k : Nat) (pb : Nat → cP) (h : Nat) : cP := cLW F R k (lv F R k pb h).2 (LB F R k pb h) (pb h)
def c0 : Nat → cP := fun _ _ _ _ => False
/-- what a pawn may become, by half distances; nothing for the others -/
def pbs (F R k : Nat) : Nat → cP := if k = 1 then fun h w m b => ∃ q, 2 ≤ q ∧ q ≤ 5 ∧ LB F R q c0 h w m b else c0
theorem lv_1 (F R k : Nat) (pb : Nat → cP) (h w m b : Nat) : (lv F R k pb (h + 1)).1 w m b ↔ (lv F R k pb h).1 w m b ∨ LB F R k pb h w m b := Iff.rfl
theorem lv_2 (F R k : Nat) (pb : Nat → cP) (h w m b : Nat) : (lv F R k pb (h + 1)).2 w m b ↔ (lv F R k pb h).2 w m b ∨ LW F R k pb h w m b := Iff.rfl
theorem lv_B {F R k : Nat} {pb : Nat → cP} : ∀ {h w m b : Nat}, (lv F R k pb h).1 w m b ↔ ∃ g, g < h ∧ LB F R k pb g w m b
  | 0, w, m, b => ⟨fun h => h.elim, fun ⟨g, h, _⟩ => absurd h (Nat.not_lt_zero g)⟩
  | h + 1, w, m, b => by
    rw [lv_1, lv_B]
    constructor
    · rintro (⟨g, h1, h2⟩ | h2)
      · exact ⟨g, by omega, h2⟩
      · exact ⟨h, by omega, h2⟩
    · rintro ⟨g, h1, h2⟩
      rcases Nat.lt_or_ge g h with h3 | h3
      · exact Or.inl ⟨g, h3, h2⟩
      · have : g = h := by omega
        subst this
        exact Or.inr h2
theorem lv_W {F R k : Nat} {pb : Nat → cP} : ∀ {h w m b : Nat}, (lv F R k pb h).2 w m b ↔ ∃ g, g < h ∧ LW F R k pb g w m b
  | 0, w, m, b => ⟨fun h => h.elim, fun ⟨g, h, _⟩ => absurd h (Nat.not_lt_zero g)⟩
  | h + 1, w, m, b => by
    rw [lv_2, lv_W]
    constructor
    · rintro (⟨g, h1, h2⟩ | h2)
      · exact ⟨g, by omega, h2⟩
      · exact ⟨h, by omega, h2⟩
    · rintro ⟨g, h1, h2⟩
      rcases Nat.lt_or_ge g h with h3 | h3
      · exact Or.inl ⟨g, h3, h2⟩
      · have : g = h := by omega
        subst this
        exact Or.inr h2
theorem LB_v {F R k : Nat} {pb : Nat → cP} {h w m b : Nat} (q : LB F R k pb h w m b) : vB F R k w m b := q.1
theorem LW_v {F R k : Nat} {pb : Nat → cP} {h w m b : Nat} (q : LW F R k pb h w m b) : vW F R k w m b := q.1
/-- a position has one distance -/
theorem LB_one {F R k : Nat} {pb : Nat → cP} {g h w m b : Nat} (p : LB F R k pb g w m b) (q : LB F R k pb h w m b) : g = h := by
  rcases Nat.lt_trichotomy g h with h1 | h1 | h1
  · exact absurd (lv_B.mpr ⟨g, h1, p⟩) q.2.1
  · exact h1
  · exact absurd (lv_B.mpr ⟨h, h1, q⟩) p.2.1
theorem LW_one {F R k : Nat} {pb : Nat → cP} {g h w m b : Nat} (p : LW F R k pb g w m b) (q : LW F R k pb h w m b) : g = h := by
  rcases Nat.lt_trichotomy g h with h1 | h1 | h1
  · exact absurd (lv_W.mpr ⟨g, h1, p⟩) q.2.1
  · exact h1
  · exact absurd (lv_W.mpr ⟨h, h1, q⟩) p.2.1
theorem LW_none {F R k : Nat} {pb : Nat → cP} {h : Nat} (hB : ∀ w m b, ¬ LB F R k pb h w m b) (hp : ∀ w m b, ¬ pb h w m b) : ∀ w m b, ¬ LW F R k pb h w m b := by
  rintro w m b ⟨-, -, ⟨v, -, q⟩ | q⟩
  · exact hB _ _ _ q
  · unfold mst at q
    split at q
    · rcases q with q | q | q
      · exact hB _ _ _ q
      · exact hB _ _ _ q.2.2.2
      · exact hp _ _ _ q.2
    · obtain ⟨t, -, -, q⟩ := q
      exact hB _ _ _ q
theorem lv_c {F R k : Nat} {pb : Nat → cP} {h : Nat} (hB : ∀ w m b, ¬ LB F R k pb h w m b) (hp : ∀ g, h ≤ g → ∀ w m b, ¬ pb g w m b) : ∀ n, lv F R k pb (h + n) = lv F R k pb h
  | 0 => rfl
  | n + 1 => by
    have ih := lv_c hB hp n
    have e1 : LB F R k pb (h + n) = LB F R k pb h := by unfold LB; rw [ih]
    have hb : ∀ w m b, ¬ LB F R k pb (h + n) w m b := by rw [e1]; exact hB
    have hw := LW_none hb (hp (h + n) (by omega))
    refine Prod.ext ?_ ?_
    · funext w m b
      apply propext
      show (lv F R k pb ((h + n) + 1)).1 w m b ↔ _
      rw [lv_1, ih]
      exact ⟨fun q => q.elim id (fun q => absurd q (hb _ _ _)), Or.inl⟩
    · funext w m b
      apply propext
      show (lv F R k pb ((h + n) + 1)).2 w m b ↔ _
      rw [lv_2, ih]
      exact ⟨fun q => q.elim id (fun q => absurd q (hw _ _ _)), Or.inl⟩
/-- where black finds nothing and no pawn becomes anything, nothing is found any more -/
theorem lv_end {F R k : Nat} {pb : Nat → cP} {h : Nat} (hB : ∀ w m b, ¬ LB F R k pb h w m b) (hp : ∀ g, h ≤ g → ∀ w m b, ¬ pb g w m b) : ∀ g, h ≤ g → (∀ w m b, ¬ LB F R k pb g w m b) ∧ ∀ w m b, ¬ LW F R k pb g w m b := by
  intro g hg
  obtain ⟨n, rfl⟩ := Nat.exists_eq_add_of_le hg
  have e1 : LB F R k pb (h + n) = LB F R k pb h := by unfold LB; rw [lv_c hB hp n]
  have hb : ∀ w m b, ¬ LB F R k pb (h + n) w m b := by rw [e1]; exact hB
  exact ⟨hb, LW_none hb (hp (h + n) (by omega))⟩
