/-! rows of the class's tables: a long for two cells -/
theorem loop2 {σ : Type} {n : Nat} (L2 : Nat → Nat → Nat → σ → σ) (L1 : Nat → Nat → σ → σ) (f : Nat → Nat → σ → σ) (h20 : ∀ i1 i2 s, L2 i1 0 i2 s = s) (h21 : ∀ i1 k i2 s, L2 i1 (k + 1) i2 s = L2 i1 k (i2 + 1) (f i1 i2 s)) (h10 : ∀ i1 s, L1 0 i1 s = s) (h11 : ∀ k i1 s, L1 (k + 1) i1 s = L1 k (i1 + 1) (L2 i1 n 0 s)) (I : Nat → σ → Prop) (hI : ∀ w m s, w < n → m < n → I (w * n + m) s → I (w * n + m + 1) (f w m s)) : ∀ s, I 0 s → I (n * n) (L1 n 0 s) := by
  have a2 : ∀ w, w < n → ∀ k i s, i + k = n → I (w * n + i) s → I (w * n + n) (L2 w k i s) := by
    intro w hw k
    induction k with
    | zero =>
      intro i s h hs
      rw [h20]
      rw [show i = n by omega] at hs
      exact hs
    | succ k ih =>
      intro i s h hs
      rw [h21]
      exact ih (i + 1) _ (by omega) (hI w i s hw (by omega) hs)
  have a1 : ∀ k i s, i + k = n → I (i * n) s → I (n * n) (L1 k i s) := by
    intro k
    induction k with
    | zero =>
      intro i s h hs
      rw [h10]
      rw [show i = n by omega] at hs
      exact hs
    | succ k ih =>
      intro i s h hs
      rw [h11]
      have h1 := a2 i (by omega) n 0 s (by omega) hs
      rw [show i * n + n = (i + 1) * n by rw [Nat.add_mul, Nat.one_mul]] at h1
      exact ih (i + 1) _ (by omega) h1
  intro s hs
  exact a1 n 0 s (by omega) (by rw [Nat.zero_mul]; exact hs)
theorem loop1 {σ : Type} {n : Nat} (L : Nat → Nat → σ → σ) (f : Nat → σ → σ) (h0 : ∀ i s, L 0 i s = s) (h1 : ∀ k i s, L (k + 1) i s = L k (i + 1) (f i s)) (I : Nat → σ → Prop) (hI : ∀ i s, i < n → I i s → I (i + 1) (f i s)) : ∀ s, I 0 s → I n (L n 0 s) := by
  have a1 : ∀ k i s, i + k = n → I i s → I n (L k i s) := by
    intro k
    induction k with
    | zero =>
      intro i s h hs
      rw [h0]
      rw [show i = n by omega] at hs
      exact hs
    | succ k ih =>
      intro i s h hs
      rw [h1]
      exact ih (i + 1) _ (by omega) (hI i s (by omega) hs)
  intro s hs
  exact a1 n 0 s (by omega) hs
theorem r_dm {n w m : Nat} (hm : m < n) : (w * n + m) / n = w ∧ (w * n + m) % n = m := by
  rw [show w * n + m = m + n * w by rw [Nat.mul_comm]; omega]
  exact ⟨(cell_d hm).2, (cell_d hm).1⟩
theorem r_lt {n w m : Nat} (hw : w < n) (hm : m < n) : w * n + m < n * n := by
  have := cell_lt (F := n) (R := n) hm hw
  rw [Nat.mul_comm n w] at this
  omega
theorem N_b {n : Nat} (h : n ≤ 64) : n * n ≤ 4096 := Nat.mul_le_mul h h
theorem c_row (N n who w m : Nat) : mX3_rowOf N n (nI who) (nI w) (nI m) = nI (who * N + (w * n + m)) := by
  unfold mX3_rowOf
  rw [pk_mul, pk_mul, nI_add, nI_add, Nat.add_assoc]
theorem c_row0 (N n w m : Nat) : mX3_rowOf N n (0 : Int32) (nI w) (nI m) = nI (w * n + m) := by
  have := c_row N n 0 w m
  rw [Nat.zero_mul, Nat.zero_add] at this
  exact this
theorem c_row1 (N n w m : Nat) : mX3_rowOf N n (1 : Int32) (nI w) (nI m) = nI (N + (w * n + m)) := by
  have := c_row N n 1 w m
  rw [Nat.one_mul] at this
  exact this
theorem c_at {an r : Nat} {af : Nat → Int64} (hr : r < an) (ha : an < 2 ^ 31) : mX3_at an af (nI r) = af r := by
  unfold mX3_at
  rw [if_neg (nI_pos (by omega)), if_pos (nI_lt hr ha), nI_clamp (by omega)]
theorem c_put {an r : Nat} {af : Nat → Int64} {x : Int64} (hr : r < an) (ha : an < 2 ^ 31) : mX3_put an af (nI r) x = vp_updL af r x := by
  unfold mX3_put
  rw [if_neg (nI_pos (by omega)), if_neg (nI_ge hr ha), nI_clamp (by omega)]
theorem c_add {an r : Nat} {af : Nat → Int64} {x : Int64} (hr : r < an) (ha : an < 2 ^ 31) : mX3_add an af (nI r) x = vp_updL af r (af r ||| x) := by
  unfold mX3_add
  rw [if_neg (nI_pos (by omega)), if_neg (nI_ge hr ha), nI_clamp (by omega)]
/-- a set of positions by row and cell -/
def lc (F n : Nat) (L : cP) (r c : Nat) : Prop := c < n ∧ L (cs F (r / n)) (cs F (r % n)) (cs F c)
/-- rows that hold a set -/
def RS (F n o : Nat) (a : Nat → Int64) (L : cP) : Prop := ∀ r, r < n * n → ∀ c, c < 64 → (tb (a (o + r)) c = true ↔ lc F n L r c)
section ClRow
variable {F R n : Nat} {al ff lf : Int64} {sqf stf : Nat → Int32}
theorem c_fillValid (hD : BD F R n al ff lf sqf stf) {k : Nat} (hk : k < 6) (hk1 : 1 ≤ k) (vd : Nat → Int64) : RS F n (n * n) (mX3_fillValid (nI k) (n * n) vd (nI F) (nI R) n al ff lf sqf stf) (vB F R k) ∧ RS F n 0 (mX3_fillValid (nI k) (n * n) vd (nI F) (nI R) n al ff lf sqf stf) (vW F R k) := by
  have hn64 := hD.n64
  have hN := N_b hn64
  have key := loop2 (σ := Nat → Int64) (n := n) (fun i1 k2 i2 s => mX3_fillValid_L2 (nI k) (n * n) (nI F) (nI R) n al ff lf sqf stf i1 k2 i2 s) (fun k1 i1 s => mX3_fillValid_L1 (nI k) (n * n) (nI F) (nI R) n al ff lf sqf stf k1 i1 s)
    (fun i1 i2 vd2 => mX3_put (2 * (n * n)) (mX3_put (2 * (n * n)) vd2 (mX3_rowOf (n * n) n (1 : Int32) (nI i1) (nI i2)) (mX0_roomForBlack (nI F) (nI R) n al ff lf sqf (nI k) (nI i1) (nI i2))) (mX3_rowOf (n * n) n (0 : Int32) (nI i1) (nI i2)) ((mX0_roomForBlack (nI F) (nI R) n al ff lf sqf (nI k) (nI i1) (nI i2)) &&& ((mX0_attacked n stf (nI k) (nI i2) (mX0_bit (nI i1))) ^^^ (-1 : Int64))))
    (fun _ _ _ => by rw [mX3_fillValid_L2]) (fun _ _ _ _ => by rw [mX3_fillValid_L2]) (fun _ _ => by rw [mX3_fillValid_L1]) (fun _ _ _ => by rw [mX3_fillValid_L1])
    (fun T s => ∀ r, r < n * n → r < T → ∀ c, c < 64 → (tb (s (n * n + r)) c = true ↔ lc F n (vB F R k) r c) ∧ (tb (s r) c = true ↔ lc F n (vW F R k) r c))
    (fun w m s hw hm h r hr hrT c hc => by
      have hrow := r_lt hw hm
      obtain ⟨e1, e2⟩ := r_dm (w := w) hm
      rw [c_row1, c_row0, c_put (show n * n + (w * n + m) < 2 * (n * n) by omega) (by omega), c_put (show w * n + m < 2 * (n * n) by omega) (by omega)]
      rcases Nat.lt_or_ge r (w * n + m) with z | z
      · rw [pk_uLn (by omega), pk_uLn (by omega), pk_uLn (by omega), pk_uLn (by omega)]
        exact h r hr z c hc
      · have : r = w * n + m := by omega
        subst this
        have hroom := c_room hD hk hk1 hw hm hc
        have hatt := c_att hD hk hm hw hc
        have hB : tb (mX0_roomForBlack (nI F) (nI R) n al ff lf sqf (nI k) (nI w) (nI m)) c = true ↔ lc F n (vB F R k) (w * n + m) c := by
          rw [hroom]
          unfold lc
          rw [e1, e2]
        constructor
        · rw [pk_uLn (by omega), pk_uLs]
          exact hB
        · rw [pk_uLs, tb_and, Bool.and_eq_true, tb_not _ hc, hroom, Bool.not_eq_true']
          unfold lc vW
          rw [e1, e2]
          constructor
          · rintro ⟨⟨h1, h2⟩, h3⟩
            refine ⟨h1, h2, fun q => ?_⟩
            rw [hatt.mpr ⟨h1, q⟩] at h3
            cases h3
          · rintro ⟨h1, h2, h3⟩
            refine ⟨⟨h1, h2⟩, ?_⟩
            cases q : tb (mX0_attacked n stf (nI k) (nI m) (mX0_bit (nI w))) c with
            | false => rfl
            | true => exact absurd (hatt.mp q).2 h3) vd (fun r _ h => by omega)
  unfold mX3_fillValid
  refine ⟨fun r hr c hc => (key r hr hr c hc).1, fun r hr c hc => ?_⟩
  rw [Nat.zero_add]
  exact (key r hr hr c hc).2
/-- black's positions of a row that are lost now -/
theorem c_lost (hD : BD F R n al ff lf sqf stf) {k : Nat} {KB KW : cP} {vd kn : Nat → Int64} {w m : Nat} (hw : w < n) (hm : m < n) (hv1 : RS F n (n * n) vd (vB F R k)) (hv0 : RS F n 0 vd (vW F R k)) (hk1 : ∀ c, c < 64 → (tb (kn (n * n + (w * n + m))) c = true ↔ lc F n KB (w * n + m) c)) (hk0 : ∀ c, c < 64 → (tb (kn (w * n + m)) c = true ↔ lc F n KW (w * n + m) c)) (hKW : ∀ w m b, KW w m b → vW F R k w m b) {c : Nat} (hc : c < 64) : tb (mX3_lostIn (n * n) vd kn (nI F) n al ff lf (nI w) (nI m)) c = true ↔ lc F n (cLB F R k KB KW) (w * n + m) c := by
  have hB := hD.1
  have hn := hD.2.1
  have hn64 := hD.n64
  have hN := N_b hn64
  have hrow := r_lt hw hm
  obtain ⟨e1, e2⟩ := r_dm (w := w) hm
  have hR : R ≤ 8 := by omega
  have a1 : ∀ c, c < 64 → (tb (vd (n * n + (w * n + m))) c = true ↔ c < n ∧ vB F R k (cs F w) (cs F m) (cs F c)) := fun c hc => by
    have := hv1 _ hrow c hc
    unfold lc at this
    rwa [e1, e2] at this
  have a0 : ∀ c, c < 64 → (tb (vd (w * n + m)) c = true ↔ c < n ∧ vW F R k (cs F w) (cs F m) (cs F c)) := fun c hc => by
    have := hv0 _ hrow c hc
    unfold lc at this
    rwa [e1, e2, Nat.zero_add] at this
  have b1 : ∀ c, c < 64 → (tb (kn (n * n + (w * n + m))) c = true ↔ c < n ∧ KB (cs F w) (cs F m) (cs F c)) := fun c hc => by
    have := hk1 c hc
    unfold lc at this
    rwa [e1, e2] at this
  have b0 : ∀ c, c < 64 → (tb (kn (w * n + m)) c = true ↔ c < n ∧ KW (cs F w) (cs F m) (cs F c)) := fun c hc => by
    have := hk0 c hc
    unfold lc at this
    rwa [e1, e2] at this
  unfold lc
  rw [e1, e2]
  unfold mX3_lostIn
  rw [c_row0, nI_add, c_at (show n * n + (w * n + m) < 2 * (n * n) by omega) (by omega), c_at (show n * n + (w * n + m) < 2 * (n * n) by omega) (by omega), c_at (show w * n + m < 2 * (n * n) by omega) (by omega), c_at (show w * n + m < 2 * (n * n) by omega) (by omega)]
  generalize vd (n * n + (w * n + m)) = V1 at a1 ⊢
  generalize vd (w * n + m) = V0 at a0 ⊢
  generalize kn (n * n + (w * n + m)) = K1 at b1 ⊢
  generalize kn (w * n + m) = K0 at b0 ⊢
  have hT : ∀ j, j < 64 → (tb (V0 ||| (mX0_bit (nI m) &&& ((mX0_around (nI F) al ff lf (nI w)) ^^^ (-1 : Int64)))) j = true ↔ (j < n ∧ vW F R k (cs F w) (cs F m) (cs F j)) ∨ (j = m ∧ ¬ nx (cs F w) (cs F m))) := by
    intro j hj
    rw [tb_or, Bool.or_eq_true, a0 j hj, tb_and, Bool.and_eq_true, tb_bit (by omega), decide_eq_true_eq, tb_not _ hj]
    refine or_congr Iff.rfl ?_
    constructor
    · rintro ⟨h1, h2⟩
      subst h1
      refine ⟨rfl, fun q => ?_⟩
      rw [(c_around hD hw hj).mpr ⟨hm, q⟩] at h2
      cases h2
    · rintro ⟨h1, h2⟩
      subst h1
      refine ⟨rfl, ?_⟩
      cases q : tb (mX0_around (nI F) al ff lf (nI w)) j with
      | false => rfl
      | true => exact absurd ((c_around hD hw hj).mp q).2 h2
  generalize (V0 ||| (mX0_bit (nI m) &&& ((mX0_around (nI F) al ff lf (nI w)) ^^^ (-1 : Int64)))) = TG at hT ⊢
  have hTn : ∀ j, tb TG j = true → j < n := by
    intro j h
    rcases (hT j (tb_lt h)).mp h with q | q
    · exact q.1
    · omega
  have hE : ∀ j, j < 64 → (tb (TG &&& (K0 ^^^ (-1 : Int64))) j = true ↔ tb TG j = true ∧ ¬ KW (cs F w) (cs F m) (cs F j)) := by
    intro j hj
    rw [tb_and, Bool.and_eq_true, tb_not _ hj]
    refine and_congr_right (fun h => ?_)
    have hjn := hTn j h
    constructor
    · intro q z
      rw [(b0 j hj).mpr ⟨hjn, z⟩] at q
      cases q
    · intro q
      cases z : tb K0 j with
      | false => rfl
      | true => exact absurd ((b0 j hj).mp z).2 q
  have hEn : ∀ j, tb (TG &&& (K0 ^^^ (-1 : Int64))) j = true → j < n := fun j h => hTn j ((hE j (tb_lt h)).mp h).1
  have hnE := c_nextTo hD hEn hc
  have hnT := c_nextTo hD hTn hc
  -- targets of a position of the row
  have hbg : ∀ b, vB F R k (cs F w) (cs F m) b → ∀ j, j < n → (bgo F R k (cs F w) (cs F m) b (cs F j) ↔ nx (cs F j) b ∧ tb TG j = true) := by
    intro b hvb j hj
    rw [hT j (by omega)]
    constructor
    · rintro ⟨h1, h2, h3, h4, h5⟩
      refine ⟨nx_sym h1, ?_⟩
      by_cases hjm : cs F j = cs F m
      · have := cs_inj hB (by omega) (by omega) hjm
        subst this
        exact Or.inr ⟨rfl, fun z => h4 (nx_sym z)⟩
      · exact Or.inl ⟨hj, ⟨hvb.1, hvb.2.1, h2, hvb.2.2.2.1, fun z => h3 z.symm, fun z => hjm z.symm, fun z => h4 (nx_sym z), hvb.2.2.2.2.2.2.2⟩, h5.resolve_left hjm⟩
    · rintro ⟨h1, h2⟩
      rcases h2 with ⟨-, h3, h4⟩ | ⟨h3, h4⟩
      · exact ⟨nx_sym h1, h3.2.2.1, fun z => h3.2.2.2.2.1 z.symm, fun z => h3.2.2.2.2.2.2.1 (nx_sym z), Or.inr h4⟩
      · subst h3
        exact ⟨nx_sym h1, hvb.2.1, fun z => hvb.2.2.2.1 z.symm, fun z => h4 (nx_sym z), Or.inl rfl⟩
  rw [tb_and, tb_and, tb_and, tb_or, tb_and, tb_not _ hc, tb_not _ hc, tb_not _ hc]
  simp only [Bool.and_eq_true, Bool.or_eq_true, Bool.not_eq_true']
  constructor
  · rintro ⟨⟨⟨h1, h2⟩, h3⟩, h4⟩
    obtain ⟨hcn, hvb⟩ := (a1 c hc).mp h1
    refine ⟨hcn, hvb, fun q => ?_, ?_, ?_⟩
    · rw [(b1 c hc).mpr ⟨hcn, q⟩] at h2
      cases h2
    · rcases h4 with ⟨-, h5⟩ | h5
      · left
        apply Classical.byContradiction
        intro q
        rw [(a0 c hc).mpr ⟨hcn, hvb, q⟩] at h5
        cases h5
      · right
        obtain ⟨-, j, hj, q1, q2⟩ := hnT.mp h5
        exact ⟨cs F j, (hbg _ hvb j hj).mpr ⟨q1, q2⟩⟩
    · intro t ht
      have hts := sc_lt hB ht.2.1
      have htc := cs_sc hB ht.2.1
      rw [← htc] at ht ⊢
      obtain ⟨q1, q2⟩ := (hbg _ hvb (sc F t) (by omega)).mp ht
      have hkw : KW (cs F w) (cs F m) (cs F (sc F t)) := by
        apply Classical.byContradiction
        intro q
        rw [hnE.mpr ⟨hcn, sc F t, by omega, q1, (hE _ (by omega)).mpr ⟨q2, q⟩⟩] at h3
        cases h3
      exact ⟨fun z => (hKW _ _ _ hkw).1.2.2.2.2.2.1 z.symm, hkw⟩
  · rintro ⟨hcn, hvb, h1, h2, h3⟩
    refine ⟨⟨⟨(a1 c hc).mpr ⟨hcn, hvb⟩, ?_⟩, ?_⟩, ?_⟩
    · cases q : tb K1 c with
      | false => rfl
      | true => exact absurd ((b1 c hc).mp q).2 h1
    · cases q : tb (mX0_nextTo (nI F) al ff lf (TG &&& (K0 ^^^ (-1 : Int64)))) c with
      | false => rfl
      | true =>
        obtain ⟨-, j, hj, q1, q2⟩ := hnE.mp q
        obtain ⟨q3, q4⟩ := (hE j (by omega)).mp q2
        exact absurd (h3 _ ((hbg _ hvb j hj).mpr ⟨q1, q3⟩)).2 q4
    · rcases h2 with h2 | ⟨t, ht⟩
      · left
        refine ⟨(a1 c hc).mpr ⟨hcn, hvb⟩, ?_⟩
        cases q : tb V0 c with
        | false => rfl
        | true => exact absurd h2 ((a0 c hc).mp q).2.2
      · right
        have hts := sc_lt hB ht.2.1
        have htc := cs_sc hB ht.2.1
        rw [← htc] at ht
        obtain ⟨q1, q2⟩ := (hbg _ hvb (sc F t) (by omega)).mp ht
        exact hnT.mpr ⟨hcn, sc F t, by omega, q1, q2⟩
end ClRow
