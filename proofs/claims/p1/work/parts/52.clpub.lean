/-! what the class tells of a solved table is what the reference tells of its own -/
/-- one side of a kind: the class's rows, the reference's bytes -/
def SD (F R k n who o : Nat) (vd kn pl T : Nat → Int64) (vP : cP) (L : Nat → cP) (dv : Nat → Nat) : Prop := RS F n o vd vP ∧ RS F n o kn (fun w m b => ∃ g, g < 32 ∧ L g w m b) ∧ PS F n o pl L 32 ∧ TF T k who L (fun g => dv g + 1) ∧ (∀ g w m b, L g w m b → g < 32 ∧ vP w m b) ∧ (∀ g g' w m b, L g w m b → L g' w m b → g = g') ∧ (∀ h, h < 40 → mX3_pliesFor (nI who) (nI h) = nI (dv h)) ∧ (∀ h, dv h / 2 = h) ∧ o = who * (n * n) ∧ who < 2 ∧ (∀ w m b, vP w m b → on F R w ∧ on F R m ∧ on F R b)
section Pub
variable {F R k n who o : Nat} {vd kn pl T : Nat → Int64} {vP : cP} {L : Nat → cP} {dv : Nat → Nat}
theorem BY_dec {v d : Nat} (hv : v < 256) (hd : d < 2 ^ 31) : nI v - 1 = nI d ↔ v = d + 1 := by
  constructor
  · intro h
    have h2 : nI v - 1 + 1 = nI d + 1 := by rw [h]
    rw [Int32.sub_add_cancel] at h2
    rcases Nat.lt_or_ge (d + 1) (2 ^ 31) with z | z
    · rw [show nI d + 1 = nI (d + 1) from nI_1 d] at h2
      exact (nI_eq (by omega) z).mp h2
    · have e : d = 2147483647 := by omega
      subst e
      exfalso
      have h3 : (nI 2147483647 : Int32) + 1 < 0 := by decide
      rw [← h2] at h3
      exact nI_pos (show v < 2 ^ 31 by omega) h3
  · intro h
    rw [h]
    exact nI_pred d
theorem c_haveG (hB : bd F R) (hn : n = F * R) (hS : SD F R k n who o vd kn pl T vP L dv) {r c : Nat} (hr : r < n * n) (hc : c < 64) (nn : Int32) : tb (mX3_having (n * n) vd kn pl (nI who) (nI (o + r)) nn) c = true ↔ lc F n (fun w m b => vP w m b ∧ nI (BY T (ix k who w m b)) - 1 = nn) r c := by
  have hn64 : n ≤ 64 := by rw [hn]; exact n_64 hB
  have hN := N_b hn64
  obtain ⟨hv, hk, hp, hT, hL, one, hpl, hdv, ho, hwho, hon⟩ := hS
  have hoN : o + n * n ≤ 2 * (n * n) := by
    have : who * (n * n) ≤ 1 * (n * n) := Nat.mul_le_mul_right _ (by omega)
    omega
  have a64 : ∀ w m b, vP w m b → w < 64 ∧ m < 64 ∧ b < 64 := fun w m b q => ⟨on64 (by omega) (hon w m b q).1, on64 (by omega) (hon w m b q).2.1, on64 (by omega) (hon w m b q).2.2⟩
  unfold mX3_having
  by_cases h1 : nn = -1
  · rw [if_pos h1, c_at (by omega) (by omega), c_at (by omega) (by omega), tb_and, Bool.and_eq_true, tb_not _ hc, Bool.not_eq_true', hv r hr c hc]
    have e2 : tb (kn (o + r)) c = false ↔ ¬ lc F n (fun w m b => ∃ g, g < 32 ∧ L g w m b) r c := by rw [← hk r hr c hc]; simp
    rw [e2, h1]
    unfold lc
    constructor
    · rintro ⟨⟨q1, q2⟩, q3⟩
      obtain ⟨b1, b2, b3⟩ := a64 _ _ _ q2
      have h0 := (hT _ _ _ b1 b2 b3).2 (fun g z => q3 ⟨q1, g, (hL g _ _ _ z).1, z⟩)
      refine ⟨q1, q2, ?_⟩
      rw [h0]
      decide
    · rintro ⟨q1, q2, q3⟩
      obtain ⟨b1, b2, b3⟩ := a64 _ _ _ q2
      refine ⟨⟨q1, q2⟩, fun ⟨_, g, _, z⟩ => ?_⟩
      rw [(hT _ _ _ b1 b2 b3).1 g z, show nI (dv g + 1) - 1 = nI (dv g) from nI_pred _] at q3
      have h2 := hdv g
      have h3 := (hL g _ _ _ z).1
      exact nI_pos (show dv g < 2 ^ 31 by omega) (by rw [q3]; decide)
  · rw [if_neg h1]
    have F0 : ¬ lc F n (fun w m b => vP w m b ∧ nI (BY T (ix k who w m b)) - 1 = nn) r c → (tb (0 : Int64) c = true ↔ lc F n (fun w m b => vP w m b ∧ nI (BY T (ix k who w m b)) - 1 = nn) r c) := fun q => by
      rw [tb_0]
      exact ⟨fun z => (by cases z), fun z => absurd z q⟩
    by_cases h2 : nn < 0
    · rw [if_pos h2]
      refine F0 (fun ⟨_, _, q⟩ => ?_)
      have hlt := BY_lt T (ix k who (cs F (r / n)) (cs F (r % n)) (cs F c))
      rcases Nat.eq_zero_or_pos (BY T (ix k who (cs F (r / n)) (cs F (r % n)) (cs F c))) with z | z
      · rw [z] at q
        exact h1 (by rw [← q]; decide)
      · obtain ⟨v, hv'⟩ : ∃ v, BY T (ix k who (cs F (r / n)) (cs F (r % n)) (cs F c)) = v + 1 := ⟨_, (Nat.succ_pred_eq_of_pos z).symm⟩
        rw [hv', show nI (v + 1) - 1 = nI v from nI_pred _] at q
        exact nI_pos (show v < 2 ^ 31 by omega) (by rw [q]; exact h2)
    · rw [if_neg h2]
      obtain ⟨d, hd, rfl⟩ := nI_of h2
      have hlv : lc F n (fun w m b => vP w m b ∧ nI (BY T (ix k who w m b)) - 1 = nI d) r c ↔ c < n ∧ (dv (d / 2) = d ∧ d / 2 < 32 ∧ L (d / 2) (cs F (r / n)) (cs F (r % n)) (cs F c)) := by
        unfold lc
        refine and_congr Iff.rfl ?_
        dsimp only
        rw [BY_dec (BY_lt _ _) hd]
        constructor
        · rintro ⟨q1, q2⟩
          obtain ⟨b1, b2, b3⟩ := a64 _ _ _ q1
          have hex : ∃ g, L g (cs F (r / n)) (cs F (r % n)) (cs F c) := by
            apply Classical.byContradiction
            intro z
            have := (hT _ _ _ b1 b2 b3).2 (fun g y => z ⟨g, y⟩)
            omega
          obtain ⟨g, hg⟩ := hex
          have h3 : BY T (ix k who (cs F (r / n)) (cs F (r % n)) (cs F c)) = dv g + 1 := (hT _ _ _ b1 b2 b3).1 g hg
          have h4 : dv g = d := by omega
          have h5 := hdv g
          rw [h4] at h5
          rw [h5]
          exact ⟨h4, (hL g _ _ _ hg).1, hg⟩
        · rintro ⟨q1, q2, q3⟩
          have hvp := (hL _ _ _ _ q3).2
          obtain ⟨b1, b2, b3⟩ := a64 _ _ _ hvp
          refine ⟨hvp, ?_⟩
          refine Eq.trans ((hT _ _ _ b1 b2 b3).1 _ q3) ?_
          show dv (d / 2) + 1 = d + 1
          rw [q1]
      rw [hlv, c_shr1 hd]
      by_cases h3 : 32 ≤ d / 2
      · rw [if_pos (by rw [show (32 : Int32) = nI 32 from rfl, nI_leI (by omega) (by omega)]; exact h3), tb_0]
        exact ⟨fun z => (by cases z), fun z => by omega⟩
      · rw [if_neg (by rw [show (32 : Int32) = nI 32 from rfl, nI_leI (by omega) (by omega)]; exact h3), hpl _ (by omega)]
        have hdv2 := hdv (d / 2)
        by_cases h4 : dv (d / 2) = d
        · rw [if_pos (by rw [h4]), c_havN hn64 hoN hr (by omega) hk hp one hc]
          unfold lc
          exact ⟨fun q => ⟨q.1, h4, by omega, q.2⟩, fun q => ⟨q.1, q.2.2.2⟩⟩
        · rw [if_neg (fun q => h4 ((nI_eq (by omega) (by omega)).mp q)), tb_0]
          exact ⟨fun z => (by cases z), fun z => absurd z.2.1 h4⟩
/-! a position's distance -/
theorem half_or : ∀ i, i < 5 → ∀ g, g < 32 → nI (g % 2 ^ i) ||| ((1 : Int32) <<< ((nI i) &&& 31)) = nI (g % 2 ^ i + 2 ^ i) := by decide +kernel
theorem half_st : ∀ i, i < 5 → ∀ g, g < 32 → g % 2 ^ (i + 1) = if g.testBit i = true then g % 2 ^ i + 2 ^ i else g % 2 ^ i := by decide +kernel
theorem c_pliesL (hn64 : n ≤ 64) (ho : o = who * (n * n)) (hwho : who < 2) {w m b g : Nat} (hw : w < n) (hm : m < n) (hb : b < n) (hg : g < 32) (hpl : ∀ j, j < 5 → (tb (pl (j * 2 * (n * n) + (o + (w * n + m)))) b = true ↔ g.testBit j = true)) : ∀ (fu i : Nat), i + fu = 5 → mX3_plies_L1 (n * n) pl n (nI who) (nI w) (nI m) (nI b) fu i (nI (g % 2 ^ i)) = nI g
  | 0, i, hi => by
    have : i = 5 := by omega
    subst this
    rw [mX3_plies_L1, Nat.mod_eq_of_lt hg]
  | fu + 1, i, hi => by
    have hN := N_b hn64
    have hrow := r_lt hw hm
    have hlt : i * 2 * (n * n) + (o + (w * n + m)) < 10 * (n * n) := by
      have h1 : i * 2 * (n * n) ≤ 8 * (n * n) := Nat.mul_le_mul_right (n * n) (show i * 2 ≤ 8 by omega)
      have h2 : who * (n * n) ≤ 1 * (n * n) := Nat.mul_le_mul_right _ (by omega)
      omega
    rw [mX3_plies_L1, c_row, ← ho, show (2 : Int32) = nI 2 from rfl, pk_mul, pk_mul, nI_add, c_at hlt (by omega)]
    have hst := half_st i (by omega) g hg
    have hp := hpl i (by omega)
    by_cases ht : g.testBit i = true
    · rw [if_neg (fun q => by
        have := (tb_andbit _ (show b < 64 by omega)).mp q
        rw [hp.mpr ht] at this
        cases this), half_or i (by omega) g hg]
      rw [if_pos ht] at hst
      rw [← hst]
      exact c_pliesL hn64 ho hwho hw hm hb hg hpl fu (i + 1) (by omega)
    · rw [if_pos ((tb_andbit _ (show b < 64 by omega)).mpr (by
        cases z : tb (pl (i * 2 * (n * n) + (o + (w * n + m)))) b with
        | false => rfl
        | true => exact absurd (hp.mp z) ht))]
      rw [if_neg ht] at hst
      rw [← hst]
      exact c_pliesL hn64 ho hwho hw hm hb hg hpl fu (i + 1) (by omega)
theorem c_pliesG (hB : bd F R) (hn : n = F * R) (hS : SD F R k n who o vd kn pl T vP L dv) {w m b : Nat} (hw : w < n) (hm : m < n) (hb : b < n) (hvp : vP (cs F w) (cs F m) (cs F b)) : mX3_plies (n * n) kn pl n (nI who) (nI w) (nI m) (nI b) = nI (BY T (ix k who (cs F w) (cs F m) (cs F b))) - 1 := by
  have hn64 : n ≤ 64 := by rw [hn]; exact n_64 hB
  have hN := N_b hn64
  have hrow := r_lt hw hm
  obtain ⟨e1, e2⟩ := r_dm (w := w) hm
  obtain ⟨hv, hk, hp, hT, hL, one, hpl, hdv, ho, hwho, hon⟩ := hS
  have hT' := hT (cs F w) (cs F m) (cs F b) (cs_64 hB (by omega)) (cs_64 hB (by omega)) (cs_64 hB (by omega))
  have hoN : o + (w * n + m) < 2 * (n * n) := by
    have : who * (n * n) ≤ 1 * (n * n) := Nat.mul_le_mul_right _ (by omega)
    omega
  have hkb := hk _ hrow b (by omega)
  unfold lc at hkb
  rw [e1, e2] at hkb
  unfold mX3_plies
  rw [c_row, ← ho, c_at hoN (by omega)]
  by_cases q : tb (kn (o + (w * n + m))) b = false
  · rw [if_pos ((tb_andbit _ (by omega)).mpr q)]
    rw [hT'.2 (fun g z => by
      rw [hkb.mpr ⟨hb, g, (hL g _ _ _ z).1, z⟩] at q
      cases q)]
    decide
  · rw [if_neg (fun z => q ((tb_andbit _ (by omega)).mp z))]
    have q2 : tb (kn (o + (w * n + m))) b = true := by
      cases z : tb (kn (o + (w * n + m))) b with
      | true => rfl
      | false => exact absurd z q
    obtain ⟨-, g, hg, hl⟩ := hkb.mp q2
    have hpl2 := c_pliesL (pl := pl) hn64 ho hwho hw hm hb hg (fun j hj => by
      have := hp j hj _ hrow b (by omega)
      unfold lc at this
      rw [e1, e2] at this
      rw [this]
      exact ⟨fun ⟨g', h1, h2, h3⟩ => by rw [one g g' _ _ _ hl h3.2]; exact h2, fun z => ⟨g, hg, z, hb, hl⟩⟩) 5 0 rfl
    rw [Nat.pow_zero, Nat.mod_one] at hpl2
    rw [show (0 : Int32) = nI 0 from rfl, hpl2, hpl g (by omega), hT'.1 g hl]
    exact (nI_pred _).symm
/-! counting -/
/-- the class's position t, and where the reference has it -/
def pT (F n t : Nat) : Nat := (cs F (t / 64 / n) * 64 + cs F (t / 64 % n)) * 64 + cs F (t % 64)
def pA (F n a : Nat) : Nat := (sc F (a / 4096) * n + sc F (a / 64 % 64)) * 64 + sc F (a % 64)
theorem cs_mono (hB : bd F R) {c c' : Nat} (hc : c < F * R) (hc' : c' < F * R) (h : c < c') : cs F c < cs F c' := by
  unfold cs
  refine c6 hB.1 hB.2.1 ?_ ?_ ?_ ?_ ?_ ?_ <;> (intro q; subst q; omega)
theorem isOne_t (hB : bd F R) (hk : k < 6) (hk1 : 1 ≤ k) (hwho : who < 2) {nn : Int32} {w m b : Nat} (hw : w < 64) (hm : m < 64) (hb : b < 64) : mX5_isOne (nI F) (nI R) T (nI k) (nI who) nn (nI ((w * 64 + m) * 64 + b)) = true ↔ (if who = 1 then vB F R k w m b else vW F R k w m b) ∧ nI (BY T (ix k who w m b)) - 1 = nn := by
  have ha : (w * 64 + m) * 64 + b < 262144 := by omega
  have e1 : nI ((w * 64 + m) * 64 + b) / (4096 : Int32) = nI w := by
    rw [show (4096 : Int32) = nI 4096 from rfl, pk_div (by omega) (by omega) (by omega), show ((w * 64 + m) * 64 + b) / 4096 = w by omega]
  have e2 : nI ((w * 64 + m) * 64 + b) / (64 : Int32) = nI (w * 64 + m) := by
    rw [show (64 : Int32) = nI 64 from rfl, pk_div (by omega) (by omega) (by omega), show ((w * 64 + m) * 64 + b) / 64 = w * 64 + m by omega]
  have e3 : nI (w * 64 + m) - nI (w * 64 + m) / (64 : Int32) * (64 : Int32) = nI m := by
    rw [show (64 : Int32) = nI 64 from rfl, pk_rem (by omega) (by omega) (by omega), show (w * 64 + m) % 64 = m by omega]
  have e4 : nI ((w * 64 + m) * 64 + b) - nI (w * 64 + m) * (64 : Int32) = nI b := by
    rw [show (64 : Int32) = nI 64 from rfl, pk_mul, pk_sub (by omega), show (w * 64 + m) * 64 + b - (w * 64 + m) * 64 = b by omega]
  unfold mX5_isOne
  rw [e1, e2, e3, e4]
  have hpos : mX5_isPosition (nI F) (nI R) (nI k) (nI w) (nI m) (nI b) (nI who) = true ↔ (if who = 1 then vB F R k w m b else vW F R k w m b) := by
    rcases (show who = 0 ∨ who = 1 by omega) with rfl | rfl
    · rw [show (nI 0 : Int32) = 0 from rfl, r_pos hB hk hk1 hw hm hb (Or.inl rfl), if_neg (by omega)]
      exact ⟨fun q => ⟨q.1, q.2.resolve_left (by decide)⟩, fun q => ⟨q.1, Or.inr q.2⟩⟩
    · rw [show (nI 1 : Int32) = 1 from rfl, r_pos hB hk hk1 hw hm hb (Or.inr rfl), if_pos rfl]
      exact ⟨fun q => q.1, fun q => ⟨q, Or.inl rfl⟩⟩
  have hon : (if who = 1 then vB F R k w m b else vW F R k w m b) → on F R w ∧ on F R m ∧ on F R b := by
    intro q
    split at q
    · exact ⟨q.1, q.2.1, q.2.2.1⟩
    · exact ⟨q.1.1, q.1.2.1, q.1.2.2.1⟩
  have F0 : ∀ {P : Prop}, ¬ P → ((false = true) ↔ P) := fun h => ⟨fun q => (by cases q), fun q => absurd q h⟩
  by_cases h1 : on F R w
  · rw [if_neg (by rw [zI_b0]; exact fun q => q ((r_sq F hB.2.1 R hB.2.2.2 w hw).mpr h1))]
    by_cases h2 : on F R m
    · rw [if_neg (by rw [zI_b0]; exact fun q => q ((r_sq F hB.2.1 R hB.2.2.2 m hm).mpr h2))]
      by_cases h3 : on F R b
      · rw [if_neg (by rw [zI_b0]; exact fun q => q ((r_sq F hB.2.1 R hB.2.2.2 b hb).mpr h3)), r_known hk hk1 hwho hw hm hb]
        by_cases h4 : nI (BY T (ix k who w m b)) - 1 = nn
        · rw [if_pos h4]
          by_cases h5 : mX5_isPosition (nI F) (nI R) (nI k) (nI w) (nI m) (nI b) (nI who) = true
          · rw [if_neg (by rw [zI_b0]; exact fun q => q h5)]
            exact ⟨fun _ => ⟨hpos.mp h5, h4⟩, fun _ => rfl⟩
          · rw [if_pos (by rw [zI_b0]; exact h5)]
            exact F0 (fun q => h5 (hpos.mpr q.1))
        · rw [if_neg h4]
          exact F0 (fun q => h4 q.2)
      · rw [if_pos (by rw [zI_b0]; exact fun q => h3 ((r_sq F hB.2.1 R hB.2.2.2 b hb).mp q))]
        exact F0 (fun q => h3 (hon q.1).2.2)
    · rw [if_pos (by rw [zI_b0]; exact fun q => h2 ((r_sq F hB.2.1 R hB.2.2.2 m hm).mp q))]
      exact F0 (fun q => h2 (hon q.1).2.1)
  · rw [if_pos (by rw [zI_b0]; exact fun q => h1 ((r_sq F hB.2.1 R hB.2.2.2 w hw).mp q))]
    exact F0 (fun q => h1 (hon q.1).1)
/-- the class's set of positions of a value, the reference's -/
def pC (n o : Nat) (vd kn pl : Nat → Int64) (who : Nat) (nn : Int32) (t : Nat) : Bool := tb (mX3_having (n * n) vd kn pl (nI who) (nI (o + t / 64)) nn) (t % 64)
def pR (F R k who : Nat) (T : Nat → Int64) (nn : Int32) (a : Nat) : Bool := mX5_isOne (nI F) (nI R) T (nI k) (nI who) nn (nI a)
theorem c_isoG (hB : bd F R) (hn : n = F * R) (hk : k < 6) (hk1 : 1 ≤ k) (hS : SD F R k n who o vd kn pl T vP L dv) (hvP : ∀ w m b, vP w m b ↔ if who = 1 then vB F R k w m b else vW F R k w m b) (nn : Int32) : ct (pC n o vd kn pl who nn) (n * n * 64) = ct (pR F R k who T nn) 262144 ∧ (∀ t, t < n * n * 64 → pC n o vd kn pl who nn t = true → ct (pC n o vd kn pl who nn) t = ct (pR F R k who T nn) (pT F n t) ∧ pT F n t < 262144 ∧ pR F R k who T nn (pT F n t) = true) ∧ ∀ a, a < 262144 → pR F R k who T nn a = true → ∃ t, t < n * n * 64 ∧ pC n o vd kn pl who nn t = true ∧ pT F n t = a := by
  have hn9 : 9 ≤ n := by rw [hn]; exact n_9 hB
  have hwho := hS.2.2.2.2.2.2.2.2.2.1
  have hon := hS.2.2.2.2.2.2.2.2.2.2
  have hc : ∀ t, t < n * n * 64 → (pC n o vd kn pl who nn t = true ↔ t % 64 < n ∧ (vP (cs F (t / 64 / n)) (cs F (t / 64 % n)) (cs F (t % 64)) ∧ nI (BY T (ix k who (cs F (t / 64 / n)) (cs F (t / 64 % n)) (cs F (t % 64)))) - 1 = nn)) := fun t ht => c_haveG hB hn hS (show t / 64 < n * n by omega) (Nat.mod_lt _ (by omega)) nn
  have hr : ∀ w m b, w < 64 → m < 64 → b < 64 → (pR F R k who T nn ((w * 64 + m) * 64 + b) = true ↔ vP w m b ∧ nI (BY T (ix k who w m b)) - 1 = nn) := fun w m b hw hm hb => by
    rw [hvP]
    exact isOne_t hB hk hk1 hwho hw hm hb
  have hwm : ∀ t, t < n * n * 64 → t / 64 / n < F * R ∧ t / 64 % n < F * R := fun t ht => ⟨by
    rw [← hn, Nat.div_lt_iff_lt_mul (by omega)]; omega, by rw [← hn]; exact Nat.mod_lt _ (by omega)⟩
  have h1 : ∀ t, t < n * n * 64 → pC n o vd kn pl who nn t = true → pT F n t < 262144 ∧ pR F R k who T nn (pT F n t) = true ∧ pA F n (pT F n t) = t := by
    intro t ht hp
    obtain ⟨q1, q2⟩ := (hc t ht).mp hp
    obtain ⟨a1, a2⟩ := hwm t ht
    have a3 : t % 64 < F * R := by omega
    have b1 := cs_64 hB a1
    have b2 := cs_64 hB a2
    have b3 := cs_64 hB a3
    refine ⟨by unfold pT; omega, (hr _ _ _ b1 b2 b3).mpr q2, ?_⟩
    unfold pA
    have e1 : pT F n t / 4096 = cs F (t / 64 / n) := by unfold pT; omega
    have e2 : pT F n t / 64 % 64 = cs F (t / 64 % n) := by unfold pT; omega
    have e3 : pT F n t % 64 = cs F (t % 64) := by unfold pT; omega
    rw [e1, e2, e3, sc_cs hB a1, sc_cs hB a2, sc_cs hB a3]
    have := Nat.mod_add_div (t / 64) n
    rw [Nat.mul_comm n] at this
    omega
  have h2 : ∀ a, a < 262144 → pR F R k who T nn a = true → pA F n a < n * n * 64 ∧ pC n o vd kn pl who nn (pA F n a) = true ∧ pT F n (pA F n a) = a := by
    intro a ha hp
    have ea : a = (a / 4096 * 64 + a / 64 % 64) * 64 + a % 64 := by omega
    have hp' := hp
    rw [ea] at hp'
    have q := (hr _ _ _ (by omega) (by omega) (by omega)).mp hp'
    obtain ⟨o1, o2, o3⟩ := hon _ _ _ q.1
    have l1 := sc_lt hB o1
    have l2 := sc_lt hB o2
    have l3 := sc_lt hB o3
    rw [← hn] at l1 l2 l3
    have hrow := r_lt l1 l2
    obtain ⟨f1, f2⟩ := r_dm (w := sc F (a / 4096)) l2
    have g3 : sc F (a % 64) < 64 := by
      have := n_64 hB
      omega
    have e1 : pA F n a / 64 = sc F (a / 4096) * n + sc F (a / 64 % 64) := by unfold pA; omega
    have e2 : pA F n a % 64 = sc F (a % 64) := by unfold pA; omega
    have hlt : pA F n a < n * n * 64 := by unfold pA; omega
    refine ⟨hlt, (hc _ hlt).mpr ?_, ?_⟩
    · rw [e1, e2, f1, f2, cs_sc hB o1, cs_sc hB o2, cs_sc hB o3]
      exact ⟨l3, q⟩
    · unfold pT
      rw [e1, e2, f1, f2, cs_sc hB o1, cs_sc hB o2, cs_sc hB o3]
      omega
  have hm : ∀ t t', t < n * n * 64 → t' < n * n * 64 → pC n o vd kn pl who nn t = true → pC n o vd kn pl who nn t' = true → t < t' → pT F n t < pT F n t' := by
    intro t t' ht ht' hp hp' hlt
    obtain ⟨a1, a2⟩ := hwm t ht
    obtain ⟨b1, b2⟩ := hwm t' ht'
    have a3 : t % 64 < F * R := by have := ((hc t ht).mp hp).1; omega
    have b3 : t' % 64 < F * R := by have := ((hc t' ht').mp hp').1; omega
    have c1 := cs_64 hB a1
    have c2 := cs_64 hB a2
    have c3 := cs_64 hB a3
    have c4 := cs_64 hB b1
    have c5 := cs_64 hB b2
    have c6' := cs_64 hB b3
    unfold pT
    rcases Nat.lt_trichotomy (t / 64) (t' / 64) with z | z | z
    · have d1 := Nat.mod_add_div (t / 64) n
      have d2 := Nat.mod_add_div (t' / 64) n
      rcases Nat.lt_trichotomy (t / 64 / n) (t' / 64 / n) with y | y | y
      · have := cs_mono hB a1 b1 y
        omega
      · rw [y] at d1 ⊢
        have := cs_mono hB a2 b2 (by omega)
        omega
      · exfalso
        have h3 := Nat.mul_le_mul_left n (show t' / 64 / n + 1 ≤ t / 64 / n from y)
        rw [Nat.mul_add, Nat.mul_one] at h3
        have := Nat.mod_lt (t' / 64) (show 0 < n by omega)
        omega
    · rw [z]
      have := cs_mono hB a3 b3 (by omega)
      omega
    · omega
  obtain ⟨i1, i2⟩ := ct_iso (pT F n) (pA F n) h1 h2 hm
  exact ⟨i1, fun t ht hp => ⟨i2 t ht hp, (h1 t ht hp).1, (h1 t ht hp).2.1⟩, fun a ha hp => ⟨_, h2 a ha hp⟩⟩
end Pub
