/-! levels kept, looked up, promoted, and all of them -/
theorem GM.step {F R k d : Nat} {pb : Nat → cP} {v v' : Int32} (h : GM F R k pb d v) (e : ((∃ w m b, LD F R k pb d w m b) ∧ v' = nI d) ∨ ((¬ ∃ w m b, LD F R k pb d w m b) ∧ v' = v)) : GM F R k pb (d + 1) v' := by
  rcases e with ⟨⟨w, m, b, q⟩, rfl⟩ | ⟨q, rfl⟩
  · exact Or.inr ⟨d, by omega, rfl, fun z => z w m b q, fun e' h1 h2 => by omega⟩
  · have he : eD F R k pb d := fun w m b z => q ⟨w, m, b, z⟩
    rcases h with ⟨h1, h2⟩ | ⟨e, h1, h2, h3, h4⟩
    · refine Or.inl ⟨h1, fun e h => ?_⟩
      rcases Nat.lt_or_ge e d with z | z
      · exact h2 e z
      · have : e = d := by omega
        subst this
        exact he
    · refine Or.inr ⟨e, by omega, h2, h3, fun e' h5 h6 => ?_⟩
      rcases Nat.lt_or_ge e' d with z | z
      · exact h4 e' h5 z
      · have : e' = d := by omega
        subst this
        exact he
theorem GM.lt {F R k d : Nat} {pb : Nat → cP} {v : Int32} (h : GM F R k pb d v) (hd : d < 1000) : v < nI d := by
  rcases h with ⟨rfl, -⟩ | ⟨e, h1, rfl, -⟩
  · apply Int32.lt_iff_toInt_lt.mpr
    rw [nI_toInt (by omega)]
    have e1 : (-1 : Int32).toInt = -1 := by decide
    omega
  · exact (nI_ltI (by omega) (by omega)).mpr h1
section Solve
variable {F R n : Nat} {al ff lf : Int64} {sqf stf : Nat → Int32} {k : Nat} {pb : Nat → cP}
theorem c_keepFresh (hB : bd F R) (hn : n = F * R) {h : Nat} (hh : h < 32) {fr kn pl : Nat → Int64} {dp : Int32} (hf : RS F n 0 fr (LW F R k pb h)) (hk1 : RS F n (n * n) kn (lv F R k pb (h + 1)).1) (hk0 : RS F n 0 kn (lv F R k pb h).2) (hp1 : PS F n (n * n) pl (LB F R k pb) (h + 1)) (hp0 : PS F n 0 pl (LW F R k pb) h) (hG : GM F R k pb (2 * h + 1) dp) :
    let s := mX3_keepFresh (n * n) kn fr pl dp (nI h)
    RS F n (n * n) s.1 (lv F R k pb (h + 1)).1 ∧ RS F n 0 s.1 (lv F R k pb (h + 1)).2 ∧ PS F n (n * n) s.2.1 (LB F R k pb) (h + 1) ∧ PS F n 0 s.2.1 (LW F R k pb) (h + 1) ∧ GM F R k pb (2 * (h + 1)) s.2.2 := by
  have hn64 : n ≤ 64 := by rw [hn]; exact n_64 hB
  have hN := N_b hn64
  have hplies : mX3_pliesFor (0 : Int32) (nI h) = nI (2 * h + 1) := by
    unfold mX3_pliesFor
    rw [if_pos rfl, show (2 : Int32) = nI 2 from rfl, pk_mul, show (1 : Int32) = nI 1 from rfl, nI_add]
  have hdp := hG.lt (by omega)
  have key := loop1 (σ := (Nat → Int64) × (Nat → Int64) × Int32) (n := n * n) (fun k1 i1 s => mX3_keepFresh_L1 (n * n) fr (nI h) k1 i1 s.1 s.2.1 s.2.2)
    (fun i1 s => mX3_keep (n * n) s.1 s.2.1 s.2.2 (0 : Int32) (nI i1) (nI h) (mX3_at (2 * (n * n)) fr (nI i1)))
    (fun _ _ => by rw [mX3_keepFresh_L1]) (fun _ _ _ => by rw [mX3_keepFresh_L1])
    (fun T s => (∀ r, r < n * n → (r < T → ∀ c, c < 64 → (tb (s.1 r) c = true ↔ lc F n (lv F R k pb (h + 1)).2 r c)) ∧ (T ≤ r → s.1 r = kn r)) ∧ (∀ r, r < n * n → s.1 (n * n + r) = kn (n * n + r)) ∧ (∀ j, j < 5 → ∀ r, r < n * n → (r < T → ∀ c, c < 64 → (tb (s.2.1 (j * 2 * (n * n) + r)) c = true ↔ tb (pl (j * 2 * (n * n) + r)) c = true ∨ (h.testBit j = true ∧ lc F n (LW F R k pb h) r c))) ∧ (T ≤ r → s.2.1 (j * 2 * (n * n) + r) = pl (j * 2 * (n * n) + r)) ∧ s.2.1 (j * 2 * (n * n) + (n * n + r)) = pl (j * 2 * (n * n) + (n * n + r))) ∧ (((∃ r, r < n * n ∧ r < T ∧ ∃ c, c < 64 ∧ lc F n (LW F R k pb h) r c) ∧ s.2.2 = nI (2 * h + 1)) ∨ ((¬ ∃ r, r < n * n ∧ r < T ∧ ∃ c, c < 64 ∧ lc F n (LW F R k pb h) r c) ∧ s.2.2 = dp)))
    (fun T s hT hI => by
      obtain ⟨i3, i4, i5, i6⟩ := hI
      rw [c_at (show T < 2 * (n * n) by omega) (by omega)]
      have hL : ∀ c, c < 64 → (tb (fr T) c = true ↔ lc F n (LW F R k pb h) T c) := fun c hc => by
        have := hf T hT c hc
        rwa [Nat.zero_add] at this
      generalize fr T = lost at hL ⊢
      obtain ⟨k1, k2, k3, k4⟩ := c_keep (set := lost) (r := T) (h := h) hN (by omega) hh s.1 s.2.1 s.2.2 (0 : Int32)
      rw [k1, k4, hplies]
      have hz : lost = 0 ↔ ¬ ∃ c, c < 64 ∧ lc F n (LW F R k pb h) T c := by
        rw [tb_zero]
        constructor
        · rintro q ⟨c, hc, z⟩
          have := q c hc
          rw [(hL c hc).mpr z] at this
          cases this
        · intro q c hc
          cases z : tb lost c with
          | false => rfl
          | true => exact absurd ⟨c, hc, (hL c hc).mp z⟩ q
      have hpne : ∀ j j' r, r < n * n → r ≠ T → j' < 5 → j * 2 * (n * n) + r ≠ j' * 2 * (n * n) + T := by
        intro j j' r hr hne _ q
        rw [Nat.mul_assoc, Nat.mul_assoc] at q
        have := (dn_inj (n := 2 * (n * n)) (by omega) (by omega) q).2
        omega
      have hpne0 : ∀ j j' r, r < n * n → j' < 5 → j * 2 * (n * n) + (n * n + r) ≠ j' * 2 * (n * n) + T := by
        intro j j' r hr _ q
        rw [Nat.mul_assoc, Nat.mul_assoc] at q
        have := (dn_inj (n := 2 * (n * n)) (by omega) (by omega) q).2
        omega
      refine ⟨fun r hr => ⟨fun h1 c hc => ?_, fun h1 => ?_⟩, fun r hr => ?_, fun j hj r hr => ⟨fun h1 c hc => ?_, fun h1 => ?_, ?_⟩, ?_⟩
      · by_cases e : r = T
        · rw [e, pk_uLs, tb_or, Bool.or_eq_true, hL c hc, (i3 T hT).2 (Nat.le_refl _)]
          have := hk0 T hT c hc
          rw [Nat.zero_add] at this
          rw [this]
          unfold lc
          rw [lv_2]
          exact ⟨fun q => q.elim (fun z => ⟨z.1, Or.inl z.2⟩) (fun z => ⟨z.1, Or.inr z.2⟩), fun ⟨q1, q2⟩ => q2.elim (fun z => Or.inl ⟨q1, z⟩) (fun z => Or.inr ⟨q1, z⟩)⟩
        · rw [pk_uLn e]
          exact (i3 r hr).1 (by omega) c hc
      · rw [pk_uLn (by omega)]
        exact (i3 r hr).2 (by omega)
      · rw [pk_uLn (by omega)]
        exact i4 r hr
      · by_cases e : r = T
        · rw [e, k2 j hj, ((i5 j hj T hT).2.1 (Nat.le_refl _))]
          by_cases hb : h.testBit j = true
          · rw [if_pos hb, tb_or, Bool.or_eq_true, hL c hc]
            exact or_congr Iff.rfl ⟨fun z => ⟨hb, z⟩, fun z => z.2⟩
          · rw [if_neg hb]
            exact ⟨Or.inl, fun q => q.elim id (fun z => absurd z.1 hb)⟩
        · rw [k3 _ (fun j' hj' => hpne j j' r hr e hj')]
          exact (i5 j hj r hr).1 (by omega) c hc
      · rw [k3 _ (fun j' hj' => hpne j j' r hr (by omega) hj')]
        exact (i5 j hj r hr).2.1 (by omega)
      · rw [k3 _ (fun j' hj' => hpne0 j j' r hr hj')]
        exact (i5 j hj r hr).2.2
      · by_cases hl : lost = 0
        · rw [if_pos hl]
          have hno := hz.mp hl
          have e : (∃ r, r < n * n ∧ r < T + 1 ∧ ∃ c, c < 64 ∧ lc F n (LW F R k pb h) r c) ↔ ∃ r, r < n * n ∧ r < T ∧ ∃ c, c < 64 ∧ lc F n (LW F R k pb h) r c := by
            constructor
            · rintro ⟨r, q1, q2, q3⟩
              refine ⟨r, q1, ?_, q3⟩
              rcases Nat.lt_or_ge r T with z | z
              · exact z
              · have : r = T := by omega
                subst this
                exact absurd q3 hno
            · rintro ⟨r, q1, q2, q3⟩
              exact ⟨r, q1, by omega, q3⟩
          rw [e]
          exact i6
        · rw [if_neg hl]
          have hex : ∃ c, c < 64 ∧ lc F n (LW F R k pb h) T c := Classical.not_not.mp (fun q => hl (hz.mpr q))
          refine Or.inl ⟨⟨T, hT, by omega, hex⟩, ?_⟩
          rcases i6 with ⟨-, q⟩ | ⟨-, q⟩
          · rw [q]
            split <;> rfl
          · rw [q, if_pos hdp])
    (kn, pl, dp) ⟨fun r hr => ⟨fun h1 => by omega, fun _ => rfl⟩, fun r hr => rfl, fun j hj r hr => ⟨fun h1 => by omega, fun _ => rfl, rfl⟩, Or.inr ⟨fun ⟨r, q1, q2, _⟩ => by omega, rfl⟩⟩
  have hs : mX3_keepFresh (n * n) kn fr pl dp (nI h) = mX3_keepFresh_L1 (n * n) fr (nI h) (n * n) 0 kn pl dp := rfl
  rw [hs]
  dsimp only at key ⊢
  generalize mX3_keepFresh_L1 (n * n) fr (nI h) (n * n) 0 kn pl dp = s at key ⊢
  obtain ⟨i3, i4, i5, i6⟩ := key
  have hex : (∃ r, r < n * n ∧ r < n * n ∧ ∃ c, c < 64 ∧ lc F n (LW F R k pb h) r c) ↔ ∃ w m b, LD F R k pb (2 * h + 1) w m b := by
    rw [LD_o]
    constructor
    · rintro ⟨r, -, -, c, -, q⟩
      exact ⟨_, _, _, q.2⟩
    · rintro ⟨w, m, b, q⟩
      have hv := (LW_v q).1
      have h1 := sc_lt hB hv.1
      have h2 := sc_lt hB hv.2.1
      have h3 := sc_lt hB hv.2.2.1
      rw [← hn] at h1 h2 h3
      obtain ⟨e1, e2⟩ := r_dm (w := sc F w) h2
      refine ⟨sc F w * n + sc F m, r_lt h1 h2, r_lt h1 h2, sc F b, by omega, h3, ?_⟩
      rw [e1, e2, cs_sc hB hv.1, cs_sc hB hv.2.1, cs_sc hB hv.2.2.1]
      exact q
  rw [hex] at i6
  refine ⟨fun r hr c hc => by rw [i4 r hr]; exact hk1 r hr c hc, fun r hr c hc => by rw [Nat.zero_add]; exact (i3 r hr).1 hr c hc, fun j hj r hr c hc => by rw [(i5 j hj r hr).2.2]; exact hp1 j hj r hr c hc, fun j hj r hr c hc => ?_, hG.step i6⟩
  have h0 := hp0 j hj r hr c hc
  rw [Nat.zero_add] at h0
  rw [Nat.zero_add, (i5 j hj r hr).1 hr c hc, h0]
  constructor
  · rintro (⟨g, q1, q2, q3⟩ | ⟨q1, q2⟩)
    · exact ⟨g, by omega, q2, q3⟩
    · exact ⟨h, by omega, q1, q2⟩
  · rintro ⟨g, q1, q2, q3⟩
    rcases Nat.lt_or_ge g h with z | z
    · exact Or.inl ⟨g, z, q2, q3⟩
    · have : g = h := by omega
      subst this
      exact Or.inr ⟨q2, q3⟩
/-- what a row has of a half distance -/
theorem c_shr1 {d : Nat} (h : d < 2 ^ 31) : nI d >>> ((1 : Int32) &&& 31) = nI (d / 2) := pk_shrN h ((1 : Int32) &&& 31) 1 (by decide)
theorem bits5 {u v : Nat} (hu : u < 32) (hv : v < 32) (h : ∀ j, j < 5 → u.testBit j = v.testBit j) : u = v := by
  apply Nat.eq_of_testBit_eq
  intro i
  rcases Nat.lt_or_ge i 5 with h1 | h1
  · exact h i h1
  · rw [Nat.testBit_lt_two_pow (Nat.lt_of_lt_of_le (show u < 2 ^ 5 from hu) (Nat.pow_le_pow_right (by decide) h1)), Nat.testBit_lt_two_pow (Nat.lt_of_lt_of_le (show v < 2 ^ 5 from hv) (Nat.pow_le_pow_right (by decide) h1))]
theorem c_havL {o r : Nat} {pl : Nat → Int64} {L : Nat → cP} {d : Nat} (hn64 : n ≤ 64) (ho : o + n * n ≤ 2 * (n * n)) (hr : r < n * n) (hd : d < 64) (hp : PS F n o pl L 32) {c : Nat} (hc : c < 64) : ∀ (fu i : Nat) (set : Int64), i + fu = 5 → (tb (mX3_having_L1 (n * n) pl (nI (o + r)) (nI d) fu i set) c = true ↔ tb set c = true ∧ ∀ j, i ≤ j → j < 5 → ((d / 2).testBit j = true ↔ ∃ g, g < 32 ∧ g.testBit j = true ∧ lc F n (L g) r c))
  | 0, i, set, hi => by
    rw [mX3_having_L1]
    exact ⟨fun q => ⟨q, fun j h1 h2 => by omega⟩, fun q => q.1⟩
  | fu + 1, i, set, hi => by
    have hN := N_b hn64
    have hlt : i * 2 * (n * n) + (o + r) < 10 * (n * n) := by
      have : i * 2 * (n * n) ≤ 8 * (n * n) := Nat.mul_le_mul_right (n * n) (show i * 2 ≤ 8 by omega)
      omega
    have hidx : (((nI i) * (2 : Int32)) * (nI (n * n))) + nI (o + r) = nI (i * 2 * (n * n) + (o + r)) := by
      rw [show (2 : Int32) = nI 2 from rfl, pk_mul, pk_mul, nI_add]
    rw [mX3_having_L1, hidx, c_at hlt (by omega), c_shr1 (by omega)]
    have hpl := hp i (by omega) r hr c hc
    have hb := c_bit (d / 2) (by omega) i (by omega)
    have split' : (∀ j, i ≤ j → j < 5 → ((d / 2).testBit j = true ↔ ∃ g, g < 32 ∧ g.testBit j = true ∧ lc F n (L g) r c)) ↔ ((d / 2).testBit i = true ↔ ∃ g, g < 32 ∧ g.testBit i = true ∧ lc F n (L g) r c) ∧ ∀ j, i + 1 ≤ j → j < 5 → ((d / 2).testBit j = true ↔ ∃ g, g < 32 ∧ g.testBit j = true ∧ lc F n (L g) r c) := by
      constructor
      · intro q
        exact ⟨q i (Nat.le_refl _) (by omega), fun j h1 h2 => q j (by omega) h2⟩
      · rintro ⟨q1, q2⟩ j h1 h2
        rcases Nat.lt_or_ge i j with z | z
        · exact q2 j z h2
        · have : j = i := by omega
          subst this
          exact q1
    by_cases hbi : (d / 2).testBit i = true
    · rw [if_pos (hb.mpr hbi), c_havL hn64 ho hr hd hp hc fu (i + 1) _ (by omega), tb_and, Bool.and_eq_true, hpl, split']
      constructor
      · rintro ⟨⟨q1, q2⟩, q3⟩
        exact ⟨q1, ⟨fun _ => q2, fun _ => hbi⟩, q3⟩
      · rintro ⟨q1, q2, q3⟩
        exact ⟨⟨q1, q2.mp hbi⟩, q3⟩
    · rw [if_neg (fun q => hbi (hb.mp q)), c_havL hn64 ho hr hd hp hc fu (i + 1) _ (by omega), tb_and, Bool.and_eq_true, tb_not _ hc, Bool.not_eq_true', split']
      have hpl2 : tb (pl (i * 2 * (n * n) + (o + r))) c = false ↔ ¬ ∃ g, g < 32 ∧ g.testBit i = true ∧ lc F n (L g) r c := by
        rw [← hpl]; simp
      rw [hpl2]
      constructor
      · rintro ⟨⟨q1, q2⟩, q3⟩
        exact ⟨q1, ⟨fun z => absurd z hbi, fun z => absurd z q2⟩, q3⟩
      · rintro ⟨q1, q2, q3⟩
        exact ⟨⟨q1, fun z => hbi (q2.mpr z)⟩, q3⟩
theorem c_havN {o r : Nat} {kn pl : Nat → Int64} {L : Nat → cP} {d : Nat} (hn64 : n ≤ 64) (ho : o + n * n ≤ 2 * (n * n)) (hr : r < n * n) (hd : d < 64) (hk : RS F n o kn (fun w m b => ∃ g, g < 32 ∧ L g w m b)) (hp : PS F n o pl L 32) (one : ∀ g g' w m b, L g w m b → L g' w m b → g = g') {c : Nat} (hc : c < 64) : tb (mX3_having_L1 (n * n) pl (nI (o + r)) (nI d) 5 0 (mX3_at (2 * (n * n)) kn (nI (o + r)))) c = true ↔ lc F n (L (d / 2)) r c := by
  have hN := N_b hn64
  rw [c_havL hn64 ho hr hd hp hc 5 0 _ rfl, c_at (by omega) (by omega), hk r hr c hc]
  constructor
  · rintro ⟨⟨hcn, g, hg, hl⟩, q⟩
    have : g = d / 2 := by
      apply bits5 hg (by omega)
      intro j hj
      have hq := q j (Nat.zero_le _) hj
      cases z : g.testBit j with
      | true =>
        rw [hq.mpr ⟨g, hg, z, hcn, hl⟩]
      | false =>
        cases z2 : (d / 2).testBit j with
        | false => rfl
        | true =>
          obtain ⟨g', h1, h2, h3⟩ := hq.mp z2
          have := one g g' _ _ _ hl h3.2
          subst this
          rw [z] at h2
          cases h2
    subst this
    exact ⟨hcn, hl⟩
  · rintro ⟨hcn, hl⟩
    refine ⟨⟨hcn, d / 2, by omega, hl⟩, fun j _ hj => ⟨fun z => ⟨d / 2, by omega, z, hcn, hl⟩, fun ⟨g, h1, h2, h3⟩ => ?_⟩⟩
    have := one g (d / 2) _ _ _ h3.2 hl
    subst this
    exact h2
end Solve
