/-! what is kept of a level; black's levels -/
theorem c_bit : ∀ h, h < 32 → ∀ i, i < 5 → (((nI h >>> ((nI i) &&& 31)) &&& (1 : Int32)) = 1 ↔ h.testBit i = true) := by decide +kernel
section Keep
variable {N r h : Nat} {set : Int64}
theorem c_keepL (hN : N ≤ 4096) (hr : r < 2 * N) (hh : h < 32) : ∀ (k i : Nat) (pl : Nat → Int64), i + k = 5 → (∀ j, i ≤ j → j < 5 → mX3_keep_L1 N (nI r) (nI h) set k i pl (j * 2 * N + r) = if h.testBit j = true then pl (j * 2 * N + r) ||| set else pl (j * 2 * N + r)) ∧ ∀ q, (∀ j, i ≤ j → j < 5 → q ≠ j * 2 * N + r) → mX3_keep_L1 N (nI r) (nI h) set k i pl q = pl q
  | 0, i, pl, hi => ⟨fun j h1 h2 => by omega, fun q _ => by rw [mX3_keep_L1]⟩
  | k + 1, i, pl, hi => by
    have hne : ∀ j, j ≠ i → j * 2 * N + r ≠ i * 2 * N + r := by
      intro j hj q
      rw [Nat.mul_assoc, Nat.mul_assoc] at q
      exact hj (dn_inj hr hr q).1
    have hi5 : i * 2 * N ≤ 4 * 2 * 4096 := Nat.mul_le_mul (Nat.mul_le_mul (by omega) (Nat.le_refl _)) hN
    have hlt : i * 2 * N + r < 10 * N := by
      have : i * 2 * N ≤ 8 * N := Nat.mul_le_mul_right N (show i * 2 ≤ 8 by omega)
      omega
    rw [mX3_keep_L1]
    by_cases hb : h.testBit i = true
    · rw [if_pos ((c_bit h hh i (by omega)).mpr hb), show (2 : Int32) = nI 2 from rfl, pk_mul, pk_mul, nI_add, c_add hlt (by omega)]
      obtain ⟨g1, g2⟩ := c_keepL hN hr hh k (i + 1) (vp_updL pl (i * 2 * N + r) (pl (i * 2 * N + r) ||| set)) (by omega)
      constructor
      · intro j h1 h2
        rcases Nat.lt_or_ge i j with z | z
        · rw [g1 j z h2, pk_uLn (hne j (by omega))]
        · have : j = i := by omega
          subst this
          rw [g2 _ (fun j' h3 h4 => fun q => hne j' (by omega) q.symm), pk_uLs, if_pos hb]
      · intro q hq
        rw [g2 q (fun j h1 h2 => hq j (by omega) h2), pk_uLn (hq i (Nat.le_refl _) (by omega))]
    · rw [if_neg (fun q => hb ((c_bit h hh i (by omega)).mp q))]
      obtain ⟨g1, g2⟩ := c_keepL hN hr hh k (i + 1) pl (by omega)
      constructor
      · intro j h1 h2
        rcases Nat.lt_or_ge i j with z | z
        · exact g1 j z h2
        · have : j = i := by omega
          subst this
          rw [g2 _ (fun j' h3 h4 => fun q => hne j' (by omega) q.symm), if_neg hb]
      · intro q hq
        exact g2 q (fun j h1 h2 => hq j (by omega) h2)
theorem or0 (x : Int64) : x ||| 0 = x := tb_ext (fun c _ => by rw [tb_or, tb_0, Bool.or_false])
theorem c_keep (hN : N ≤ 4096) (hr : r < 2 * N) (hh : h < 32) (kn pl : Nat → Int64) (dp side : Int32) : (mX3_keep N kn pl dp side (nI r) (nI h) set).1 = vp_updL kn r (kn r ||| set) ∧ (∀ j, j < 5 → (mX3_keep N kn pl dp side (nI r) (nI h) set).2.1 (j * 2 * N + r) = if h.testBit j = true then pl (j * 2 * N + r) ||| set else pl (j * 2 * N + r)) ∧ (∀ q, (∀ j, j < 5 → q ≠ j * 2 * N + r) → (mX3_keep N kn pl dp side (nI r) (nI h) set).2.1 q = pl q) ∧ (mX3_keep N kn pl dp side (nI r) (nI h) set).2.2 = if set = 0 then dp else if dp < mX3_pliesFor side (nI h) then mX3_pliesFor side (nI h) else dp := by
  unfold mX3_keep
  by_cases hs : set = 0
  · rw [if_pos ((tb_cmp0 set).mpr hs), if_pos hs]
    subst hs
    refine ⟨?_, fun j _ => ?_, fun q _ => rfl, rfl⟩
    · funext j
      unfold vp_updL
      by_cases h1 : j = r
      · rw [if_pos h1, h1, or0]
      · rw [if_neg h1]
    · dsimp only
      rw [or0]
      split <;> rfl
  · rw [if_neg (fun q => hs ((tb_cmp0 set).mp q)), if_neg hs]
    obtain ⟨g1, g2⟩ := c_keepL (set := set) hN hr hh 5 0 pl (by omega)
    exact ⟨c_add hr (by omega), fun j hj => g1 j (Nat.zero_le _) hj, fun q hq => g2 q (fun j _ h2 => hq j h2), rfl⟩
end Keep
/-- the planes' rows: bit j of the half distance -/
def PS (F n o : Nat) (pl : Nat → Int64) (L : Nat → cP) (h : Nat) : Prop := ∀ j, j < 5 → ∀ r, r < n * n → ∀ c, c < 64 → (tb (pl (j * 2 * (n * n) + (o + r))) c = true ↔ ∃ g, g < h ∧ g.testBit j = true ∧ lc F n (L g) r c)
abbrev cS : Type := (Nat → Int64) × (Nat → Int64) × (Nat → Int64) × Int32
section Black
variable {F R n : Nat} {al ff lf : Int64} {sqf stf : Nat → Int32}
theorem c_black (hD : BD F R n al ff lf sqf stf) {k h : Nat} {pb : Nat → cP} {vd fr kn pl : Nat → Int64} {dp : Int32} (hh : h < 32) (hv1 : RS F n (n * n) vd (vB F R k)) (hv0 : RS F n 0 vd (vW F R k)) (hk1 : RS F n (n * n) kn (lv F R k pb h).1) (hk0 : RS F n 0 kn (lv F R k pb h).2) (hskip : h ≠ 0 → ∀ r, r < n * n → fr r = 0 → ∀ c, ¬ lc F n (LB F R k pb h) r c) (hp1 : PS F n (n * n) pl (LB F R k pb) h) (hp0 : PS F n 0 pl (LW F R k pb) h) (hdp : dp < nI (2 * h)) :
    let s := mX3_findBlack (n * n) vd kn fr pl dp (nI F) n al ff lf (nI h)
    (∀ r, r < n * n → s.1 r = 0) ∧ RS F n (n * n) s.1 (LB F R k pb h) ∧ RS F n (n * n) s.2.1 (lv F R k pb (h + 1)).1 ∧ RS F n 0 s.2.1 (lv F R k pb h).2 ∧ PS F n (n * n) s.2.2.1 (LB F R k pb) (h + 1) ∧ PS F n 0 s.2.2.1 (LW F R k pb) h ∧ (((∃ w m b, LB F R k pb h w m b) ∧ s.2.2.2 = nI (2 * h)) ∨ ((¬ ∃ w m b, LB F R k pb h w m b) ∧ s.2.2.2 = dp)) := by
  have hB := hD.1
  have hn := hD.2.1
  have hn64 := hD.n64
  have hN := N_b hn64
  have hKW : ∀ w m b, (lv F R k pb h).2 w m b → vW F R k w m b := fun w m b q => by
    obtain ⟨g, -, z⟩ := lv_W.mp q
    exact LW_v z
  have hplies : mX3_pliesFor (1 : Int32) (nI h) = nI (2 * h) := by
    unfold mX3_pliesFor
    rw [if_neg (by decide), show (2 : Int32) = nI 2 from rfl, pk_mul]
  have key := loop2 (σ := cS) (n := n) (fun i1 k2 i2 s => mX3_findBlack_L2 (n * n) vd (nI F) n al ff lf (nI h) i1 k2 i2 s.1 s.2.1 s.2.2.1 s.2.2.2) (fun k1 i1 s => mX3_findBlack_L1 (n * n) vd (nI F) n al ff lf (nI h) k1 i1 s.1 s.2.1 s.2.2.1 s.2.2.2)
    (fun i1 i2 s =>
      let lost := if nI h = 0 then mX3_lostIn (n * n) vd s.2.1 (nI F) n al ff lf (nI i1) (nI i2) else if lg_cmp (mX3_at (2 * (n * n)) s.1 (mX3_rowOf (n * n) n (0 : Int32) (nI i1) (nI i2))) (0 : Int64) = 0 then 0 else mX3_lostIn (n * n) vd s.2.1 (nI F) n al ff lf (nI i1) (nI i2)
      (mX3_put (2 * (n * n)) (mX3_put (2 * (n * n)) s.1 (mX3_rowOf (n * n) n (0 : Int32) (nI i1) (nI i2)) (0 : Int64)) ((nI (n * n)) + (mX3_rowOf (n * n) n (0 : Int32) (nI i1) (nI i2))) lost, (mX3_keep (n * n) s.2.1 s.2.2.1 s.2.2.2 (1 : Int32) ((nI (n * n)) + (mX3_rowOf (n * n) n (0 : Int32) (nI i1) (nI i2))) (nI h) lost).1, (mX3_keep (n * n) s.2.1 s.2.2.1 s.2.2.2 (1 : Int32) ((nI (n * n)) + (mX3_rowOf (n * n) n (0 : Int32) (nI i1) (nI i2))) (nI h) lost).2.1, (mX3_keep (n * n) s.2.1 s.2.2.1 s.2.2.2 (1 : Int32) ((nI (n * n)) + (mX3_rowOf (n * n) n (0 : Int32) (nI i1) (nI i2))) (nI h) lost).2.2))
    (fun _ _ _ => by rw [mX3_findBlack_L2]) (fun i1 k i2 s => by
      rw [mX3_findBlack_L2]
      by_cases c1 : nI h = 0
      · simp only [if_pos c1]
      · simp only [if_neg c1]
        by_cases c2 : lg_cmp (mX3_at (2 * (n * n)) s.1 (mX3_rowOf (n * n) n (0 : Int32) (nI i1) (nI i2))) (0 : Int64) = 0
        · simp only [if_pos c2]
        · simp only [if_neg c2]) (fun _ _ => by rw [mX3_findBlack_L1]) (fun _ _ _ => by rw [mX3_findBlack_L1])
    (fun T s => (∀ r, r < n * n → (r < T → s.1 r = 0) ∧ (T ≤ r → s.1 r = fr r)) ∧ (∀ r, r < n * n → r < T → ∀ c, c < 64 → (tb (s.1 (n * n + r)) c = true ↔ lc F n (LB F R k pb h) r c)) ∧ (∀ r, r < n * n → (r < T → ∀ c, c < 64 → (tb (s.2.1 (n * n + r)) c = true ↔ lc F n (lv F R k pb (h + 1)).1 r c)) ∧ (T ≤ r → s.2.1 (n * n + r) = kn (n * n + r))) ∧ (∀ r, r < n * n → s.2.1 r = kn r) ∧ (∀ j, j < 5 → ∀ r, r < n * n → (r < T → ∀ c, c < 64 → (tb (s.2.2.1 (j * 2 * (n * n) + (n * n + r))) c = true ↔ tb (pl (j * 2 * (n * n) + (n * n + r))) c = true ∨ (h.testBit j = true ∧ lc F n (LB F R k pb h) r c))) ∧ (T ≤ r → s.2.2.1 (j * 2 * (n * n) + (n * n + r)) = pl (j * 2 * (n * n) + (n * n + r))) ∧ s.2.2.1 (j * 2 * (n * n) + r) = pl (j * 2 * (n * n) + r)) ∧ (((∃ r, r < n * n ∧ r < T ∧ ∃ c, c < 64 ∧ lc F n (LB F R k pb h) r c) ∧ s.2.2.2 = nI (2 * h)) ∨ ((¬ ∃ r, r < n * n ∧ r < T ∧ ∃ c, c < 64 ∧ lc F n (LB F R k pb h) r c) ∧ s.2.2.2 = dp)))
    (fun w m s hw hm hI => by
      obtain ⟨i1, i2, i3, i4, i5, i6⟩ := hI
      have hrow := r_lt hw hm
      generalize hT : w * n + m = T at *
      have hat : mX3_at (2 * (n * n)) s.1 (mX3_rowOf (n * n) n (0 : Int32) (nI w) (nI m)) = fr T := by
        rw [c_row0, hT, c_at (show T < 2 * (n * n) by omega) (by omega)]
        exact (i1 T hrow).2 (Nat.le_refl _)
      have hlost : ∀ c, c < 64 → (tb (mX3_lostIn (n * n) vd s.2.1 (nI F) n al ff lf (nI w) (nI m)) c = true ↔ lc F n (LB F R k pb h) T c) := by
        intro c hc
        have := c_lost hD (k := k) (KB := (lv F R k pb h).1) (KW := (lv F R k pb h).2) (vd := vd) (kn := s.2.1) hw hm hv1 hv0 (by
          rw [hT]
          intro c hc
          rw [(i3 T hrow).2 (Nat.le_refl _)]
          exact hk1 T hrow c hc) (by
          rw [hT]
          intro c hc
          rw [i4 T hrow]
          have := hk0 T hrow c hc
          rwa [Nat.zero_add] at this) hKW hc
        rw [hT] at this
        exact this
      have hL : ∀ c, c < 64 → (tb (if nI h = 0 then mX3_lostIn (n * n) vd s.2.1 (nI F) n al ff lf (nI w) (nI m) else if lg_cmp (mX3_at (2 * (n * n)) s.1 (mX3_rowOf (n * n) n (0 : Int32) (nI w) (nI m))) (0 : Int64) = 0 then 0 else mX3_lostIn (n * n) vd s.2.1 (nI F) n al ff lf (nI w) (nI m)) c = true ↔ lc F n (LB F R k pb h) T c) := by
        intro c hc
        by_cases c1 : nI h = 0
        · rw [if_pos c1]; exact hlost c hc
        · rw [if_neg c1, hat]
          by_cases c2 : lg_cmp (fr T) (0 : Int64) = 0
          · rw [if_pos c2, tb_0]
            refine ⟨fun q => (by cases q), fun q => absurd q (hskip (fun z => c1 (by rw [z]; rfl)) T hrow ((tb_cmp0 _).mp c2) c)⟩
          · rw [if_neg c2]; exact hlost c hc
      dsimp only
      generalize (if nI h = 0 then mX3_lostIn (n * n) vd s.2.1 (nI F) n al ff lf (nI w) (nI m) else if lg_cmp (mX3_at (2 * (n * n)) s.1 (mX3_rowOf (n * n) n (0 : Int32) (nI w) (nI m))) (0 : Int64) = 0 then 0 else mX3_lostIn (n * n) vd s.2.1 (nI F) n al ff lf (nI w) (nI m)) = lost at hL ⊢
      rw [c_row0, hT, nI_add, c_put (show T < 2 * (n * n) by omega) (by omega), c_put (show n * n + T < 2 * (n * n) by omega) (by omega)]
      obtain ⟨k1, k2, k3, k4⟩ := c_keep (set := lost) (r := n * n + T) (h := h) hN (by omega) hh s.2.1 s.2.2.1 s.2.2.2 (1 : Int32)
      rw [k1, k4, hplies]
      have hz : lost = 0 ↔ ¬ ∃ c, c < 64 ∧ lc F n (LB F R k pb h) T c := by
        rw [tb_zero]
        constructor
        · rintro q ⟨c, hc, z⟩
          have := q c hc
          rw [(hL c hc).mpr z] at this
          cases this
        · intro q c hc
          cases z : tb lost c with
          | false => rfl
          | true => exact absurd ⟨c, hc, (hL c hc).mp z⟩ q
      have hpne : ∀ j j' r, r < n * n → r ≠ T → j' < 5 → j * 2 * (n * n) + (n * n + r) ≠ j' * 2 * (n * n) + (n * n + T) := by
        intro j j' r hr hne _ q
        rw [Nat.mul_assoc, Nat.mul_assoc] at q
        have := (dn_inj (n := 2 * (n * n)) (by omega) (by omega) q).2
        omega
      have hpne0 : ∀ j j' r, r < n * n → j' < 5 → j * 2 * (n * n) + r ≠ j' * 2 * (n * n) + (n * n + T) := by
        intro j j' r hr _ q
        rw [Nat.mul_assoc, Nat.mul_assoc] at q
        have := (dn_inj (n := 2 * (n * n)) (by omega) (by omega) q).2
        omega
      refine ⟨fun r hr => ⟨fun h1 => ?_, fun h1 => ?_⟩, fun r hr h1 c hc => ?_, fun r hr => ⟨fun h1 c hc => ?_, fun h1 => ?_⟩, fun r hr => ?_, fun j hj r hr => ⟨fun h1 c hc => ?_, fun h1 => ?_, ?_⟩, ?_⟩
      · rw [pk_uLn (by omega)]
        by_cases e : r = T
        · rw [e, pk_uLs]
        · rw [pk_uLn e]
          exact (i1 r hr).1 (by omega)
      · rw [pk_uLn (by omega), pk_uLn (by omega)]
        exact (i1 r hr).2 (by omega)
      · by_cases e : r = T
        · rw [e, pk_uLs]
          exact hL c hc
        · rw [pk_uLn (by omega), pk_uLn (by omega)]
          exact i2 r hr (by omega) c hc
      · by_cases e : r = T
        · rw [e, pk_uLs, tb_or, Bool.or_eq_true, hL c hc, (i3 T hrow).2 (Nat.le_refl _), hk1 T hrow c hc]
          unfold lc
          rw [lv_1]
          exact ⟨fun q => q.elim (fun z => ⟨z.1, Or.inl z.2⟩) (fun z => ⟨z.1, Or.inr z.2⟩), fun ⟨q1, q2⟩ => q2.elim (fun z => Or.inl ⟨q1, z⟩) (fun z => Or.inr ⟨q1, z⟩)⟩
        · rw [pk_uLn (by omega)]
          exact (i3 r hr).1 (by omega) c hc
      · rw [pk_uLn (by omega)]
        exact (i3 r hr).2 (by omega)
      · rw [pk_uLn (by omega)]
        exact i4 r hr
      · by_cases e : r = T
        · rw [e, k2 j hj, ((i5 j hj T hrow).2.1 (Nat.le_refl _))]
          by_cases hb : h.testBit j = true
          · rw [if_pos hb, tb_or, Bool.or_eq_true, hL c hc]
            exact or_congr Iff.rfl ⟨fun z => ⟨hb, z⟩, fun z => z.2⟩
          · rw [if_neg hb]
            exact ⟨Or.inl, fun q => q.elim id (fun z => absurd z.1 hb)⟩
        · rw [k3 _ (fun j' hj' => hpne j j' r hr e hj')]
          exact (i5 j hj r hr).1 (by omega) c hc
      · rw [k3 _ (fun j' hj' => hpne j j' r hr (by omega) hj')]
        exact (i5 j hj r hr).2.1 (by omega)
      · rw [k3 _ (fun j' hj' => hpne0 j j' r hr hj')]
        exact (i5 j hj r hr).2.2
      · by_cases hl : lost = 0
        · rw [if_pos hl]
          have hno := hz.mp hl
          have e : (∃ r, r < n * n ∧ r < T + 1 ∧ ∃ c, c < 64 ∧ lc F n (LB F R k pb h) r c) ↔ ∃ r, r < n * n ∧ r < T ∧ ∃ c, c < 64 ∧ lc F n (LB F R k pb h) r c := by
            constructor
            · rintro ⟨r, q1, q2, q3⟩
              refine ⟨r, q1, ?_, q3⟩
              rcases Nat.lt_or_ge r T with z | z
              · exact z
              · have : r = T := by omega
                subst this
                exact absurd q3 hno
            · rintro ⟨r, q1, q2, q3⟩
              exact ⟨r, q1, by omega, q3⟩
          rw [e]
          exact i6
        · rw [if_neg hl]
          have hex : ∃ c, c < 64 ∧ lc F n (LB F R k pb h) T c := Classical.not_not.mp (fun q => hl (hz.mpr q))
          refine Or.inl ⟨⟨T, hrow, by omega, hex⟩, ?_⟩
          rcases i6 with ⟨-, q⟩ | ⟨-, q⟩
          · rw [q]
            split <;> rfl
          · rw [q, if_pos hdp])
    (fr, kn, pl, dp) ⟨fun r hr => ⟨fun h1 => by omega, fun _ => rfl⟩, fun r hr h1 => by omega, fun r hr => ⟨fun h1 => by omega, fun _ => rfl⟩, fun r hr => rfl, fun j hj r hr => ⟨fun h1 => by omega, fun _ => rfl, rfl⟩, Or.inr ⟨fun ⟨r, q1, q2, _⟩ => by omega, rfl⟩⟩
  have hs : mX3_findBlack (n * n) vd kn fr pl dp (nI F) n al ff lf (nI h) = mX3_findBlack_L1 (n * n) vd (nI F) n al ff lf (nI h) n 0 fr kn pl dp := rfl
  rw [hs]
  dsimp only at key ⊢
  generalize mX3_findBlack_L1 (n * n) vd (nI F) n al ff lf (nI h) n 0 fr kn pl dp = s at key ⊢
  obtain ⟨i1, i2, i3, i4, i5, i6⟩ := key
  have hex : (∃ r, r < n * n ∧ r < n * n ∧ ∃ c, c < 64 ∧ lc F n (LB F R k pb h) r c) ↔ ∃ w m b, LB F R k pb h w m b := by
    constructor
    · rintro ⟨r, -, -, c, -, q⟩
      exact ⟨_, _, _, q.2⟩
    · rintro ⟨w, m, b, q⟩
      have hv := LB_v q
      have h1 := sc_lt hB hv.1
      have h2 := sc_lt hB hv.2.1
      have h3 := sc_lt hB hv.2.2.1
      rw [← hn] at h1 h2 h3
      obtain ⟨e1, e2⟩ := r_dm (w := sc F w) h2
      refine ⟨sc F w * n + sc F m, r_lt h1 h2, r_lt h1 h2, sc F b, by omega, h3, ?_⟩
      rw [e1, e2, cs_sc hB hv.1, cs_sc hB hv.2.1, cs_sc hB hv.2.2.1]
      exact q
  rw [hex] at i6
  refine ⟨fun r hr => (i1 r hr).1 hr, fun r hr c hc => i2 r hr hr c hc, fun r hr c hc => (i3 r hr).1 hr c hc, fun r hr c hc => ?_, fun j hj r hr c hc => ?_, fun j hj r hr c hc => ?_, i6⟩
  · rw [Nat.zero_add, i4 r hr]
    have := hk0 r hr c hc
    rwa [Nat.zero_add] at this
  · rw [(i5 j hj r hr).1 hr c hc, hp1 j hj r hr c hc]
    constructor
    · rintro (⟨g, q1, q2, q3⟩ | ⟨q1, q2⟩)
      · exact ⟨g, by omega, q2, q3⟩
      · exact ⟨h, by omega, q1, q2⟩
    · rintro ⟨g, q1, q2, q3⟩
      rcases Nat.lt_or_ge g h with z | z
      · exact Or.inl ⟨g, z, q2, q3⟩
      · have : g = h := by omega
        subst this
        exact Or.inr ⟨q2, q3⟩
  · rw [Nat.zero_add, (i5 j hj r hr).2.2]
    have := hp0 j hj r hr c hc
    rwa [Nat.zero_add] at this
end Black
