/-! a kind's table, solved -/
theorem lb_grown {F R k g w m b : Nat} {pb : Nat → cP} (h : LB F R k pb (g + 1) w m b) : ∃ t, LW F R k pb g w m t := by
  apply Classical.byContradiction
  intro hn
  obtain ⟨q1, q2, q3, q4⟩ := h
  apply q2
  rw [lv_1]
  refine Or.inr ⟨q1, fun z => q2 ((lv_1 ..).mpr (Or.inl z)), q3, fun t ht => ⟨(q4 t ht).1, ?_⟩⟩
  rcases (lv_2 ..).mp (q4 t ht).2 with z | z
  · exact z
  · exact absurd ⟨t, z⟩ hn
/-- a solved table -/
def CT (F R k n : Nat) (vd kn pl : Nat → Int64) (dp : Int32) : Prop := RS F n (n * n) vd (vB F R k) ∧ RS F n 0 vd (vW F R k) ∧ RS F n (n * n) kn (fun w m b => ∃ g, g < 32 ∧ LB F R k (pbs F R k) g w m b) ∧ RS F n 0 kn (fun w m b => ∃ g, g < 32 ∧ LW F R k (pbs F R k) g w m b) ∧ PS F n (n * n) pl (LB F R k (pbs F R k)) 32 ∧ PS F n 0 pl (LW F R k (pbs F R k)) 32 ∧ GM F R k (pbs F R k) 64 dp
/-- before a half -/
def SV (F R k n h : Nat) (s : cS) : Prop := (h ≠ 0 → RS F n 0 s.1 (LW F R k (pbs F R k) (h - 1))) ∧ RS F n (n * n) s.2.1 (lv F R k (pbs F R k) h).1 ∧ RS F n 0 s.2.1 (lv F R k (pbs F R k) h).2 ∧ PS F n (n * n) s.2.2.1 (LB F R k (pbs F R k)) h ∧ PS F n 0 s.2.2.1 (LW F R k (pbs F R k)) h ∧ GM F R k (pbs F R k) (2 * h) s.2.2.2
theorem RS_z {F n o : Nat} : RS F n o (fun _ => 0) (fun _ _ _ => False) := by
  intro r _ c _
  rw [tb_0]
  exact ⟨fun q => (by cases q), fun q => q.2.elim⟩
theorem SV_0 {F R k n : Nat} : SV F R k n 0 (fun _ => 0, fun _ => 0, fun _ => 0, -1) := ⟨fun h => absurd rfl h, RS_z, RS_z, fun j _ r _ c _ => by
  rw [tb_0]
  exact ⟨fun q => (by cases q), fun ⟨g, q, _⟩ => by omega⟩, fun j _ r _ c _ => by
  rw [tb_0]
  exact ⟨fun q => (by cases q), fun ⟨g, q, _⟩ => by omega⟩, Or.inl ⟨rfl, fun e h => by omega⟩⟩
theorem SV_ct {F R k n : Nat} {s : cS} {vd : Nat → Int64} (h : SV F R k n 32 s) (h1 : RS F n (n * n) vd (vB F R k)) (h0 : RS F n 0 vd (vW F R k)) : CT F R k n vd s.2.1 s.2.2.1 s.2.2.2 := by
  obtain ⟨-, a2, a3, a4, a5, a6⟩ := h
  refine ⟨h1, h0, fun r hr c hc => (a2 r hr c hc).trans ?_, fun r hr c hc => (a3 r hr c hc).trans ?_, a4, a5, a6⟩
  · unfold lc
    rw [lv_B]
  · unfold lc
    rw [lv_W]
section Solve2
variable {F R n : Nat} {al ff lf : Int64} {sqf stf : Nat → Int32} {k : Nat}
/-- black's half -/
def SB (F R k n h : Nat) (b : cS) : Prop := (∀ r, r < n * n → b.1 r = 0) ∧ RS F n (n * n) b.1 (LB F R k (pbs F R k) h) ∧ RS F n (n * n) b.2.1 (lv F R k (pbs F R k) (h + 1)).1 ∧ RS F n 0 b.2.1 (lv F R k (pbs F R k) h).2 ∧ PS F n (n * n) b.2.2.1 (LB F R k (pbs F R k)) (h + 1) ∧ PS F n 0 b.2.2.1 (LW F R k (pbs F R k)) h ∧ GM F R k (pbs F R k) (2 * h + 1) b.2.2.2
theorem SV_b (hD : BD F R n al ff lf sqf stf) {h : Nat} (hh : h < 32) {vd : Nat → Int64} (hv1 : RS F n (n * n) vd (vB F R k)) (hv0 : RS F n 0 vd (vW F R k)) {s : cS} (hs : SV F R k n h s) : SB F R k n h (mX3_findBlack (n * n) vd s.2.1 s.1 s.2.2.1 s.2.2.2 (nI F) n al ff lf (nI h)) := by
  obtain ⟨a1, a2, a3, a4, a5, a6⟩ := hs
  have hskip : h ≠ 0 → ∀ r, r < n * n → s.1 r = 0 → ∀ c, ¬ lc F n (LB F R k (pbs F R k) h) r c := by
    intro h0 r hr hz c hl
    obtain ⟨g, rfl⟩ : ∃ g, h = g + 1 := ⟨h - 1, by omega⟩
    obtain ⟨t, ht⟩ := lb_grown hl.2
    have ho := (LW_v ht).1.2.2.1
    have hlt := sc_lt hD.1 ho
    have hn := hD.2.1
    have hn64 := hD.n64
    have h3 := a1 h0 r hr (sc F t) (by omega)
    rw [Nat.zero_add, hz, tb_0] at h3
    have : lc F n (LW F R k (pbs F R k) (g + 1 - 1)) r (sc F t) := ⟨by omega, by rw [cs_sc hD.1 ho]; exact ht⟩
    have := h3.mpr this
    cases this
  obtain ⟨b1, b2, b3, b4, b5, b6, b7⟩ := c_black hD (pb := pbs F R k) (fr := s.1) hh hv1 hv0 a2 a3 hskip a4 a5 (a6.lt (by omega))
  refine ⟨b1, b2, b3, b4, b5, b6, a6.step ?_⟩
  rw [LD_e]
  exact b7
theorem AF_LW {h : Nat} {fr0 fr : Nat → Int64} {A : Nat → Nat → Prop} (hA : AF F R n k (lv F R k (pbs F R k) h).2 fr0 fr A) (e : ∀ r c, r < n * n → c < 64 → lc F n (vW F R k) r c → (A r c ↔ (∃ v, nx (cs F (r / n)) v ∧ LB F R k (pbs F R k) h v (cs F (r % n)) (cs F c)) ∨ mst F R k (LB F R k (pbs F R k) h) (pbs F R k h) (cs F (r / n)) (cs F (r % n)) (cs F c))) : RS F n 0 fr (LW F R k (pbs F R k) h) := by
  intro r hr c hc
  rw [Nat.zero_add, hA.1 r hr c hc]
  constructor
  · rintro ⟨⟨q1, q2, q3⟩, q4⟩
    exact ⟨q1, q2, q3, (e r c hr hc ⟨q1, q2⟩).mp q4⟩
  · rintro ⟨q1, q2, q3, q4⟩
    exact ⟨⟨q1, q2, q3⟩, (e r c hr hc ⟨q1, q2⟩).mpr q4⟩
theorem SB_w (hD : BD F R n al ff lf sqf stf) (hk : k < 6) (hk2 : 2 ≤ k) {h : Nat} (hh : h < 32) {vd : Nat → Int64} (hv0 : RS F n 0 vd (vW F R k)) {b : cS} (hb : SB F R k n h b) : SV F R k n (h + 1) (mX3_findWhite (nI k) (n * n) vd b.2.1 b.1 b.2.2.1 b.2.2.2 (nI F) n al ff lf sqf stf (nI h)) := by
  obtain ⟨b1, b2, b3, b4, b5, b6, b7⟩ := hb
  have hA := c_whiteL hD hk hv0 b4 b1 b2
  have hF : RS F n 0 (mX3_findWhite_L1 (nI k) (n * n) vd b.2.1 (nI F) n al ff lf sqf stf n 0 b.1) (LW F R k (pbs F R k) h) := AF_LW hA (fun r c hr hc hv => by
    have := src_iff hD.1 hD.2.1 hk (by omega) (B := LB F R k (pbs F R k) h) (pb := pbs F R k h) (fun w m b q => LB_v q) hr hv
    rw [← this]
    exact ⟨Or.inl, fun q => q.elim id (fun z => by omega)⟩)
  obtain ⟨k1, k2, k3, k4, k5⟩ := c_keepFresh hD.1 hD.2.1 hh hF b3 b4 b5 b6 b7
  unfold mX3_findWhite
  exact ⟨fun _ => hF, k1, k2, k3, k4, k5⟩
theorem c_solve (hD : BD F R n al ff lf sqf stf) (hk : k < 6) (hk2 : 2 ≤ k) (vd : Nat → Int64) : CT F R k n (mX3_solve (nI k) (n * n) vd (fun _ => 0) (fun _ => 0) (fun _ => 0) (-1) (nI F) (nI R) n al ff lf sqf stf).1 (mX3_solve (nI k) (n * n) vd (fun _ => 0) (fun _ => 0) (fun _ => 0) (-1) (nI F) (nI R) n al ff lf sqf stf).2.2.1 (mX3_solve (nI k) (n * n) vd (fun _ => 0) (fun _ => 0) (fun _ => 0) (-1) (nI F) (nI R) n al ff lf sqf stf).2.2.2.1 (mX3_solve (nI k) (n * n) vd (fun _ => 0) (fun _ => 0) (fun _ => 0) (-1) (nI F) (nI R) n al ff lf sqf stf).2.2.2.2 := by
  obtain ⟨hv1, hv0⟩ := c_fillValid hD hk (by omega) vd
  have key := loop1 (σ := cS) (n := 32) (fun k1 i1 s => mX3_solve_L1 (nI k) (n * n) vd (nI F) (nI R) n al ff lf sqf stf k1 i1 s.1 s.2.1 s.2.2.1 s.2.2.2)
    (fun i1 s => mX3_solve_L1 (nI k) (n * n) vd (nI F) (nI R) n al ff lf sqf stf 1 i1 s.1 s.2.1 s.2.2.1 s.2.2.2)
    (fun _ _ => by rw [mX3_solve_L1]) (fun k i s => by rw [mX3_solve_L1, mX3_solve_L1, mX3_solve_L1])
    (fun T s => SV F R k n T s)
    (fun T s hT hI => by
      have hb := SV_b hD hT hv1 hv0 hI
      rw [mX3_solve_L1, mX3_solve_L1]
      exact SB_w hD hk hk2 hT hv0 hb)
    _ SV_0
  exact SV_ct key hv1 hv0
/-- a promoted man's level, looked up -/
theorem c_have1 {r h : Nat} {vd kn pl : Nat → Int64} {dp : Int32} (hn64 : n ≤ 64) (hr : r < n * n) (hh : h < 32) (hT : CT F R k n vd kn pl dp) {c : Nat} (hc : c < 64) : tb (mX3_having (n * n) vd kn pl (1 : Int32) (nI (n * n + r)) ((2 : Int32) * nI h)) c = true ↔ lc F n (LB F R k (pbs F R k) h) r c := by
  have hN := N_b hn64
  obtain ⟨-, -, a3, -, a5, -, -⟩ := hT
  have hL := c_havN (kn := kn) (pl := pl) (d := 2 * h) hn64 (show n * n + n * n ≤ 2 * (n * n) by omega) hr (by omega) a3 a5 (fun g g' w m b p q => LB_one p q) hc
  rw [show 2 * h / 2 = h by omega] at hL
  unfold mX3_having
  rw [show (2 : Int32) = nI 2 from rfl, pk_mul, if_neg (fun q => absurd q (nI_nm1 _ (by omega))), if_neg (nI_pos (by omega)), c_shr1 (by omega), show 2 * h / 2 = h by omega, if_neg (by rw [show (32 : Int32) = nI 32 from rfl, nI_leI (by omega) (by omega)]; omega)]
  rw [if_pos (by unfold mX3_pliesFor; rw [if_neg (by decide), show (2 : Int32) = nI 2 from rfl, pk_mul])]
  exact hL
theorem c_promo (hD : BD F R n al ff lf sqf stf) {vd kn : Nat → Int64} {KW pbh : cP} (hv0 : RS F n 0 vd (vW F R 1)) (hk0 : RS F n 0 kn KW) {fr0 fr : Nat → Int64} {A : Nat → Nat → Prop} (hA : AF F R n 1 KW fr0 fr A) {vd_2 kn_2 pl_2 vd_3 kn_3 pl_3 vd_4 kn_4 pl_4 vd_5 kn_5 pl_5 : Nat → Int64} {half : Int32}
    (hpr : ∀ w t, w < n → t < n → ∀ c, c < 64 → (tb (mX3_promoted (n * n) n vd_2 kn_2 pl_2 vd_3 kn_3 pl_3 vd_4 kn_4 pl_4 vd_5 kn_5 pl_5 half (nI w) (nI t)) c = true ↔ c < n ∧ pbh (cs F w) (cs F t) (cs F c))) : AF F R n 1 KW fr0 (mX3_findPromotions (n * n) vd kn fr (nI R) n sqf stf vd_2 kn_2 pl_2 vd_3 kn_3 pl_3 vd_4 kn_4 pl_4 vd_5 kn_5 pl_5 half) (fun r c => A r c ∨ (c < n ∧ cs F (r % n) / 8 + 2 = R ∧ pbh (cs F (r / n)) (cs F (r % n) + 8) (cs F c))) := by
  have hB := hD.1
  have hn := hD.2.1
  have hn64 := hD.n64
  have key := loop2 (σ := Nat → Int64) (n := n) (fun i1 k2 i2 s => mX3_findPromotions_L2 (n * n) vd kn (nI R) n sqf stf vd_2 kn_2 pl_2 vd_3 kn_3 pl_3 vd_4 kn_4 pl_4 vd_5 kn_5 pl_5 half i1 k2 i2 s) (fun k1 i1 s => mX3_findPromotions_L1 (n * n) vd kn (nI R) n sqf stf vd_2 kn_2 pl_2 vd_3 kn_3 pl_3 vd_4 kn_4 pl_4 vd_5 kn_5 pl_5 half k1 i1 s)
    (fun i1 i2 s => mX3_findPromotions_L2 (n * n) vd kn (nI R) n sqf stf vd_2 kn_2 pl_2 vd_3 kn_3 pl_3 vd_4 kn_4 pl_4 vd_5 kn_5 pl_5 half i1 1 i2 s)
    (fun _ _ _ => by rw [mX3_findPromotions_L2]) (fun i1 k i2 s => by
      rw [mX3_findPromotions_L2, mX3_findPromotions_L2]
      split
      · rw [mX3_findPromotions_L2]
      · split
        · rw [mX3_findPromotions_L2]
        · rw [mX3_findPromotions_L2]) (fun _ _ => by rw [mX3_findPromotions_L1]) (fun _ _ _ => by rw [mX3_findPromotions_L1])
    (fun T s => AF F R n 1 KW fr0 s (fun r c => A r c ∨ (r < T ∧ c < n ∧ cs F (r % n) / 8 + 2 = R ∧ pbh (cs F (r / n)) (cs F (r % n) + 8) (cs F c))))
    (fun w m s hw hm hI => by
      have hrow := r_lt hw hm
      obtain ⟨e1, e2⟩ := r_dm (w := w) hm
      have ho := cs_on hB (show m < F * R by omega)
      have h64 := on64 (by omega) ho
      have no : ¬ cs F m / 8 + 2 = R → AF F R n 1 KW fr0 s (fun r c => A r c ∨ (r < w * n + m + 1 ∧ c < n ∧ cs F (r % n) / 8 + 2 = R ∧ pbh (cs F (r / n)) (cs F (r % n) + 8) (cs F c))) := fun hno => hI.iff (fun r c _ _ => or_congr Iff.rfl ⟨fun q => ⟨by omega, q.2⟩, fun q => ⟨by
        rcases Nat.lt_or_ge r (w * n + m) with z | z
        · exact z
        · have : r = w * n + m := by omega
          subst this
          rw [e2] at q
          exact absurd q.2.2.1 hno, q.2⟩⟩)
      rw [mX3_findPromotions_L2, mX3_findPromotions_L2, show (3 : Int32) = nI 3 from rfl, c_step hD hm (by omega), r_up _ h64, mX3_findPromotions_L2]
      by_cases h7 : cs F m / 8 + 1 < R
      · have ho1 : on F R (cs F m + 8) := ⟨by have := ho.1; omega, by omega⟩
        have hl1 : sc F (cs F m + 8) < n := by rw [hn]; exact sc_lt hB ho1
        rw [if_pos (show cs F m / 8 < 7 by omega), clI_on ho1, if_neg (nI_nm1 _ (by omega)), c_rank hD hl1, cs_sc hB ho1, show (1 : Int32) = nI 1 from rfl, pk_sub (by omega)]
        by_cases hl : cs F m / 8 + 2 = R
        · rw [if_pos (show nI ((cs F m + 8) / 8) = nI (R - 1) by rw [show (cs F m + 8) / 8 = R - 1 by omega])]
          refine (c_win hD hv0 hk0 hI hw hm _).iff (fun r c _ hc => ?_)
          rw [hpr w _ hw hl1 c hc, cs_sc hB ho1]
          constructor
          · rintro ((q | q) | ⟨rfl, q⟩)
            · exact Or.inl q
            · exact Or.inr ⟨by omega, q.2⟩
            · exact Or.inr ⟨by omega, q.1, by rw [e2]; exact hl, by rw [e1, e2]; exact q.2⟩
          · rintro (q | ⟨q1, q2, q3, q4⟩)
            · exact Or.inl (Or.inl q)
            · rcases Nat.lt_or_ge r (w * n + m) with z | z
              · exact Or.inl (Or.inr ⟨z, q2, q3, q4⟩)
              · have : r = w * n + m := by omega
                subst this
                rw [e1, e2] at q4
                exact Or.inr ⟨rfl, q2, q4⟩
        · rw [if_neg (show ¬ nI ((cs F m + 8) / 8) = nI (R - 1) from fun q => by have := (nI_eq64 (by omega) (by omega)).mp q; omega)]
          exact no hl
      · have hno : ¬ on F R (if cs F m / 8 < 7 then cs F m + 8 else 64) := by
          intro q
          have := q.2
          split at this <;> omega
        rw [clI_no hno, if_pos rfl]
        exact no (by omega))
    fr (hA.iff (fun r c _ _ => ⟨Or.inl, fun q => q.elim id (fun z => by omega)⟩))
  unfold mX3_findPromotions
  exact key.iff (fun r c hr _ => or_congr Iff.rfl ⟨fun q => q.2, fun q => ⟨hr, q⟩⟩)
theorem wP_L2 {N : Nat} {vd kn : Nat → Int64} {FI : Int32} {i1 : Nat} : ∀ (k2 i2 : Nat) (s : Nat → Int64), mX3_findWhiteP_L2 N vd kn FI n al ff lf sqf stf i1 k2 i2 s = mX3_findWhite_L2 (1 : Int32) N vd kn FI n al ff lf sqf stf i1 k2 i2 s
  | 0, i2, s => by rw [mX3_findWhiteP_L2, mX3_findWhite_L2]
  | k2 + 1, i2, s => by
    rw [mX3_findWhiteP_L2, mX3_findWhite_L2, wP_L2 k2, wP_L2 k2]
theorem wP_L1 {N : Nat} {vd kn : Nat → Int64} {FI : Int32} : ∀ (k1 i1 : Nat) (s : Nat → Int64), mX3_findWhiteP_L1 N vd kn FI n al ff lf sqf stf k1 i1 s = mX3_findWhite_L1 (1 : Int32) N vd kn FI n al ff lf sqf stf k1 i1 s
  | 0, i1, s => by rw [mX3_findWhiteP_L1, mX3_findWhite_L1]
  | k1 + 1, i1, s => by
    rw [mX3_findWhiteP_L1, mX3_findWhite_L1, wP_L2, wP_L1 k1]
theorem SB_wP (hD : BD F R n al ff lf sqf stf) {h : Nat} (hh : h < 32) {vd : Nat → Int64} (hv0 : RS F n 0 vd (vW F R 1)) {b : cS} (hb : SB F R 1 n h b) {vd_2 kn_2 pl_2 vd_3 kn_3 pl_3 vd_4 kn_4 pl_4 vd_5 kn_5 pl_5 : Nat → Int64} {dp_2 dp_3 dp_4 dp_5 : Int32} (t2 : CT F R 2 n vd_2 kn_2 pl_2 dp_2) (t3 : CT F R 3 n vd_3 kn_3 pl_3 dp_3) (t4 : CT F R 4 n vd_4 kn_4 pl_4 dp_4) (t5 : CT F R 5 n vd_5 kn_5 pl_5 dp_5) : SV F R 1 n (h + 1) (mX3_findWhiteP (n * n) vd b.2.1 b.1 b.2.2.1 b.2.2.2 (nI F) (nI R) n al ff lf sqf stf vd_2 kn_2 pl_2 vd_3 kn_3 pl_3 vd_4 kn_4 pl_4 vd_5 kn_5 pl_5 (nI h)) := by
  have hn64 := hD.n64
  obtain ⟨b1, b2, b3, b4, b5, b6, b7⟩ := hb
  have hA := c_whiteL hD (show 1 < 6 by omega) hv0 b4 b1 b2
  have hpr : ∀ w t, w < n → t < n → ∀ c, c < 64 → (tb (mX3_promoted (n * n) n vd_2 kn_2 pl_2 vd_3 kn_3 pl_3 vd_4 kn_4 pl_4 vd_5 kn_5 pl_5 (nI h) (nI w) (nI t)) c = true ↔ c < n ∧ pbs F R 1 h (cs F w) (cs F t) (cs F c)) := by
    intro w t hw ht c hc
    have hrow := r_lt hw ht
    obtain ⟨e1, e2⟩ := r_dm (w := w) ht
    unfold mX3_promoted
    rw [c_row1, tb_or, tb_or, tb_or, tb_or, tb_0]
    simp only [Bool.or_eq_true]
    rw [c_have1 hn64 hrow hh t2 hc, c_have1 hn64 hrow hh t3 hc, c_have1 hn64 hrow hh t4 hc, c_have1 hn64 hrow hh t5 hc]
    unfold lc
    rw [e1, e2, pbs_n1 (show 2 ≠ 1 by omega), pbs_n1 (show 3 ≠ 1 by omega), pbs_n1 (show 4 ≠ 1 by omega), pbs_n1 (show 5 ≠ 1 by omega)]
    unfold pbs
    rw [if_pos rfl]
    constructor
    · rintro ((((q | q) | q) | q) | q)
      · cases q
      · exact ⟨q.1, 2, by omega, by omega, q.2⟩
      · exact ⟨q.1, 3, by omega, by omega, q.2⟩
      · exact ⟨q.1, 4, by omega, by omega, q.2⟩
      · exact ⟨q.1, 5, by omega, by omega, q.2⟩
    · rintro ⟨q1, q, q2, q5, z⟩
      rcases (show q = 2 ∨ q = 3 ∨ q = 4 ∨ q = 5 by omega) with rfl | rfl | rfl | rfl
      · exact Or.inl (Or.inl (Or.inl (Or.inr ⟨q1, z⟩)))
      · exact Or.inl (Or.inl (Or.inr ⟨q1, z⟩))
      · exact Or.inl (Or.inr ⟨q1, z⟩)
      · exact Or.inr ⟨q1, z⟩
  have hA2 := c_promo hD hv0 b4 hA hpr
  have hF := AF_LW (h := h) hA2 (fun r c hr hc hv => by
    have := src_iff hD.1 hD.2.1 (show 1 < 6 by omega) (by omega) (B := LB F R 1 (pbs F R 1) h) (pb := pbs F R 1 h) (fun w m b q => LB_v q) hr hv
    rw [← this]
    exact ⟨fun q => q.elim Or.inl (fun z => Or.inr ⟨rfl, z.2⟩), fun q => q.elim Or.inl (fun z => Or.inr ⟨hv.1, z.2⟩)⟩)
  obtain ⟨k1, k2, k3, k4, k5⟩ := c_keepFresh hD.1 hD.2.1 hh hF b3 b4 b5 b6 b7
  unfold mX3_findWhiteP
  rw [wP_L1]
  exact ⟨fun _ => hF, k1, k2, k3, k4, k5⟩
end Solve2
