/-! class and reference agree -/
section End
variable {F R n : Nat} {al ff lf : Int64} {sqf stf : Nat → Int32} {k : Nat}
theorem c_solveP (hD : BD F R n al ff lf sqf stf) (vd : Nat → Int64) {vd_2 kn_2 pl_2 vd_3 kn_3 pl_3 vd_4 kn_4 pl_4 vd_5 kn_5 pl_5 : Nat → Int64} {dp_2 dp_3 dp_4 dp_5 : Int32} (t2 : CT F R 2 n vd_2 kn_2 pl_2 dp_2) (t3 : CT F R 3 n vd_3 kn_3 pl_3 dp_3) (t4 : CT F R 4 n vd_4 kn_4 pl_4 dp_4) (t5 : CT F R 5 n vd_5 kn_5 pl_5 dp_5) : CT F R 1 n (mX3_solveP (n * n) vd (fun _ => 0) (fun _ => 0) (fun _ => 0) (-1) (nI F) (nI R) n al ff lf sqf stf vd_2 kn_2 pl_2 vd_3 kn_3 pl_3 vd_4 kn_4 pl_4 vd_5 kn_5 pl_5).1 (mX3_solveP (n * n) vd (fun _ => 0) (fun _ => 0) (fun _ => 0) (-1) (nI F) (nI R) n al ff lf sqf stf vd_2 kn_2 pl_2 vd_3 kn_3 pl_3 vd_4 kn_4 pl_4 vd_5 kn_5 pl_5).2.2.1 (mX3_solveP (n * n) vd (fun _ => 0) (fun _ => 0) (fun _ => 0) (-1) (nI F) (nI R) n al ff lf sqf stf vd_2 kn_2 pl_2 vd_3 kn_3 pl_3 vd_4 kn_4 pl_4 vd_5 kn_5 pl_5).2.2.2.1 (mX3_solveP (n * n) vd (fun _ => 0) (fun _ => 0) (fun _ => 0) (-1) (nI F) (nI R) n al ff lf sqf stf vd_2 kn_2 pl_2 vd_3 kn_3 pl_3 vd_4 kn_4 pl_4 vd_5 kn_5 pl_5).2.2.2.2 := by
  obtain ⟨hv1, hv0⟩ := c_fillValid hD (show 1 < 6 by omega) (by omega) vd
  rw [show nI 1 = (1 : Int32) from rfl] at hv1 hv0
  have key := loop1 (σ := cS) (n := 32) (fun k1 i1 s => mX3_solveP_L1 (n * n) vd (nI F) (nI R) n al ff lf sqf stf vd_2 kn_2 pl_2 vd_3 kn_3 pl_3 vd_4 kn_4 pl_4 vd_5 kn_5 pl_5 k1 i1 s.1 s.2.1 s.2.2.1 s.2.2.2)
    (fun i1 s => mX3_solveP_L1 (n * n) vd (nI F) (nI R) n al ff lf sqf stf vd_2 kn_2 pl_2 vd_3 kn_3 pl_3 vd_4 kn_4 pl_4 vd_5 kn_5 pl_5 1 i1 s.1 s.2.1 s.2.2.1 s.2.2.2)
    (fun _ _ => by rw [mX3_solveP_L1]) (fun k i s => by rw [mX3_solveP_L1, mX3_solveP_L1, mX3_solveP_L1])
    (fun T s => SV F R 1 n T s)
    (fun T s hT hI => by
      have hb := SV_b hD hT hv1 hv0 hI
      rw [mX3_solveP_L1, mX3_solveP_L1]
      exact SB_wP hD hT hv0 hb t2 t3 t4 t5)
    _ SV_0
  exact SV_ct key hv1 hv0
theorem SD_1 (hD : BD F R n al ff lf sqf stf) (hb : Bnd F R) (hk : k < 6) (hk1 : 1 ≤ k) {vd kn pl T : Nat → Int64} {dp : Int32} (hC : CT F R k n vd kn pl dp) (hF : FIN F R k T) : SD F R k n 1 (1 * (n * n)) vd kn pl T (vB F R k) (LB F R k (pbs F R k)) (fun h => 2 * h) := by
  obtain ⟨a1, a0, b1, b0, p1, p0, -⟩ := hC
  rw [Nat.one_mul]
  refine ⟨a1, b1, p1, hF.1, fun g w m b q => ⟨?_, LB_v q⟩, fun g g' w m b p q => LB_one p q, fun h _ => ?_, fun h => (show 2 * h / 2 = h by omega), (Nat.one_mul _).symm, by omega, fun w m b q => ⟨q.1, q.2.1, q.2.2.1⟩⟩
  · rcases Nat.lt_or_ge g 30 with z | z
    · omega
    · have := hb.ed0 hk hk1 (2 * g) (by omega) w m b
      rw [LD_e] at this
      exact absurd q this
  · unfold mX3_pliesFor
    rw [if_neg (by decide), show (2 : Int32) = nI 2 from rfl, pk_mul]
theorem SD_0 (hD : BD F R n al ff lf sqf stf) (hb : Bnd F R) (hk : k < 6) (hk1 : 1 ≤ k) {vd kn pl T : Nat → Int64} {dp : Int32} (hC : CT F R k n vd kn pl dp) (hF : FIN F R k T) : SD F R k n 0 (0 * (n * n)) vd kn pl T (vW F R k) (LW F R k (pbs F R k)) (fun h => 2 * h + 1) := by
  obtain ⟨a1, a0, b1, b0, p1, p0, -⟩ := hC
  rw [Nat.zero_mul]
  refine ⟨a0, b0, p0, hF.2, fun g w m b q => ⟨?_, LW_v q⟩, fun g g' w m b p q => LW_one p q, fun h _ => ?_, fun h => (show (2 * h + 1) / 2 = h by omega), (Nat.zero_mul _).symm, by omega, fun w m b q => ⟨q.1.1, q.1.2.1, q.1.2.2.1⟩⟩
  · rcases Nat.lt_or_ge g 30 with z | z
    · omega
    · have := hb.ed0 hk hk1 (2 * g + 1) (by omega) w m b
      rw [LD_o] at this
      exact absurd q this
  · unfold mX3_pliesFor
    rw [if_pos (by decide), show (2 : Int32) = nI 2 from rfl, pk_mul, show (1 : Int32) = nI 1 from rfl, nI_add]
theorem side_of {x : Int32} (h : x = 0 ∨ x = 1) : ∃ who, who < 2 ∧ x = nI who := by
  rcases h with rfl | rfl
  · exact ⟨0, by omega, rfl⟩
  · exact ⟨1, by omega, rfl⟩
theorem side_no {x : Int32} (h : ¬ (x = 0 ∨ x = 1)) : x < 0 ∨ (2 : Int32) ≤ x := by
  rcases pk_ix x (n := 2) (by decide) with h1 | h1 | ⟨j, hj, rfl⟩
  · exact Or.inl h1
  · exact Or.inr h1
  · exfalso
    apply h
    rcases (show j = 0 ∨ j = 1 by omega) with rfl | rfl
    · exact Or.inl rfl
    · exact Or.inr rfl
/-- what a position is told by -/
theorem r_posI (hB : bd F R) (hk : k < 6) (hk1 : 1 ≤ k) {white man black side : Int32} (h : mX5_isPosition (nI F) (nI R) (nI k) white man black side = true) : ∃ w m b who, w < 64 ∧ m < 64 ∧ b < 64 ∧ who < 2 ∧ white = nI w ∧ man = nI m ∧ black = nI b ∧ side = nI who ∧ (if who = 1 then vB F R k w m b else vW F R k w m b) := by
  have hs : side = 0 ∨ side = 1 := by
    apply Classical.byContradiction
    intro q
    unfold mX5_isPosition at h
    rw [if_neg (nI_nneg64 (by omega)), if_neg (by rw [show (5 : Int32) = nI 5 from rfl, nI_ltI (by omega) (by omega)]; omega)] at h
    rcases side_no q with z | z
    · rw [if_pos z] at h; cases h
    · by_cases z0 : side < 0
      · rw [if_pos z0] at h; cases h
      · rw [if_neg z0, if_pos (by
          have h3 := Int32.le_iff_toInt_le.mp z
          apply Int32.lt_iff_toInt_lt.mpr
          have a1 : (2 : Int32).toInt = 2 := by decide
          have a2 : (1 : Int32).toInt = 1 := by decide
          omega)] at h
        cases h
  have hall : mX5_isSquare (nI F) (nI R) white = true ∧ mX5_isSquare (nI F) (nI R) man = true ∧ mX5_isSquare (nI F) (nI R) black = true := by
    have h' := h
    unfold mX5_isPosition at h
    rw [if_neg (nI_nneg64 (by omega)), if_neg (by rw [show (5 : Int32) = nI 5 from rfl, nI_ltI (by omega) (by omega)]; omega), if_neg (by rcases hs with rfl | rfl <;> decide), if_neg (by rcases hs with rfl | rfl <;> decide)] at h
    by_cases h1 : mX5_isSquare (nI F) (nI R) white = true
    · rw [if_neg (by rw [zI_b0]; exact fun q => q h1)] at h
      by_cases h2 : mX5_isSquare (nI F) (nI R) black = true
      · rw [if_neg (by rw [zI_b0]; exact fun q => q h2)] at h
        by_cases h3 : mX5_isSquare (nI F) (nI R) man = true
        · exact ⟨h1, h3, h2⟩
        · split at h
          · cases h
          · split at h
            · rw [if_neg (by rw [show (0 : Int32) = nI 0 from rfl, nI_eq64 (by omega) (by omega)]; omega), if_pos (by rw [zI_b0]; exact h3)] at h
              cases h
            · cases h
      · rw [if_pos (by rw [zI_b0]; exact h2)] at h; cases h
    · rw [if_pos (by rw [zI_b0]; exact h1)] at h; cases h
  obtain ⟨w, hw, rfl⟩ := r_sqI hall.1
  obtain ⟨m, hm, rfl⟩ := r_sqI hall.2.1
  obtain ⟨b, hb, rfl⟩ := r_sqI hall.2.2
  obtain ⟨who, hwho, rfl⟩ := side_of hs
  refine ⟨w, m, b, who, hw, hm, hb, hwho, rfl, rfl, rfl, rfl, ?_⟩
  rcases (show who = 0 ∨ who = 1 by omega) with rfl | rfl
  · rw [if_neg (by omega)]
    have := (r_pos hB hk hk1 hw hm hb (Or.inl rfl)).mp h
    exact ⟨this.1, this.2.resolve_left (by decide)⟩
  · rw [if_pos rfl]
    exact ((r_pos hB hk hk1 hw hm hb (Or.inr rfl)).mp h).1
theorem g_dist (hD : BD F R n al ff lf sqf stf) (hb : Bnd F R) (hk : k < 6) (hk1 : 1 ≤ k) {vd kn pl T : Nat → Int64} {dp : Int32} (hC : CT F R k n vd kn pl dp) (hF : FIN F R k T) {white man black side : Int32} (h : mX5_isPosition (nI F) (nI R) (nI k) white man black side = true) : mX3_plies (n * n) kn pl n side (mX0_cellOf (nI F) (nI R) white) (mX0_cellOf (nI F) (nI R) man) (mX0_cellOf (nI F) (nI R) black) = mX5_known T (nI k) side white man black := by
  have hB := hD.1
  have hn := hD.2.1
  obtain ⟨w, m, b, who, hw, hm, hb', hwho, rfl, rfl, rfl, rfl, hv⟩ := r_posI hB hk hk1 h
  have ho : on F R w ∧ on F R m ∧ on F R b := by
    split at hv
    · exact ⟨hv.1, hv.2.1, hv.2.2.1⟩
    · exact ⟨hv.1.1, hv.1.2.1, hv.1.2.2.1⟩
  obtain ⟨o1, o2, o3⟩ := ho
  have l1 := sc_lt hB o1
  have l2 := sc_lt hB o2
  have l3 := sc_lt hB o3
  rw [← hn] at l1 l2 l3
  rw [c_cellN F hB.2.1 R hB.2.2.2 w hw, c_cellN F hB.2.1 R hB.2.2.2 m hm, c_cellN F hB.2.1 R hB.2.2.2 b hb', clI_on o1, clI_on o2, clI_on o3, r_known hk hk1 hwho hw hm hb']
  rcases (show who = 0 ∨ who = 1 by omega) with rfl | rfl
  · rw [if_neg (by omega)] at hv
    have := c_pliesG hB hn (SD_0 hD hb hk hk1 hC hF) l1 l2 l3 (by rw [cs_sc hB o1, cs_sc hB o2, cs_sc hB o3]; exact hv)
    rw [cs_sc hB o1, cs_sc hB o2, cs_sc hB o3] at this
    exact this
  · rw [if_pos rfl] at hv
    have := c_pliesG hB hn (SD_1 hD hb hk hk1 hC hF) l1 l2 l3 (by rw [cs_sc hB o1, cs_sc hB o2, cs_sc hB o3]; exact hv)
    rw [cs_sc hB o1, cs_sc hB o2, cs_sc hB o3] at this
    exact this
theorem g_iso (hD : BD F R n al ff lf sqf stf) (hb : Bnd F R) (hk : k < 6) (hk1 : 1 ≤ k) {vd kn pl T : Nat → Int64} {dp : Int32} (hC : CT F R k n vd kn pl dp) (hF : FIN F R k T) {who : Nat} (hwho : who < 2) (nn : Int32) : ct (pC n (who * (n * n)) vd kn pl who nn) (n * n * 64) = ct (pR F R k who T nn) 262144 ∧ (∀ t, t < n * n * 64 → pC n (who * (n * n)) vd kn pl who nn t = true → ct (pC n (who * (n * n)) vd kn pl who nn) t = ct (pR F R k who T nn) (pT F n t) ∧ pT F n t < 262144 ∧ pR F R k who T nn (pT F n t) = true) ∧ ∀ a, a < 262144 → pR F R k who T nn a = true → ∃ t, t < n * n * 64 ∧ pC n (who * (n * n)) vd kn pl who nn t = true ∧ pT F n t = a := by
  rcases (show who = 0 ∨ who = 1 by omega) with rfl | rfl
  · exact c_isoG hD.1 hD.2.1 hk hk1 (SD_0 hD hb hk hk1 hC hF) (fun w m b => by rw [if_neg (by omega)]) nn
  · exact c_isoG hD.1 hD.2.1 hk hk1 (SD_1 hD hb hk hk1 hC hF) (fun w m b => by rw [if_pos rfl]) nn
def acode (a : Nat) : Nat := a / 4096 + 64 * (a / 64 % 64) + 4096 * (a % 64)
theorem g_find (hD : BD F R n al ff lf sqf stf) (hb : Bnd F R) (hk : k < 6) (hk1 : 1 ≤ k) {vd kn pl T : Nat → Int64} {dp : Int32} (hC : CT F R k n vd kn pl dp) (hF : FIN F R k T) {who : Nat} (hwho : who < 2) (nn x : Int32) : (mX3_pick (n * n) vd kn pl n sqf (nI who) nn x = -1 ∧ (x < 0 ∨ ∃ j, j < 2 ^ 31 ∧ x = nI j ∧ ∀ a, a < 262144 → pR F R k who T nn a = true → ct (pR F R k who T nn) a ≠ j)) ∨ ∃ j a, j < 2 ^ 31 ∧ x = nI j ∧ a < 262144 ∧ pR F R k who T nn a = true ∧ ct (pR F R k who T nn) a = j ∧ mX3_pick (n * n) vd kn pl n sqf (nI who) nn x = nI (acode a) := by
  have hB := hD.1
  have hn := hD.2.1
  have hn64 := hD.n64
  have hn9 := n_9 hB
  obtain ⟨-, h1, h2⟩ := g_iso hD hb hk hk1 hC hF hwho nn
  rcases c_pick (sqf := sqf) (vd := vd) (kn := kn) (pl := pl) (nn := nn) (who := who) hn64 (show 0 < n by omega) (x := x) with ⟨hx, hp⟩ | ⟨j, hj, rfl, ⟨t, ht, hpt, hct, hp⟩ | ⟨hno, hp⟩⟩
  · exact Or.inl ⟨hp, Or.inl hx⟩
  · right
    obtain ⟨g1, g2, g3⟩ := h1 t ht hpt
    refine ⟨j, pT F n t, hj, rfl, g2, g3, by rw [← g1]; exact hct, ?_⟩
    rw [hp]
    have b1 : t / 64 / n < n := by rw [Nat.div_lt_iff_lt_mul (by omega)]; omega
    have b2 : t / 64 % n < n := Nat.mod_lt _ (by omega)
    have b3 : t % 64 < n := by
      rcases (show who = 0 ∨ who = 1 by omega) with rfl | rfl
      · exact ((c_haveG hB hn (SD_0 hD hb hk hk1 hC hF) (show t / 64 < n * n by omega) (Nat.mod_lt t (show 0 < 64 by omega)) nn).mp hpt).1
      · exact ((c_haveG hB hn (SD_1 hD hb hk hk1 hC hF) (show t / 64 < n * n by omega) (Nat.mod_lt t (show 0 < 64 by omega)) nn).mp hpt).1
    unfold cod acode pT
    rw [c_sq hD b1, c_sq hD b2, c_sq hD b3]
    have c1 := cs_64 hB (show t / 64 / n < F * R by omega)
    have c2 := cs_64 hB (show t / 64 % n < F * R by omega)
    have c3 := cs_64 hB (show t % 64 < F * R by omega)
    rw [show (64 : Int32) = nI 64 from rfl, show (4096 : Int32) = nI 4096 from rfl, pk_mul, pk_mul, nI_add, nI_add]
    congr 1
    omega
  · left
    refine ⟨hp, Or.inr ⟨j, hj, rfl, fun a ha hpa e => ?_⟩⟩
    obtain ⟨t, ht, hpt, rfl⟩ := h2 a ha hpa
    exact hno t ht hpt (by rw [(h1 t ht hpt).1]; exact e)

theorem r_code {a : Nat} (ha : a < 262144) : ((nI a / (4096 : Int32)) + ((64 : Int32) * ((nI a / (64 : Int32)) - (nI a / (64 : Int32)) / (64 : Int32) * (64 : Int32)))) + ((4096 : Int32) * (nI a - nI a / (64 : Int32) * (64 : Int32))) = nI (acode a) := by
  unfold acode
  have e1 : nI a / (4096 : Int32) = nI (a / 4096) := by rw [show (4096 : Int32) = nI 4096 from rfl, pk_div (by omega) (by omega) (by omega)]
  have e2 : nI a / (64 : Int32) = nI (a / 64) := by rw [show (64 : Int32) = nI 64 from rfl, pk_div (by omega) (by omega) (by omega)]
  have e3 : nI (a / 64) - nI (a / 64) / (64 : Int32) * (64 : Int32) = nI (a / 64 % 64) := by rw [show (64 : Int32) = nI 64 from rfl, pk_rem (by omega) (by omega) (by omega)]
  have e4 : nI a - nI (a / 64) * (64 : Int32) = nI (a % 64) := by
    rw [show (64 : Int32) = nI 64 from rfl, pk_mul, pk_sub (by omega), show a - a / 64 * 64 = a % 64 by omega]
  rw [e1, e2, e3, e4, show (64 : Int32) = nI 64 from rfl, show (4096 : Int32) = nI 4096 from rfl, pk_mul, pk_mul, nI_add, nI_add]
theorem r_findN {α : Type} {L : Nat → Nat → Int32 → α} {one : Nat → Bool} {no : α} {fo : Nat → α} {x : Int32} (h0 : ∀ i s, L 0 i s = no) (h1 : ∀ k i s, L (k + 1) i s = if x < 0 then no else if zI (one i) = 0 then L k (i + 1) s else if s = 0 then fo i else L k (i + 1) (s + (-1 : Int32))) (hx : x < 0) : ∀ (k i : Nat) (s : Int32), L k i s = no
  | 0, i, s => h0 i s
  | k + 1, i, s => by rw [h1, if_pos hx]
theorem g_gm (hb : Bnd F R) (hk : k < 6) (hk1 : 1 ≤ k) {dp v : Int32} (h : GM F R k (pbs F R k) 64 dp) (g : GF F R k v) : dp = v := by
  rcases h with ⟨h1, h2⟩ | ⟨e, h1, h2, h3, h4⟩
  · rcases g with ⟨g1, g2⟩ | ⟨e', g1, g2, g3, g4⟩
    · rw [h1, g1]
    · exfalso
      rcases Nat.lt_or_ge e' 64 with z | z
      · exact g3 (h2 e' z)
      · exact g3 (hb.ed0 hk hk1 e' (by omega))
  · rcases g with ⟨g1, g2⟩ | ⟨e', g1, g2, g3, g4⟩
    · exact absurd (g2 e) h3
    · rcases Nat.lt_trichotomy e e' with z | z | z
      · exfalso
        rcases Nat.lt_or_ge e' 64 with y | y
        · exact g3 (h4 e' z y)
        · exact g3 (hb.ed0 hk hk1 e' (by omega))
      · rw [h2, g2, z]
      · exact absurd (g4 e z) h3
end End
/-- a call's answers agree: thrown or not, and the number -/
def AG (M : Nat × Int32) (t a : Int32) : Prop := (M.1 = 0 ∧ t = 0 ∧ a = M.2) ∨ (M.1 = 1 ∧ t = 1) ∨ (M.1 = 2 ∧ t = 2)
