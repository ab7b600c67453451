/-! all passes of the reference -/
theorem pbs_n1 {F R k : Nat} (h : k ≠ 1) : pbs F R k = c0 := if_neg h
theorem pG_W {F R k h : Nat} {tb0 : Nat → Int64} (hB : bd F R) (hk : k < 6) (hk1 : 1 ≤ k) (hh : h < 100) (hT : TC F R k (pbs F R k) (h + 1) h tb0) (hP : k = 1 → PC F R tb0) : pG F R k 0 (2 * h + 1) (LW F R k (pbs F R k) h) tb0 := by
  intro tb3 w m b hw hm hb ho hs
  have hR : R ≤ 8 := by omega
  have e1 := (r_pV1e h hh).2
  rw [e1]
  have hpos : mX5_isPosition (nI F) (nI R) (nI k) (nI w) (nI m) (nI b) 0 = true ↔ vW F R k w m b := by
    rw [r_pos hB hk hk1 hw hm hb (Or.inl rfl)]
    exact ⟨fun q => ⟨q.1, q.2.resolve_left (by decide)⟩, fun q => ⟨q.1, Or.inr q.2⟩⟩
  have hkn : ¬ 0 ≤ mX5_known tb3 (nI k) 0 (nI w) (nI m) (nI b) ↔ ¬ (lv F R k (pbs F R k) h).2 w m b := by
    have := r_known (t := tb3) hk hk1 (show 0 < 2 by omega) hw hm hb
    rw [show mX5_known tb3 (nI k) 0 (nI w) (nI m) (nI b) = nI (BY tb3 (ix k 0 w m b)) - 1 from this, nI_byte_le _ (BY_lt _ _), hs, hT.2.ne0 (fun g => by omega) hw hm hb, lv_W]
  have hr : ∀ v n, on F R v → on F R n → (mX5_reaches tb3 (nI k) (nI v) (nI n) (nI b) (nI (2 * h)) = true ↔ LB F R k (pbs F R k) h v n b) := by
    intro v n hv hn
    rw [r_reach hk hk1 (on64 hR hv) (on64 hR hn) hb (by omega), ho k 1 v n b hk1 hk (by omega) (on64 hR hv) (on64 hR hn) hb (by omega)]
    exact hT.1.val (v := fun g => 2 * g + 1) (fun g => by omega) (fun g g' e => by omega) (by omega) (on64 hR hv) (on64 hR hn) hb
  rw [hpos, hkn]
  have e2 : nI (2 * h + 1) - 1 = nI (2 * h) := nI_pred _
  have hV2 : mX5_pass_V2 (nI F) (nI R) (nI k) (nI (2 * h + 1)) b tb3 m w = true ↔ mX5_kingReaches (nI F) (nI R) tb3 (nI k) (nI w) (nI m) (nI b) (nI (2 * h)) = true ∨ mX5_manReaches (nI F) (nI R) tb3 (nI k) (nI w) (nI m) (nI b) (nI (2 * h)) = true := by
    unfold mX5_pass_V2
    rw [if_neg (by rw [e1]; decide), e2]
    cases mX5_kingReaches (nI F) (nI R) tb3 (nI k) (nI w) (nI m) (nI b) (nI (2 * h)) <;> cases mX5_manReaches (nI F) (nI R) tb3 (nI k) (nI w) (nI m) (nI b) (nI (2 * h)) <;> simp [zI]
  rw [hV2]
  have hm2 : vW F R k w m b → (mX5_manReaches (nI F) (nI R) tb3 (nI k) (nI w) (nI m) (nI b) (nI (2 * h)) = true ↔ mst F R k (LB F R k (pbs F R k) h) (pbs F R k h) w m b) := by
    intro hv
    by_cases hk1' : k = 1
    · subst hk1'
      refine r_pawn hB hv (fun t q => LB_v q) ?_ (fun t ht => hr w t hv.1.1 ht) ?_
      · intro t q
        unfold pbs at q
        rw [if_pos rfl] at q
        obtain ⟨q0, -, -, z⟩ := q
        have := LB_v z
        exact ⟨fun y => this.2.2.2.1 y.symm, this.2.2.2.2.2.1⟩
      · intro t ht
        have hq : ∀ q, 2 ≤ q → q ≤ 5 → (mX5_reaches tb3 (nI q) (nI w) (nI t) (nI b) (nI (2 * h)) = true ↔ LB F R q c0 h w t b) := by
          intro q q2 q5
          rw [r_reach (by omega) (by omega) hw (on64 hR ht) hb (by omega), ho q 1 w t b (by omega) (by omega) (by omega) hw (on64 hR ht) hb (by omega)]
          exact (hP rfl q q2 q5).val (v := fun g => 2 * g + 1) (fun g => by omega) (fun g g' e => by omega) hw (on64 hR ht) hb
        have hq2 := hq 2 (by omega) (by omega)
        have hq3 := hq 3 (by omega) (by omega)
        have hq4 := hq 4 (by omega) (by omega)
        have hq5 := hq 5 (by omega) (by omega)
        rw [show (2 : Int32) = nI 2 from rfl, show (3 : Int32) = nI 3 from rfl, show (4 : Int32) = nI 4 from rfl, show (5 : Int32) = nI 5 from rfl, hq2, hq3, hq4, hq5]
        unfold pbs
        rw [if_pos rfl]
        constructor
        · rintro ⟨q, a1, a2, z⟩
          rcases (show q = 2 ∨ q = 3 ∨ q = 4 ∨ q = 5 by omega) with rfl | rfl | rfl | rfl
          · exact Or.inl z
          · exact Or.inr (Or.inl z)
          · exact Or.inr (Or.inr (Or.inl z))
          · exact Or.inr (Or.inr (Or.inr z))
        · rintro (z | z | z | z)
          · exact ⟨2, by omega, by omega, z⟩
          · exact ⟨3, by omega, by omega, z⟩
          · exact ⟨4, by omega, by omega, z⟩
          · exact ⟨5, by omega, by omega, z⟩
    · rw [r_man hB hk (by omega) hv (B := LB F R k (pbs F R k) h) (fun t q => LB_v q) (fun t ht => hr w t hv.1.1 ht)]
      unfold mst
      rw [if_neg hk1']
  have hkg : vW F R k w m b → (mX5_kingReaches (nI F) (nI R) tb3 (nI k) (nI w) (nI m) (nI b) (nI (2 * h)) = true ↔ ∃ v, nx w v ∧ LB F R k (pbs F R k) h v m b) := fun hv =>
    r_king hB hv (B := LB F R k (pbs F R k) h) (fun v q => LB_v q) (fun v q => hr v m q hv.1.2.1)
  constructor
  · rintro ⟨q1, q2, q3⟩
    exact ⟨q1, q2, q3.elim (fun z => Or.inl ((hkg q1).mp z)) (fun z => Or.inr ((hm2 q1).mp z))⟩
  · rintro ⟨q1, q2, q3⟩
    exact ⟨q1, q2, q3.elim (fun z => Or.inl ((hkg q1).mpr z)) (fun z => Or.inr ((hm2 q1).mpr z))⟩
theorem TB.oth {t t' : Nat → Int64} {k k' who who' n : Nat} {L : Nat → cP} {v : Nat → Nat} (h : TB t k' who' L v n) (ho : pOth k who t t') (hk : k' < 6) (hk1 : 1 ≤ k') (hwho : who' < 2) (hn : ¬ (k' = k ∧ who' = who)) : TB t' k' who' L v n := by
  intro w m b hw hm hb
  rw [ho k' who' w m b hk1 hk hwho hw hm hb hn]
  exact h w m b hw hm hb
theorem TB.next {t t' : Nat → Int64} {k who n d : Nat} {L : Nat → cP} {v : Nat → Nat} (h : TB t k who L v n) (hi : pInv k who d 262144 (L n) t t') (hd : v n = d + 1) (hone : ∀ g w m b, L g w m b → L n w m b → g = n) (hk : k < 6) (hk1 : 1 ≤ k) (hwho : who < 2) : TB t' k who L v (n + 1) := by
  intro w m b hw hm hb
  obtain ⟨a1, a2⟩ := hi k who w m b hk1 hk hwho hw hm hb
  obtain ⟨b1, b2⟩ := h w m b hw hm hb
  constructor
  · intro g hg q
    rcases Nat.lt_or_ge g n with z | z
    · rw [a2 (fun y => by have := hone g w m b q y.2.2.2; omega)]
      exact b1 g z q
    · have : g = n := by omega
      subst this
      rw [a1 ⟨rfl, rfl, by omega, q⟩, hd]
  · intro q
    rw [a2 (fun y => q n (by omega) y.2.2.2)]
    exact b2 (fun g hg => q g (by omega))
/-- the level of a distance -/
def LD (F R k : Nat) (pb : Nat → cP) (d : Nat) : cP := if d % 2 = 0 then LB F R k pb (d / 2) else LW F R k pb (d / 2)
def eD (F R k : Nat) (pb : Nat → cP) (d : Nat) : Prop := ∀ w m b, ¬ LD F R k pb d w m b
theorem LD_e (F R k : Nat) (pb : Nat → cP) (h : Nat) : LD F R k pb (2 * h) = LB F R k pb h := by
  unfold LD
  rw [if_pos (by omega), show 2 * h / 2 = h by omega]
theorem LD_o (F R k : Nat) (pb : Nat → cP) (h : Nat) : LD F R k pb (2 * h + 1) = LW F R k pb h := by
  unfold LD
  rw [if_neg (by omega), show (2 * h + 1) / 2 = h by omega]
/-- two idle passes, and no pawn becomes anything later: all is found -/
theorem eD_end {F R k d : Nat} {pb : Nat → cP} (hd : 2 ≤ d) (h1 : eD F R k pb (d - 1)) (h2 : eD F R k pb (d - 2)) (hp : ∀ g, d ≤ 2 * g + 1 → ∀ w m b, ¬ pb g w m b) : ∀ e, d - 2 ≤ e → eD F R k pb e := by
  rcases Nat.mod_two_eq_zero_or_one d with hm | hm
  · -- d even: LW (d/2-1), LB (d/2-1) are empty
    obtain ⟨h, rfl⟩ : ∃ h, d = 2 * h + 2 := ⟨d / 2 - 1, by omega⟩
    have hW : ∀ w m b, ¬ LW F R k pb h w m b := by
      have e : LD F R k pb (2 * h + 2 - 1) = LW F R k pb h := LD_o F R k pb h
      unfold eD at h1; rw [e] at h1; exact h1
    have hB : ∀ w m b, ¬ LB F R k pb h w m b := by
      have e : LD F R k pb (2 * h + 2 - 2) = LB F R k pb h := LD_e F R k pb h
      unfold eD at h2; rw [e] at h2; exact h2
    have hl : lv F R k pb (h + 1) = lv F R k pb h := by
      refine Prod.ext ?_ ?_
      · funext w m b
        exact propext ⟨fun q => q.elim id (fun z => absurd z (hB w m b)), Or.inl⟩
      · funext w m b
        exact propext ⟨fun q => q.elim id (fun z => absurd z (hW w m b)), Or.inl⟩
    have hB1 : ∀ w m b, ¬ LB F R k pb (h + 1) w m b := by
      unfold LB
      rw [hl]
      exact hB
    have hend := lv_end hB1 (fun g hg => hp g (by omega))
    intro e he w m b q
    unfold LD at q
    split at q
    · rcases Nat.lt_or_ge (e / 2) (h + 1) with z | z
      · have : e / 2 = h := by omega
        rw [this] at q
        exact hB _ _ _ q
      · exact (hend _ z).1 _ _ _ q
    · rcases Nat.lt_or_ge (e / 2) (h + 1) with z | z
      · have : e / 2 = h := by omega
        rw [this] at q
        exact hW _ _ _ q
      · exact (hend _ z).2 _ _ _ q
  · obtain ⟨h, rfl⟩ : ∃ h, d = 2 * h + 3 := ⟨d / 2 - 1, by omega⟩
    have hW : ∀ w m b, ¬ LW F R k pb h w m b := by
      have e : LD F R k pb (2 * h + 3 - 2) = LW F R k pb h := LD_o F R k pb h
      unfold eD at h2; rw [e] at h2; exact h2
    have hB1 : ∀ w m b, ¬ LB F R k pb (h + 1) w m b := by
      have e : LD F R k pb (2 * h + 3 - 1) = LB F R k pb (h + 1) := LD_e F R k pb (h + 1)
      unfold eD at h1; rw [e] at h1; exact h1
    have hend := lv_end hB1 (fun g hg => hp g (by omega))
    intro e he w m b q
    unfold LD at q
    split at q
    · exact (hend _ (by omega)).1 _ _ _ q
    · rcases Nat.lt_or_ge (e / 2) (h + 1) with z | z
      · have : e / 2 = h := by omega
        rw [this] at q
        exact hW _ _ _ q
      · exact (hend _ z).2 _ _ _ q
/-- the greatest distance below d -/
def GM (F R k : Nat) (pb : Nat → cP) (d : Nat) (v : Int32) : Prop := (v = -1 ∧ ∀ e, e < d → eD F R k pb e) ∨ ∃ e, e < d ∧ v = nI e ∧ ¬ eD F R k pb e ∧ ∀ e', e < e' → e' < d → eD F R k pb e'
/-- the state of the passes before distance d -/
def aS (F R k d c : Nat) (t : Nat → Int64) (gr0 gr : Nat → Int32) : Prop := TC F R k (pbs F R k) ((d + 1) / 2) (d / 2) t ∧ GM F R k (pbs F R k) d (gr k) ∧ (∀ j, j ≠ k → gr j = gr0 j) ∧ (1 ≤ c → 1 ≤ d ∧ eD F R k (pbs F R k) (d - 1)) ∧ (2 ≤ c → 2 ≤ d ∧ eD F R k (pbs F R k) (d - 2)) ∧ (1 ≤ d → eD F R k (pbs F R k) (d - 1) → 1 ≤ c) ∧ (2 ≤ d → eD F R k (pbs F R k) (d - 1) → eD F R k (pbs F R k) (d - 2) → 2 ≤ c) ∧ c ≤ d
/-- other kinds' bytes are as they were -/
def kOth (k : Nat) (t t' : Nat → Int64) : Prop := ∀ k' who' w m b, 1 ≤ k' → k' < 6 → who' < 2 → w < 64 → m < 64 → b < 64 → k' ≠ k → BY t' (ix k' who' w m b) = BY t (ix k' who' w m b)
theorem PC.oth {F R : Nat} {t t' : Nat → Int64} (h : PC F R t) (ho : kOth 1 t t') : PC F R t' := by
  intro q h2 h5 w m b hw hm hb
  rw [ho q 1 w m b (by omega) (by omega) (by omega) hw hm hb (by omega)]
  exact h q h2 h5 w m b hw hm hb
theorem r_passD {F R k d : Nat} {t : Nat → Int64} (hB : bd F R) (hk : k < 6) (hk1 : 1 ≤ k) (hd : d < 150) (hT : TC F R k (pbs F R k) ((d + 1) / 2) (d / 2) t) (hP : k = 1 → PC F R t) : TC F R k (pbs F R k) ((d + 1 + 1) / 2) ((d + 1) / 2) (mX5_pass (nI F) (nI R) t (nI k) (nI d)).2 ∧ kOth k t (mX5_pass (nI F) (nI R) t (nI k) (nI d)).2 ∧ ((mX5_pass (nI F) (nI R) t (nI k) (nI d)).1 = true ↔ ¬ eD F R k (pbs F R k) d) := by
  have hE : ∀ (L : cP), LD F R k (pbs F R k) d = L → ((∃ w m b, L w m b) ↔ ¬ eD F R k (pbs F R k) d) := by
    intro L e
    unfold eD
    rw [e]
    constructor
    · rintro ⟨w, m, b, q⟩ z
      exact z w m b q
    · intro z
      apply Classical.byContradiction
      intro y
      exact z (fun w m b q => y ⟨w, m, b, q⟩)
  rcases Nat.mod_two_eq_zero_or_one d with hm | hm
  · obtain ⟨h, rfl⟩ : ∃ h, d = 2 * h := ⟨d / 2, by omega⟩
    rw [show (2 * h + 1) / 2 = h by omega, show 2 * h / 2 = h by omega] at hT
    rw [show (2 * h + 1 + 1) / 2 = h + 1 by omega, show (2 * h + 1) / 2 = h by omega]
    obtain ⟨h1, h2⟩ := r_pass hB hk hk1 (show 1 < 2 by omega) (show 2 * h < 255 by omega) (r_pV1e h (by omega)).1 (fun w m b q => LB_v q) (pG_B hB hk hk1 (by omega) hT)
    refine ⟨⟨hT.1.next h1 rfl (fun g w m b p q => LB_one p q) hk hk1 (by omega), hT.2.oth h1.oth hk hk1 (by omega) (by omega)⟩, fun k' who' w m b g1 g2 g3 g4 g5 g6 g7 => h1.oth k' who' w m b g1 g2 g3 g4 g5 g6 (fun z => g7 z.1), ?_⟩
    rw [h2]
    exact hE _ (LD_e F R k _ h)
  · obtain ⟨h, rfl⟩ : ∃ h, d = 2 * h + 1 := ⟨d / 2, by omega⟩
    rw [show (2 * h + 1 + 1) / 2 = h + 1 by omega, show (2 * h + 1) / 2 = h by omega] at hT
    rw [show (2 * h + 1 + 1 + 1) / 2 = h + 1 by omega, show (2 * h + 1 + 1) / 2 = h + 1 by omega]
    obtain ⟨h1, h2⟩ := r_pass hB hk hk1 (show 0 < 2 by omega) (show 2 * h + 1 < 255 by omega) (r_pV1e h (by omega)).2 (fun w m b q => (LW_v q).1) (pG_W hB hk hk1 (by omega) hT hP)
    refine ⟨⟨hT.1.oth h1.oth hk hk1 (by omega) (by omega), hT.2.next h1 (by omega) (fun g w m b p q => LW_one p q) hk hk1 (by omega)⟩, fun k' who' w m b g1 g2 g3 g4 g5 g6 g7 => h1.oth k' who' w m b g1 g2 g3 g4 g5 g6 (fun z => g7 z.1), ?_⟩
    rw [h2]
    exact hE _ (LD_o F R k _ h)
def FIN (F R k : Nat) (t : Nat → Int64) : Prop := TF t k 1 (LB F R k (pbs F R k)) (fun g => 2 * g + 1) ∧ TF t k 0 (LW F R k (pbs F R k)) (fun g => 2 * g + 2)
def GF (F R k : Nat) (v : Int32) : Prop := (v = -1 ∧ ∀ e, eD F R k (pbs F R k) e) ∨ ∃ e, e < 150 ∧ v = nI e ∧ ¬ eD F R k (pbs F R k) e ∧ ∀ e', e < e' → eD F R k (pbs F R k) e'
theorem TB.fin {t : Nat → Int64} {k who n : Nat} {L : Nat → cP} {v : Nat → Nat} (h : TB t k who L v n) (he : ∀ g, n ≤ g → ∀ w m b, ¬ L g w m b) : TF t k who L v := by
  intro w m b hw hm hb
  obtain ⟨h1, h2⟩ := h w m b hw hm hb
  constructor
  · intro g q
    rcases Nat.lt_or_ge g n with z | z
    · exact h1 g z q
    · exact absurd q (he g z w m b)
  · intro q
    exact h2 (fun g _ => q g)
theorem aS.step {F R k d c : Nat} {t : Nat → Int64} {gr0 gr : Nat → Int32} (h : aS F R k d c t gr0 gr) (hB : bd F R) (hk : k < 6) (hk1 : 1 ≤ k) (hd : d < 149) (hP : k = 1 → PC F R t) : ∃ c', mX5_passAll_V2 (nI F) (nI R) (nI k) (nI c) (nI d) t = nI c' ∧ aS F R k (d + 1) c' (mX5_pass (nI F) (nI R) t (nI k) (nI d)).2 gr0 (upd gr k (mX5_passAll_V1 (nI F) (nI R) (nI k) (nI d) t gr)) ∧ kOth k t (mX5_pass (nI F) (nI R) t (nI k) (nI d)).2 := by
  obtain ⟨hT, hG, hgr, i1, i2, i3, i4, i5⟩ := h
  obtain ⟨p1, p2, p3⟩ := r_passD hB hk hk1 (by omega) hT hP
  have hcl : (nI k).toNatClampNeg = k := nI_clamp (by omega)
  by_cases hs : (mX5_pass (nI F) (nI R) t (nI k) (nI d)).1 = true
  · have hne := p3.mp hs
    refine ⟨0, ?_, ⟨p1, ?_, ?_, ?_, ?_, ?_, ?_, by omega⟩, p2⟩
    · unfold mX5_passAll_V2
      rw [if_neg (by rw [zI_b0]; exact fun q => q hs)]; rfl
    · rw [pk_us]
      unfold mX5_passAll_V1
      rw [if_neg (by rw [zI_b0]; exact fun q => q hs)]
      exact Or.inr ⟨d, by omega, rfl, hne, fun e' h1 h2 => by omega⟩
    · intro j hj
      rw [pk_un hj]
      exact hgr j hj
    · intro q; omega
    · intro q; omega
    · intro _ q
      rw [show d + 1 - 1 = d by omega] at q
      exact absurd q hne
    · intro _ q
      rw [show d + 1 - 1 = d by omega] at q
      exact absurd q hne
  · have he : eD F R k (pbs F R k) d := Classical.not_not.mp (fun q => hs (p3.mpr q))
    refine ⟨c + 1, ?_, ⟨p1, ?_, ?_, ?_, ?_, ?_, ?_, by omega⟩, p2⟩
    · unfold mX5_passAll_V2
      rw [if_pos (by rw [zI_b0]; exact hs)]
      exact nI_1 c
    · rw [pk_us]
      unfold mX5_passAll_V1
      rw [if_pos (by rw [zI_b0]; exact hs), hcl]
      rcases hG with ⟨q1, q2⟩ | ⟨e, q1, q2, q3, q4⟩
      · refine Or.inl ⟨q1, fun e h1 => ?_⟩
        rcases Nat.lt_or_ge e d with z | z
        · exact q2 e z
        · have : e = d := by omega
          subst this
          exact he
      · refine Or.inr ⟨e, by omega, q2, q3, fun e' h1 h2 => ?_⟩
        rcases Nat.lt_or_ge e' d with z | z
        · exact q4 e' h1 z
        · have : e' = d := by omega
          subst this
          exact he
    · intro j hj
      rw [pk_un hj]
      exact hgr j hj
    · intro _
      exact ⟨by omega, by rw [show d + 1 - 1 = d by omega]; exact he⟩
    · intro q
      have := i1 (by omega)
      exact ⟨by omega, by rw [show d + 1 - 2 = d - 1 by omega]; exact this.2⟩
    · intro _ _
      omega
    · intro q1 q2 q3
      rw [show d + 1 - 2 = d - 1 by omega] at q3
      have := i3 (by omega) q3
      omega
theorem kOth.trans {k : Nat} {t t' t'' : Nat → Int64} (h : kOth k t t') (h' : kOth k t' t'') : kOth k t t'' := fun k' who' w m b g1 g2 g3 g4 g5 g6 g7 => (h' k' who' w m b g1 g2 g3 g4 g5 g6 g7).trans (h k' who' w m b g1 g2 g3 g4 g5 g6 g7)
theorem kOth.rf {k : Nat} {t : Nat → Int64} : kOth k t t := fun _ _ _ _ _ _ _ _ _ _ _ _ => rfl
theorem r_allL {F R k D least : Nat} (hB : bd F R) (hk : k < 6) (hk1 : 1 ≤ k) (hlD : least < D) (hD : D < 149) (hD2 : 2 ≤ D) (hH1 : eD F R k (pbs F R k) (D - 1)) (hH2 : eD F R k (pbs F R k) (D - 2)) (hp : ∀ g w m b, pbs F R k g w m b → 2 * g + 1 ≤ least) (gr0 : Nat → Int32) : ∀ (fu i d c : Nat) (t : Nat → Int64) (gr : Nat → Int32), d ≤ D → D < d + fu → aS F R k d c t gr0 gr → (k = 1 → PC F R t) → mX5_passAll_L1_ok (nI F) (nI R) (nI k) (nI least) fu i (nI c) (nI d) t gr = true ∧ FIN F R k (mX5_passAll_L1 (nI F) (nI R) (nI k) (nI least) fu i (nI c) (nI d) t gr).2.2.1 ∧ kOth k t (mX5_passAll_L1 (nI F) (nI R) (nI k) (nI least) fu i (nI c) (nI d) t gr).2.2.1 ∧ GF F R k ((mX5_passAll_L1 (nI F) (nI R) (nI k) (nI least) fu i (nI c) (nI d) t gr).2.2.2 k) ∧ ∀ j, j ≠ k → (mX5_passAll_L1 (nI F) (nI R) (nI k) (nI least) fu i (nI c) (nI d) t gr).2.2.2 j = gr0 j
  | 0, i, d, c, t, gr, hd, hfu, hS, hP => by omega
  | fu + 1, i, d, c, t, gr, hd, hfu, hS, hP => by
    obtain ⟨c', e1, hS', ho⟩ := hS.step hB hk hk1 (by omega) hP
    have hP' : k = 1 → PC F R (mX5_pass (nI F) (nI R) t (nI k) (nI d)).2 := fun q => (hP q).oth (by rw [← q]; exact ho)
    have hcl : (nI k).toNatClampNeg = k := nI_clamp (by omega)
    have hdd : nI d + 1 = nI (d + 1) := nI_1 d
    have go : d + 1 ≤ D → mX5_passAll_L1_ok (nI F) (nI R) (nI k) (nI least) fu (i + 1) (nI c') (nI (d + 1)) (mX5_pass (nI F) (nI R) t (nI k) (nI d)).2 (upd gr k (mX5_passAll_V1 (nI F) (nI R) (nI k) (nI d) t gr)) = true ∧ _ := fun hd' => r_allL hB hk hk1 hlD hD hD2 hH1 hH2 hp gr0 fu (i + 1) (d + 1) c' _ _ hd' (by omega) hS' hP'
    rw [mX5_passAll_L1_ok, mX5_passAll_L1]
    have e34 : mX5_passAll_V4 (nI F) (nI R) (nI k) (nI c) (nI d) t = nI c' := e1
    have e33 : mX5_passAll_V3 (nI F) (nI R) (nI k) (nI d) t gr = mX5_passAll_V1 (nI F) (nI R) (nI k) (nI d) t gr := rfl
    by_cases c1 : d ≤ least
    · rw [if_pos ((nI_leI (by omega) (by omega)).mpr c1), if_pos ((nI_leI (by omega) (by omega)).mpr c1), e1, hdd, hcl]
      obtain ⟨g1, g2, g3, g4, g5⟩ := go (by omega)
      exact ⟨g1, g2, ho.trans g3, g4, g5⟩
    · rw [if_neg (fun q => c1 ((nI_leI (by omega) (by omega)).mp q)), if_neg (fun q => c1 ((nI_leI (by omega) (by omega)).mp q))]
      obtain ⟨hT, hG, hgr, i1, i2, i3, i4, i5⟩ := hS
      by_cases c2 : 2 ≤ c
      · rw [if_pos (by rw [show (2 : Int32) = nI 2 from rfl]; exact (nI_leI (by omega) (by omega)).mpr c2), if_pos (by rw [show (2 : Int32) = nI 2 from rfl]; exact (nI_leI (by omega) (by omega)).mpr c2)]
        obtain ⟨j1, j2⟩ := i1 (by omega)
        obtain ⟨j3, j4⟩ := i2 c2
        have hend := eD_end (pb := pbs F R k) j3 j2 j4 (fun g hg w m b q => by have := hp g w m b q; omega)
        refine ⟨rfl, ⟨hT.1.fin (fun g hg w m b q => hend (2 * g) (by omega) w m b (by rw [LD_e]; exact q)), hT.2.fin (fun g hg w m b q => hend (2 * g + 1) (by omega) w m b (by rw [LD_o]; exact q))⟩, kOth.rf, ?_, hgr⟩
        rcases hG with ⟨q1, q2⟩ | ⟨e, q1, q2, q3, q4⟩
        · refine Or.inl ⟨q1, fun e => ?_⟩
          rcases Nat.lt_or_ge e d with z | z
          · exact q2 e z
          · exact hend e (by omega)
        · refine Or.inr ⟨e, by omega, q2, q3, fun e' h1 => ?_⟩
          rcases Nat.lt_or_ge e' d with z | z
          · exact q4 e' h1 z
          · exact hend e' (by omega)
      · rw [if_neg (by rw [show (2 : Int32) = nI 2 from rfl]; exact fun q => c2 ((nI_leI (by omega) (by omega)).mp q)), if_neg (by rw [show (2 : Int32) = nI 2 from rfl]; exact fun q => c2 ((nI_leI (by omega) (by omega)).mp q)), e34, e33, hdd, hcl]
        have hdD : d + 1 ≤ D := by
          rcases Nat.lt_or_ge d D with z | z
          · exact z
          · have : d = D := by omega
            subst this
            exact absurd (i4 hD2 hH1 hH2) c2
        obtain ⟨g1, g2, g3, g4, g5⟩ := go hdD
        exact ⟨g1, g2, ho.trans g3, g4, g5⟩
/-- no byte of this kind is set -/
def Z0 (k : Nat) (t : Nat → Int64) : Prop := ∀ who w m b, who < 2 → w < 64 → m < 64 → b < 64 → BY t (ix k who w m b) = 0
theorem r_all {F R k D least fu : Nat} (hB : bd F R) (hk : k < 6) (hk1 : 1 ≤ k) (hlD : least < D) (hD : D < 149) (hD2 : 2 ≤ D) (hH1 : eD F R k (pbs F R k) (D - 1)) (hH2 : eD F R k (pbs F R k) (D - 2)) (hp : ∀ g w m b, pbs F R k g w m b → 2 * g + 1 ≤ least) (hfu : D < fu) {t : Nat → Int64} (gr : Nat → Int32) (hZ : Z0 k t) (hP : k = 1 → PC F R t) : mX5_passAll_L1_ok (nI F) (nI R) (nI k) (nI least) fu 0 0 0 t (upd gr k (-1)) = true ∧ FIN F R k (mX5_passAll (nI F) (nI R) t gr fu (nI k) (nI least)).1 ∧ kOth k t (mX5_passAll (nI F) (nI R) t gr fu (nI k) (nI least)).1 ∧ GF F R k ((mX5_passAll (nI F) (nI R) t gr fu (nI k) (nI least)).2 k) ∧ ∀ j, j ≠ k → (mX5_passAll (nI F) (nI R) t gr fu (nI k) (nI least)).2 j = gr j := by
  have hcl : (nI k).toNatClampNeg = k := nI_clamp (by omega)
  have h := r_allL hB hk hk1 hlD hD hD2 hH1 hH2 hp gr fu 0 0 0 t (upd gr k (-1)) (by omega) (by omega) ⟨⟨fun w m b hw hm hb => ⟨fun g hg => by omega, fun _ => hZ 1 w m b (by omega) hw hm hb⟩, fun w m b hw hm hb => ⟨fun g hg => by omega, fun _ => hZ 0 w m b (by omega) hw hm hb⟩⟩, Or.inl ⟨pk_us, fun e he => by omega⟩, fun j hj => pk_un hj, fun q => by omega, fun q => by omega, fun q => by omega, fun q => by omega, Nat.le_refl _⟩ hP
  unfold mX5_passAll
  rw [hcl]
  exact h
