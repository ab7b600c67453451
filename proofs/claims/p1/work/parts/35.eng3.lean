/-! the search's run -/
def eRun (Mw Mm Mb : List Nat) (D DM R1 RL k S0 tgt VW : Nat) : Nat → List Nat → Nat → Nat → (List Nat → Bool) → Bool
  | 0, _, _, _, _ => false
  | n + 1, PB, KB, KW, f => frc (dif (dif S0 KB) (nxb Mb (dif tgt KW))) fun B =>
    if B = 0 ∧ PB = [] then f []
    else frc (dif (VW &&& (nxw Mw B ||| man Mm D DM R1 RL k B (PB.headD 0))) KW) fun N => frc (KB ||| B) fun KB' => frc (KW ||| N) fun KW' =>
      eRun Mw Mm Mb D DM R1 RL k S0 tgt VW n PB.tail KB' KW' (fun l => f (B :: l))
/-- a level's set is empty when its number is 0 -/
theorem rep_no {P : cP} (h : rep 0 P) (hb : ∀ w m b, P w m b → w < 64 ∧ m < 64 ∧ b < 64) : ∀ w m b, ¬ P w m b := by
  intro w m b q
  obtain ⟨h1, h2, h3⟩ := hb w m b q
  have := (h w m b h1 h2 h3).mpr q
  rw [Nat.zero_testBit] at this
  cases this
theorem LB_64 {F R k : Nat} {pb : Nat → cP} {h w m b : Nat} (hR : R ≤ 8) (q : LB F R k pb h w m b) : w < 64 ∧ m < 64 ∧ b < 64 := ⟨on64 hR q.1.1, on64 hR q.1.2.1, on64 hR q.1.2.2.1⟩
section ERun
variable {F R k : Nat} {pb : Nat → cP} {Mw Mm Mb : List Nat} {D DM R1 RL S0 tgt VW : Nat}
theorem eRun_ok (hB : bd F R) (hk : k < 6) (hMw : MK' 4096 Mw 8) (hMm : MK' 64 Mm 16) (hMb : MK' 1 Mb 8) (hD : rep D (fun w m _ => w = m)) (hDM : rep DM (fun _ m b => m = b)) (hR1 : rep R1 (fun _ m _ => m / 8 = 1)) (hRL : rep RL (fun _ m _ => m / 8 + 2 = R))
    (hS0 : rep S0 (fun w m b => vB F R k w m b ∧ (att k m b w ∨ ∃ t, bgo F R k w m b t)))
    (htg : rep tgt (fun w m t => on F R w ∧ on F R m ∧ on F R t ∧ w ≠ m ∧ t ≠ w ∧ ¬ nx t w ∧ (t = m ∨ ¬ att k m t w)))
    (hVW : rep VW (fun w m b => vW F R k w m b)) (hpb : ∀ g w m b, pb g w m b → w < 64 ∧ m < 64 ∧ b < 64) : ∀ (n h KB KW : Nat) (PB : List Nat) (f : List Nat → Bool), rep KB (lv F R k pb h).1 → rep KW (lv F R k pb h).2 → (∀ g, rep (PB.getD g 0) (pb (h + g))) → eRun Mw Mm Mb D DM R1 RL k S0 tgt VW n PB KB KW f = true → ∃ H, h ≤ H ∧ H < h + n ∧ (∀ w m b, ¬ LB F R k pb H w m b) ∧ (∀ g, H ≤ g → ∀ w m b, ¬ pb g w m b) ∧ ∃ l, f l = true ∧ ∀ g, rep (l.getD g 0) (LB F R k pb (h + g)) := by
  have hR : R ≤ 8 := by omega
  intro n
  induction n with
  | zero => intro h KB KW PB f _ _ _ q; cases q
  | succ n ih =>
    intro h KB KW PB f hKB hKW hPB q
    unfold eRun at q
    rw [frc_eq] at q
    have hL : rep (dif (dif S0 KB) (nxb Mb (dif tgt KW))) (LB F R k pb h) := by
      refine rep_iff (rep_dif (rep_dif hS0 hKB) (nxb_r hMb (rep_dif htg hKW))) (fun w m b hw hm hb => ?_)
      constructor
      · rintro ⟨⟨⟨q1, q2⟩, q3⟩, q4⟩
        refine ⟨q1, q3, q2, fun t ht => ?_⟩
        have h1 : (lv F R k pb h).2 w m t := by
          apply Classical.byContradiction
          intro z
          exact q4 ⟨t, on64 hR ht.2.1, ht.1, ⟨q1.1, q1.2.1, ht.2.1, q1.2.2.2.1, ht.2.2.1, ht.2.2.2.1, ht.2.2.2.2⟩, z⟩
        refine ⟨fun e => ?_, h1⟩
        obtain ⟨g, -, hg⟩ := lv_W.mp h1
        exact (LW_v hg).1.2.2.2.2.2.1 e.symm
      · rintro ⟨q1, q2, q3, q4⟩
        refine ⟨⟨⟨q1, q3⟩, q2⟩, ?_⟩
        rintro ⟨t, -, ht, ⟨-, -, z1, -, z2, z3, z4⟩, z5⟩
        exact z5 (q4 t ⟨ht, z1, z2, z3, z4⟩).2
    generalize dif (dif S0 KB) (nxb Mb (dif tgt KW)) = B at q hL
    by_cases hz : B = 0 ∧ PB = []
    · rw [if_pos hz] at q
      obtain ⟨hz1, hz2⟩ := hz
      subst hz1; subst hz2
      have hB0 := rep_no hL (fun w m b z => LB_64 hR z)
      have hp0 : ∀ g, h ≤ g → ∀ w m b, ¬ pb g w m b := by
        intro g hg
        obtain ⟨j, rfl⟩ := Nat.exists_eq_add_of_le hg
        have := hPB j
        simp at this
        exact rep_no this (hpb _)
      refine ⟨h, Nat.le_refl _, by omega, hB0, hp0, [], q, fun g => ?_⟩
      have hend := (lv_end hB0 hp0 (h + g) (by omega)).1
      intro w m b _ _ _
      simp
      exact hend w m b
    · rw [if_neg hz, frc_eq, frc_eq, frc_eq] at q
      have hN : rep (dif (VW &&& (nxw Mw B ||| man Mm D DM R1 RL k B (PB.headD 0))) KW) (LW F R k pb h) := by
        have hhd : rep (PB.headD 0) (pb h) := by
          have := hPB 0
          cases PB with
          | nil => exact this
          | cons a t => exact this
        intro w m b hw hm hb
        have a1 := rep_dif hVW hKW w m b hw hm hb
        have a2 := nxw_r hMw hL w m b hw hm hb
        unfold dif at *
        rw [Nat.testBit_xor, Nat.testBit_and] at a1
        simp only [Nat.testBit_xor, Nat.testBit_and, Nat.testBit_or]
        show _ ↔ vW F R k w m b ∧ ¬ (lv F R k pb h).2 w m b ∧ ((∃ v, nx w v ∧ LB F R k pb h v m b) ∨ mst F R k (LB F R k pb h) (pb h) w m b)
        have e2 : (∃ t, t < 64 ∧ nx w t ∧ LB F R k pb h t m b) ↔ ∃ v, nx w v ∧ LB F R k pb h v m b := ⟨fun ⟨t, _, z⟩ => ⟨t, z⟩, fun ⟨t, z1, z2⟩ => ⟨t, (LB_64 hR z2).1, z1, z2⟩⟩
        have a2' := Iff.trans a2 e2
        by_cases hv : vW F R k w m b
        · have a3 := man_r (M' := 0) hB hMm hD hDM hR1 hRL hk hL hhd (fun w m b z => LB_v z) w m b hw hm hb hv.1
          rw [← a2', ← a3]
          have a4 := (hVW w m b hw hm hb).mpr hv
          rw [a4] at a1 ⊢
          have a5 := hKW w m b hw hm hb
          rw [← a5]
          simp only [hv, true_and]
          cases KW.testBit (ci w m b) <;> cases (nxw Mw B).testBit (ci w m b) <;> cases (man Mm D DM R1 RL k B (PB.headD 0)).testBit (ci w m b) <;> simp
        · have a4 : VW.testBit (ci w m b) = false := by
            cases z : VW.testBit (ci w m b) with
            | false => rfl
            | true => exact absurd ((hVW w m b hw hm hb).mp z) hv
          rw [a4]
          simp [hv]
      have h1 : rep (KB ||| B) (lv F R k pb (h + 1)).1 := rep_or hKB hL
      have h2 : rep (KW ||| dif (VW &&& (nxw Mw B ||| man Mm D DM R1 RL k B (PB.headD 0))) KW) (lv F R k pb (h + 1)).2 := rep_or hKW hN
      obtain ⟨H, j1, j2, j3, j4, l, j5, j6⟩ := ih (h + 1) _ _ PB.tail _ h1 h2 (fun g => by
        have := hPB (g + 1)
        rw [show h + (g + 1) = h + 1 + g by omega] at this
        cases PB with
        | nil => simpa using this
        | cons a t => simpa using this) q
      refine ⟨H, by omega, by omega, j3, j4, B :: l, j5, fun g => ?_⟩
      cases g with
      | zero => exact hL
      | succ g =>
        have := j6 g
        rw [show h + 1 + g = h + (g + 1) by omega] at this
        exact this
end ERun
/-- a kind's search -/
def eKind (F R : Nat) (Mw Mm Mb : List Nat) (D DM R1 RL BS TG k : Nat) (PB : List Nat) (f : List Nat → Bool) : Bool :=
  frc (mbk Mm D k DM) fun A => frc (if k = 1 then BS &&& cm (fun m => decide (0 < m / 8) && decide (m / 8 + 1 < R)) else BS) fun VB => frc (dif VB A) fun VW => frc (dif TG (dif A DM)) fun tgt => frc (VB &&& (A ||| nxb Mb tgt)) fun S0 =>
    eRun Mw Mm Mb D DM R1 RL k S0 tgt VW 30 PB 0 0 f
theorem eKind_ok {F R k : Nat} {pb : Nat → cP} {Mw Mm Mb : List Nat} {D DM R1 RL BS TG : Nat} (hB : bd F R) (hk : k < 6) (hk1 : 1 ≤ k) (hMw : MK' 4096 Mw 8) (hMm : MK' 64 Mm 16) (hMb : MK' 1 Mb 8) (hD : rep D (fun w m _ => w = m)) (hDM : rep DM (fun _ m b => m = b)) (hR1 : rep R1 (fun _ m _ => m / 8 = 1)) (hRL : rep RL (fun _ m _ => m / 8 + 2 = R))
    (hBS : rep BS (fun w m b => on F R w ∧ on F R m ∧ on F R b ∧ w ≠ m ∧ w ≠ b ∧ m ≠ b ∧ ¬ nx w b)) (hTG : rep TG (fun w m t => on F R w ∧ on F R m ∧ on F R t ∧ w ≠ m ∧ w ≠ t ∧ ¬ nx w t)) (hpb : ∀ g w m b, pb g w m b → w < 64 ∧ m < 64 ∧ b < 64) {PB : List Nat} (hPB : ∀ g, rep (PB.getD g 0) (pb g)) {f : List Nat → Bool} (h : eKind F R Mw Mm Mb D DM R1 RL BS TG k PB f = true) : (∀ w m b, ¬ LB F R k pb 30 w m b) ∧ ∃ l, f l = true ∧ ∀ g, rep (l.getD g 0) (LB F R k pb g) := by
  have hR : R ≤ 8 := by omega
  unfold eKind at h
  rw [frc_eq, frc_eq, frc_eq, frc_eq, frc_eq] at h
  have hA : rep (mbk Mm D k DM) (fun w m b => m ≠ w ∧ att k m b w) := rep_iff (mbk_r hMm hD hk hDM) (fun w m b _ _ hb => ⟨fun ⟨q1, t, q2, q3, q4⟩ => ⟨q1, q4 ▸ q3⟩, fun ⟨q1, q2⟩ => ⟨q1, b, hb, q2, rfl⟩⟩)
  have hVB : rep (if k = 1 then BS &&& cm (fun m => decide (0 < m / 8) && decide (m / 8 + 1 < R)) else BS) (vB F R k) := by
    by_cases h1 : k = 1
    · rw [if_pos h1]
      refine rep_iff (rep_and hBS (cm_r _)) (fun w m b _ _ _ => ?_)
      simp only [Bool.and_eq_true, decide_eq_true_eq]
      exact ⟨fun ⟨⟨a1, a2, a3, a4, a5, a6, a7⟩, a8⟩ => ⟨a1, a2, a3, a4, a5, a6, a7, fun _ => a8⟩, fun ⟨a1, a2, a3, a4, a5, a6, a7, a8⟩ => ⟨⟨a1, a2, a3, a4, a5, a6, a7⟩, a8 h1⟩⟩
    · rw [if_neg h1]
      exact rep_iff hBS (fun w m b _ _ _ => ⟨fun ⟨a1, a2, a3, a4, a5, a6, a7⟩ => ⟨a1, a2, a3, a4, a5, a6, a7, fun z => absurd z h1⟩, fun ⟨a1, a2, a3, a4, a5, a6, a7, _⟩ => ⟨a1, a2, a3, a4, a5, a6, a7⟩⟩)
  generalize mbk Mm D k DM = A at h hA
  generalize (if k = 1 then BS &&& cm (fun m => decide (0 < m / 8) && decide (m / 8 + 1 < R)) else BS) = VB at h hVB
  have hVW : rep (dif VB A) (fun w m b => vW F R k w m b) := rep_iff (rep_dif hVB hA) (fun w m b _ _ _ => ⟨fun ⟨q1, q2⟩ => ⟨q1, fun z => q2 ⟨fun e => q1.2.2.2.1 e.symm, z⟩⟩, fun ⟨q1, q2⟩ => ⟨q1, fun z => q2 z.2⟩⟩)
  have htg : rep (dif TG (dif A DM)) (fun w m t => on F R w ∧ on F R m ∧ on F R t ∧ w ≠ m ∧ t ≠ w ∧ ¬ nx t w ∧ (t = m ∨ ¬ att k m t w)) := by
    refine rep_iff (rep_dif hTG (rep_dif hA hDM)) (fun w m t _ _ _ => ?_)
    constructor
    · rintro ⟨⟨a1, a2, a3, a4, a5, a6⟩, a7⟩
      refine ⟨a1, a2, a3, a4, fun e => a5 e.symm, fun z => a6 (nx_sym z), ?_⟩
      by_cases e : t = m
      · exact Or.inl e
      · exact Or.inr (fun z => a7 ⟨⟨fun e => a4 e.symm, z⟩, fun y => e y.symm⟩)
    · rintro ⟨a1, a2, a3, a4, a5, a6, a7⟩
      exact ⟨⟨a1, a2, a3, a4, fun e => a5 e.symm, fun z => a6 (nx_sym z)⟩, fun ⟨⟨_, z⟩, y⟩ => a7.elim (fun e => y e.symm) (fun e => e z)⟩
  have hS0 : rep (VB &&& (A ||| nxb Mb (dif TG (dif A DM)))) (fun w m b => vB F R k w m b ∧ (att k m b w ∨ ∃ t, bgo F R k w m b t)) := by
    refine rep_iff (rep_and hVB (rep_or hA (nxb_r hMb htg))) (fun w m b _ _ _ => ?_)
    constructor
    · rintro ⟨q1, q2⟩
      refine ⟨q1, ?_⟩
      rcases q2 with q2 | ⟨t, -, q3, -, -, q4, -, q5, q6, q7⟩
      · exact Or.inl q2.2
      · exact Or.inr ⟨t, q3, q4, q5, q6, q7⟩
    · rintro ⟨q1, q2⟩
      refine ⟨q1, ?_⟩
      rcases q2 with q2 | ⟨t, q3, q4, q5, q6, q7⟩
      · exact Or.inl ⟨fun e => q1.2.2.2.1 e.symm, q2⟩
      · exact Or.inr ⟨t, on64 hR q4, q3, q1.1, q1.2.1, q4, q1.2.2.2.1, q5, q6, q7⟩
  obtain ⟨H, -, h2, h3, h4, l, h5, h6⟩ := eRun_ok hB hk hMw hMm hMb hD hDM hR1 hRL hS0 htg hVW hpb 30 0 0 0 PB f rep_0 rep_0 (fun g => by rw [Nat.zero_add]; exact hPB g) h
  refine ⟨(lv_end h3 h4 30 (by omega)).1, l, h5, fun g => ?_⟩
  have := h6 g
  rw [Nat.zero_add] at this
  exact this
def zipO : List Nat → List Nat → List Nat
  | [], l => l
  | a :: s, [] => a :: s
  | a :: s, b :: t => (a ||| b) :: zipO s t
theorem zipO_r {P Q : Nat → cP} : ∀ (s t : List Nat) (o : Nat), (∀ g, rep (s.getD g 0) (P (o + g))) → (∀ g, rep (t.getD g 0) (Q (o + g))) → ∀ g, rep ((zipO s t).getD g 0) (fun w m b => P (o + g) w m b ∨ Q (o + g) w m b)
  | [], t, o, hs, ht, g => by
    have h1 := hs g
    have h2 := ht g
    refine rep_iff h2 (fun w m b hw hm hb => ⟨Or.inr, fun q => q.elim (fun z => ?_) id⟩)
    have := (h1 w m b hw hm hb).mpr z
    simp at this
  | a :: s, [], o, hs, ht, g => by
    have h1 := hs g
    have h2 := ht g
    refine rep_iff h1 (fun w m b hw hm hb => ⟨Or.inl, fun q => q.elim id (fun z => ?_)⟩)
    have := (h2 w m b hw hm hb).mpr z
    simp at this
  | a :: s, b :: t, o, hs, ht, 0 => rep_or (hs 0) (ht 0)
  | a :: s, b :: t, o, hs, ht, g + 1 => by
    have := zipO_r s t (o + 1) (fun g => by have := hs (g + 1); rw [show o + (g + 1) = o + 1 + g by omega] at this; exact this) (fun g => by have := ht (g + 1); rw [show o + (g + 1) = o + 1 + g by omega] at this; exact this) g
    rw [show o + 1 + g = o + (g + 1) by omega] at this
    exact this
/-- all kinds of a board -/
def eng (F R : Nat) : Bool :=
  frcL (mkM cw 8) fun Mw => frcL (mkM cm 16) fun Mm => frcL (mkM cb 8) fun Mb => frc Dwm fun D => frc Dmb fun DM => frc Dwb fun DB =>
  frc (cm (fun m => decide (m / 8 = 1))) fun R1 => frc (cm (fun m => decide (m / 8 + 2 = R))) fun RL =>
  frc (dif (dif (dif (cw (onB F R) &&& (cm (onB F R) &&& cb (onB F R))) D) DB) (nxb Mb DB)) fun TG => frc (dif TG DM) fun BS =>
  eKind F R Mw Mm Mb D DM R1 RL BS TG 2 [] fun l2 => eKind F R Mw Mm Mb D DM R1 RL BS TG 3 [] fun l3 => eKind F R Mw Mm Mb D DM R1 RL BS TG 4 [] fun l4 => eKind F R Mw Mm Mb D DM R1 RL BS TG 5 [] fun l5 =>
  frcL (zipO (zipO l2 l3) (zipO l4 l5)) fun PB => eKind F R Mw Mm Mb D DM R1 RL BS TG 1 PB fun _ => true
theorem eng_ok {F R : Nat} (hB : bd F R) (h : eng F R = true) : Bnd F R := by
  have hR : R ≤ 8 := by omega
  unfold eng at h
  rw [frcL_eq, frcL_eq, frcL_eq, frc_eq, frc_eq, frc_eq, frc_eq, frc_eq, frc_eq, frc_eq] at h
  have hMw := MK_w 8
  have hMm := MK_m 16
  have hMb := MK_b 8
  have hR1 : rep (cm (fun m => decide (m / 8 = 1))) (fun _ m _ => m / 8 = 1) := rep_iff (cm_r _) (fun w m b _ _ _ => by simp)
  have hRL : rep (cm (fun m => decide (m / 8 + 2 = R))) (fun _ m _ => m / 8 + 2 = R) := rep_iff (cm_r _) (fun w m b _ _ _ => by simp)
  have hTG : rep (dif (dif (dif (cw (onB F R) &&& (cm (onB F R) &&& cb (onB F R))) Dwm) Dwb) (nxb (mkM cb 8) Dwb)) (fun w m t => on F R w ∧ on F R m ∧ on F R t ∧ w ≠ m ∧ w ≠ t ∧ ¬ nx w t) := by
    refine rep_iff (rep_dif (rep_dif (rep_dif (rep_and (cw_r _) (rep_and (cm_r _) (cb_r _))) Dwm_r) Dwb_r) (nxb_r hMb Dwb_r)) (fun w m t hw hm ht => ?_)
    rw [onB_t, onB_t, onB_t]
    constructor
    · rintro ⟨⟨⟨⟨a1, a2, a3⟩, a4⟩, a5⟩, a6⟩
      exact ⟨a1, a2, a3, a4, a5, fun z => a6 ⟨w, hw, nx_sym z, rfl⟩⟩
    · rintro ⟨a1, a2, a3, a4, a5, a6⟩
      exact ⟨⟨⟨⟨a1, a2, a3⟩, a4⟩, a5⟩, fun ⟨t', _, z, e⟩ => a6 (e ▸ nx_sym z)⟩
  have hBS := rep_dif hTG Dmb_r
  generalize (dif (dif (dif (cw (onB F R) &&& (cm (onB F R) &&& cb (onB F R))) Dwm) Dwb) (nxb (mkM cb 8) Dwb)) = TG at h hTG hBS
  have hBS' : rep (dif TG Dmb) (fun w m b => on F R w ∧ on F R m ∧ on F R b ∧ w ≠ m ∧ w ≠ b ∧ m ≠ b ∧ ¬ nx w b) := rep_iff hBS (fun w m b _ _ _ => ⟨fun ⟨⟨a1, a2, a3, a4, a5, a6⟩, a7⟩ => ⟨a1, a2, a3, a4, a5, a7, a6⟩, fun ⟨a1, a2, a3, a4, a5, a6, a7⟩ => ⟨⟨a1, a2, a3, a4, a5, a7⟩, a6⟩⟩)
  have hc0 : ∀ (g : Nat) w m b, c0 g w m b → w < 64 ∧ m < 64 ∧ b < 64 := fun _ _ _ _ q => q.elim
  have hn : ∀ g, rep (([] : List Nat).getD g 0) (c0 g) := fun g => by
    simp
    exact rep_0
  obtain ⟨e2, l2, h, r2⟩ := eKind_ok (k := 2) hB (by omega) (by omega) hMw hMm hMb Dwm_r Dmb_r hR1 hRL hBS' hTG hc0 hn h
  obtain ⟨e3, l3, h, r3⟩ := eKind_ok (k := 3) hB (by omega) (by omega) hMw hMm hMb Dwm_r Dmb_r hR1 hRL hBS' hTG hc0 hn h
  obtain ⟨e4, l4, h, r4⟩ := eKind_ok (k := 4) hB (by omega) (by omega) hMw hMm hMb Dwm_r Dmb_r hR1 hRL hBS' hTG hc0 hn h
  obtain ⟨e5, l5, h, r5⟩ := eKind_ok (k := 5) hB (by omega) (by omega) hMw hMm hMb Dwm_r Dmb_r hR1 hRL hBS' hTG hc0 hn h
  rw [frcL_eq] at h
  have hz : ∀ g, rep ((zipO (zipO l2 l3) (zipO l4 l5)).getD g 0) (pbs F R 1 g) := by
    intro g
    have z1 := fun g => zipO_r (P := LB F R 2 c0) (Q := LB F R 3 c0) l2 l3 0 (fun g => by rw [Nat.zero_add]; exact r2 g) (fun g => by rw [Nat.zero_add]; exact r3 g) g
    have z2 := fun g => zipO_r (P := LB F R 4 c0) (Q := LB F R 5 c0) l4 l5 0 (fun g => by rw [Nat.zero_add]; exact r4 g) (fun g => by rw [Nat.zero_add]; exact r5 g) g
    have z3 := zipO_r (P := fun g w m b => LB F R 2 c0 g w m b ∨ LB F R 3 c0 g w m b) (Q := fun g w m b => LB F R 4 c0 g w m b ∨ LB F R 5 c0 g w m b) (zipO l2 l3) (zipO l4 l5) 0 (fun g => z1 g) (fun g => z2 g) g
    refine rep_iff z3 (fun w m b _ _ _ => ?_)
    rw [Nat.zero_add]
    unfold pbs
    rw [if_pos rfl]
    constructor
    · rintro ((q | q) | (q | q))
      · exact ⟨2, by omega, by omega, q⟩
      · exact ⟨3, by omega, by omega, q⟩
      · exact ⟨4, by omega, by omega, q⟩
      · exact ⟨5, by omega, by omega, q⟩
    · rintro ⟨q, q2, q5, z⟩
      rcases (show q = 2 ∨ q = 3 ∨ q = 4 ∨ q = 5 by omega) with rfl | rfl | rfl | rfl
      · exact Or.inl (Or.inl z)
      · exact Or.inl (Or.inr z)
      · exact Or.inr (Or.inl z)
      · exact Or.inr (Or.inr z)
  obtain ⟨e1, -⟩ := eKind_ok (k := 1) (pb := pbs F R 1) hB (by omega) (by omega) hMw hMm hMb Dwm_r Dmb_r hR1 hRL hBS' hTG (fun g w m b q => by
    unfold pbs at q
    rw [if_pos rfl] at q
    obtain ⟨q, -, -, z⟩ := q
    exact LB_64 hR z) hz h
  refine ⟨fun q q2 q5 => ?_, e1⟩
  rcases (show q = 2 ∨ q = 3 ∨ q = 4 ∨ q = 5 by omega) with rfl | rfl | rfl | rfl
  · exact e2
  · exact e3
  · exact e4
  · exact e5
