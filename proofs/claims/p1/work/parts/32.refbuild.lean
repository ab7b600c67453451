/-! the reference's tables, built -/
/-- no board has a distance of 60 or more -/
def Bnd (F R : Nat) : Prop := (∀ q, 2 ≤ q → q ≤ 5 → ∀ w m b, ¬ LB F R q c0 30 w m b) ∧ ∀ w m b, ¬ LB F R 1 (pbs F R 1) 30 w m b
theorem Bnd.pb0 {F R k : Nat} (h : Bnd F R) : ∀ g, 30 ≤ g → ∀ w m b, ¬ pbs F R k g w m b := by
  intro g hg w m b q
  unfold pbs at q
  split at q
  · obtain ⟨p, p2, p5, z⟩ := q
    exact (lv_end (pb := c0) (h.1 p p2 p5) (fun _ _ _ _ _ y => y) g hg).1 _ _ _ z
  · exact q
theorem Bnd.lb0 {F R k : Nat} (h : Bnd F R) (hk : k < 6) (hk1 : 1 ≤ k) : ∀ w m b, ¬ LB F R k (pbs F R k) 30 w m b := by
  rcases (show k = 1 ∨ 2 ≤ k by omega) with rfl | h2
  · exact h.2
  · rw [pbs_n1 (by omega)]
    exact h.1 k h2 (by omega)
theorem Bnd.ed0 {F R k : Nat} (h : Bnd F R) (hk : k < 6) (hk1 : 1 ≤ k) : ∀ e, 60 ≤ e → eD F R k (pbs F R k) e := by
  have hend := lv_end (h.lb0 hk hk1) h.pb0
  intro e he w m b q
  unfold LD at q
  split at q
  · exact (hend _ (by omega)).1 _ _ _ q
  · exact (hend _ (by omega)).2 _ _ _ q
theorem Bnd.gf {F R k : Nat} (h : Bnd F R) (hk : k < 6) (hk1 : 1 ≤ k) {v : Int32} (g : GF F R k v) : (v = -1 ∨ ∃ e, e < 60 ∧ v = nI e) ∧ ∀ e, ¬ eD F R k (pbs F R k) e → ∃ e', e ≤ e' ∧ e' < 60 ∧ v = nI e' := by
  rcases g with ⟨g1, g2⟩ | ⟨e, g1, g2, g3, g4⟩
  · exact ⟨Or.inl g1, fun e q => absurd (g2 e) q⟩
  · have he : e < 60 := by
      rcases Nat.lt_or_ge e 60 with z | z
      · exact z
      · exact absurd (h.ed0 hk hk1 e z) g3
    refine ⟨Or.inr ⟨e, he, g2⟩, fun e' q => ⟨e, ?_, he, g2⟩⟩
    rcases Nat.lt_or_ge e e' with z | z
    · exact absurd (g4 e' z) q
    · exact z
theorem r_allB {F R k least fu : Nat} (hfu : 62 < fu) (hB : bd F R) (hb : Bnd F R) (hk : k < 6) (hk1 : 1 ≤ k) (hlD : least < 62) (hp : ∀ g w m b, pbs F R k g w m b → 2 * g + 1 ≤ least) {t : Nat → Int64} (gr : Nat → Int32) (hZ : Z0 k t) (hP : k = 1 → PC F R t) : mX5_passAll_L1_ok (nI F) (nI R) (nI k) (nI least) fu 0 0 0 t (upd gr k (-1)) = true ∧ FIN F R k (mX5_passAll (nI F) (nI R) t gr fu (nI k) (nI least)).1 ∧ kOth k t (mX5_passAll (nI F) (nI R) t gr fu (nI k) (nI least)).1 ∧ GF F R k ((mX5_passAll (nI F) (nI R) t gr fu (nI k) (nI least)).2 k) ∧ ∀ j, j ≠ k → (mX5_passAll (nI F) (nI R) t gr fu (nI k) (nI least)).2 j = gr j :=
  r_all (D := 62) hB hk hk1 hlD (by omega) (by omega) (hb.ed0 hk hk1 _ (by omega)) (hb.ed0 hk hk1 _ (by omega)) hp hfu gr hZ hP
theorem Z0.z {k : Nat} : Z0 k (fun _ => 0) := by
  intro who w m b _ _ _ _
  unfold BY
  show (0 : Int64).toBitVec.toNat / _ % _ = 0
  rw [show (0 : Int64).toBitVec.toNat = 0 from rfl, Nat.zero_div, Nat.zero_mod]
theorem Z0.oth {k k' : Nat} {t t' : Nat → Int64} (h : Z0 k t) (ho : kOth k' t t') (hk : k < 6) (hk1 : 1 ≤ k) (hn : k ≠ k') : Z0 k t' := by
  intro who w m b h1 h2 h3 h4
  rw [ho k who w m b hk1 hk h1 h2 h3 h4 hn]
  exact h who w m b h1 h2 h3 h4
theorem TF.oth {t t' : Nat → Int64} {k k' who : Nat} {L : Nat → cP} {v : Nat → Nat} (h : TF t k who L v) (ho : kOth k' t t') (hk : k < 6) (hk1 : 1 ≤ k) (hwho : who < 2) (hn : k ≠ k') : TF t' k who L v := by
  intro w m b hw hm hb
  rw [ho k who w m b hk1 hk hwho hw hm hb hn]
  exact h w m b hw hm hb
theorem c0_no {F R k : Nat} (h : k ≠ 1) : ∀ g w m b, pbs F R k g w m b → 2 * g + 1 ≤ 1 := by
  intro g w m b q
  rw [pbs_n1 h] at q
  exact q.elim
/-- what is claimed of a table that is built, for one kind -/
def BLT (F R k : Nat) (t : Nat → Int64) (v : Int32) : Prop := FIN F R k t ∧ GF F R k v
theorem r_build2 {F R k fu : Nat} (hfu : 62 < fu) (hB : bd F R) (hb : Bnd F R) (hk : k < 6) (hk2 : 2 ≤ k) {t : Nat → Int64} (gr : Nat → Int32) (hZ : Z0 k t) : mX5_passAll_L1_ok (nI F) (nI R) (nI k) 1 fu 0 0 0 t (upd gr k (-1)) = true ∧ FIN F R k (mX5_passAll (nI F) (nI R) t gr fu (nI k) 1).1 ∧ kOth k t (mX5_passAll (nI F) (nI R) t gr fu (nI k) 1).1 ∧ GF F R k ((mX5_passAll (nI F) (nI R) t gr fu (nI k) 1).2 k) ∧ ∀ j, j ≠ k → (mX5_passAll (nI F) (nI R) t gr fu (nI k) 1).2 j = gr j :=
  r_allB hfu (least := 1) hB hb hk (by omega) (by omega) (c0_no (by omega)) gr hZ (fun q => by omega)
theorem mx_step {v : Int32} {a : Nat} (ha : 1 ≤ a) (ha2 : a ≤ 60) (hv : v = -1 ∨ ∃ e, e < 60 ∧ v = nI e) : ∃ a', (if v + 1 ≤ nI a then nI a else v + 1) = nI a' ∧ a ≤ a' ∧ a' ≤ 60 ∧ ∀ e, e < 60 → v = nI e → e + 1 ≤ a' := by
  rcases hv with rfl | ⟨e, he, rfl⟩
  · refine ⟨a, ?_, Nat.le_refl _, ha2, fun e he q => absurd q.symm (nI_nm1 e (by omega))⟩
    rw [if_pos]
    rw [show (-1 : Int32) + 1 = nI 0 from rfl]
    exact (nI_leI (by omega) (by omega)).mpr (by omega)
  · rw [show nI e + 1 = nI (e + 1) from nI_1 e]
    rcases Nat.lt_or_ge a (e + 1) with z | z
    · refine ⟨e + 1, ?_, by omega, by omega, fun e' h1 h2 => by have := (nI_eq64 (by omega) (by omega)).mp h2; omega⟩
      rw [if_neg]
      intro q
      have := (nI_leI (by omega) (by omega)).mp q
      omega
    · refine ⟨a, ?_, Nat.le_refl _, ha2, fun e' h1 h2 => by have := (nI_eq64 (by omega) (by omega)).mp h2; omega⟩
      rw [if_pos]
      exact (nI_leI (by omega) (by omega)).mpr z
theorem PC.of {F R : Nat} {t : Nat → Int64} (h2 : FIN F R 2 t) (h3 : FIN F R 3 t) (h4 : FIN F R 4 t) (h5 : FIN F R 5 t) : PC F R t := by
  intro q q2 q5
  have h : ∀ k, k ≠ 1 → FIN F R k t → TF t k 1 (LB F R k c0) (fun g => 2 * g + 1) := by
    intro k hk hf
    have := hf.1
    rw [pbs_n1 hk] at this
    exact this
  rcases (show q = 2 ∨ q = 3 ∨ q = 4 ∨ q = 5 by omega) with rfl | rfl | rfl | rfl
  · exact h 2 (by omega) h2
  · exact h 3 (by omega) h3
  · exact h 4 (by omega) h4
  · exact h 5 (by omega) h5
theorem FIN.oth {F R k k' : Nat} {t t' : Nat → Int64} (h : FIN F R k t) (ho : kOth k' t t') (hk : k < 6) (hk1 : 1 ≤ k) (hn : k ≠ k') : FIN F R k t' := ⟨h.1.oth ho hk hk1 (by omega) hn, h.2.oth ho hk hk1 (by omega) hn⟩
theorem r_bv1 (mF mR : Int32) (t : Nat → Int64) (gr : Nat → Int32) (fu : Nat) : mX5_build_1_V1 mF mR t gr fu = if (mX5_build2_2 mF mR t gr fu).2 2 + 1 ≤ (1 : Int32) then (1 : Int32) else (mX5_build2_2 mF mR t gr fu).2 2 + 1 := by
  have c : (2 : Int32).toNatClampNeg = 2 := by decide
  unfold mX5_build_1_V1
  rw [c]
theorem r_bv2 (mF mR : Int32) (t : Nat → Int64) (gr : Nat → Int32) (fu : Nat) : mX5_build_1_V2 mF mR t gr fu fu = if (mX5_build2_3 mF mR (mX5_build2_2 mF mR t gr fu).1 (mX5_build2_2 mF mR t gr fu).2 fu).2 3 + 1 ≤ mX5_build_1_V1 mF mR t gr fu then mX5_build_1_V1 mF mR t gr fu else (mX5_build2_3 mF mR (mX5_build2_2 mF mR t gr fu).1 (mX5_build2_2 mF mR t gr fu).2 fu).2 3 + 1 := by
  have c : (3 : Int32).toNatClampNeg = 3 := by decide
  unfold mX5_build_1_V2
  rw [c]
theorem r_bv3 (mF mR : Int32) (t : Nat → Int64) (gr : Nat → Int32) (fu : Nat) : mX5_build_1_V3 mF mR t gr fu fu fu = if (mX5_build2_4 mF mR (mX5_build2_3 mF mR (mX5_build2_2 mF mR t gr fu).1 (mX5_build2_2 mF mR t gr fu).2 fu).1 (mX5_build2_3 mF mR (mX5_build2_2 mF mR t gr fu).1 (mX5_build2_2 mF mR t gr fu).2 fu).2 fu).2 4 + 1 ≤ mX5_build_1_V2 mF mR t gr fu fu then mX5_build_1_V2 mF mR t gr fu fu else (mX5_build2_4 mF mR (mX5_build2_3 mF mR (mX5_build2_2 mF mR t gr fu).1 (mX5_build2_2 mF mR t gr fu).2 fu).1 (mX5_build2_3 mF mR (mX5_build2_2 mF mR t gr fu).1 (mX5_build2_2 mF mR t gr fu).2 fu).2 fu).2 4 + 1 := by
  have c : (4 : Int32).toNatClampNeg = 4 := by decide
  unfold mX5_build_1_V3
  rw [c]
theorem r_bv4 (mF mR : Int32) (t : Nat → Int64) (gr : Nat → Int32) (fu : Nat) : mX5_build_1_V4 mF mR t gr fu fu fu fu = if (mX5_build2_5 mF mR (mX5_build2_4 mF mR (mX5_build2_3 mF mR (mX5_build2_2 mF mR t gr fu).1 (mX5_build2_2 mF mR t gr fu).2 fu).1 (mX5_build2_3 mF mR (mX5_build2_2 mF mR t gr fu).1 (mX5_build2_2 mF mR t gr fu).2 fu).2 fu).1 (mX5_build2_4 mF mR (mX5_build2_3 mF mR (mX5_build2_2 mF mR t gr fu).1 (mX5_build2_2 mF mR t gr fu).2 fu).1 (mX5_build2_3 mF mR (mX5_build2_2 mF mR t gr fu).1 (mX5_build2_2 mF mR t gr fu).2 fu).2 fu).2 fu).2 5 + 1 ≤ mX5_build_1_V3 mF mR t gr fu fu fu then mX5_build_1_V3 mF mR t gr fu fu fu else (mX5_build2_5 mF mR (mX5_build2_4 mF mR (mX5_build2_3 mF mR (mX5_build2_2 mF mR t gr fu).1 (mX5_build2_2 mF mR t gr fu).2 fu).1 (mX5_build2_3 mF mR (mX5_build2_2 mF mR t gr fu).1 (mX5_build2_2 mF mR t gr fu).2 fu).2 fu).1 (mX5_build2_4 mF mR (mX5_build2_3 mF mR (mX5_build2_2 mF mR t gr fu).1 (mX5_build2_2 mF mR t gr fu).2 fu).1 (mX5_build2_3 mF mR (mX5_build2_2 mF mR t gr fu).1 (mX5_build2_2 mF mR t gr fu).2 fu).2 fu).2 fu).2 5 + 1 := by
  have c : (5 : Int32).toNatClampNeg = 5 := by decide
  unfold mX5_build_1_V4
  rw [c]
/-- the pawn's table, built behind the others' -/
theorem r_build1 {F R fu : Nat} (hfu : 62 < fu) (hB : bd F R) (hb : Bnd F R) {t : Nat → Int64} (gr : Nat → Int32) (hZ : ∀ k, Z0 k t) :
    mX5_passAll_L1_ok (nI F) (nI R) 2 1 fu 0 0 0 t (upd gr (2 : Int32).toNatClampNeg (-1)) = true ∧
    mX5_passAll_L1_ok (nI F) (nI R) 3 1 fu 0 0 0 (mX5_build2_2 (nI F) (nI R) t gr fu).1 (upd (mX5_build2_2 (nI F) (nI R) t gr fu).2 (3 : Int32).toNatClampNeg (-1)) = true ∧
    mX5_passAll_L1_ok (nI F) (nI R) 4 1 fu 0 0 0 (mX5_build2_3 (nI F) (nI R) (mX5_build2_2 (nI F) (nI R) t gr fu).1 (mX5_build2_2 (nI F) (nI R) t gr fu).2 fu).1 (upd (mX5_build2_3 (nI F) (nI R) (mX5_build2_2 (nI F) (nI R) t gr fu).1 (mX5_build2_2 (nI F) (nI R) t gr fu).2 fu).2 (4 : Int32).toNatClampNeg (-1)) = true ∧
    mX5_passAll_L1_ok (nI F) (nI R) 5 1 fu 0 0 0 (mX5_build2_4 (nI F) (nI R) (mX5_build2_3 (nI F) (nI R) (mX5_build2_2 (nI F) (nI R) t gr fu).1 (mX5_build2_2 (nI F) (nI R) t gr fu).2 fu).1 (mX5_build2_3 (nI F) (nI R) (mX5_build2_2 (nI F) (nI R) t gr fu).1 (mX5_build2_2 (nI F) (nI R) t gr fu).2 fu).2 fu).1 (upd (mX5_build2_4 (nI F) (nI R) (mX5_build2_3 (nI F) (nI R) (mX5_build2_2 (nI F) (nI R) t gr fu).1 (mX5_build2_2 (nI F) (nI R) t gr fu).2 fu).1 (mX5_build2_3 (nI F) (nI R) (mX5_build2_2 (nI F) (nI R) t gr fu).1 (mX5_build2_2 (nI F) (nI R) t gr fu).2 fu).2 fu).2 (5 : Int32).toNatClampNeg (-1)) = true ∧
    mX5_passAll_L1_ok (nI F) (nI R) 1 (mX5_build_1_V4 (nI F) (nI R) t gr fu fu fu fu) fu 0 0 0 (mX5_build2_5 (nI F) (nI R) (mX5_build2_4 (nI F) (nI R) (mX5_build2_3 (nI F) (nI R) (mX5_build2_2 (nI F) (nI R) t gr fu).1 (mX5_build2_2 (nI F) (nI R) t gr fu).2 fu).1 (mX5_build2_3 (nI F) (nI R) (mX5_build2_2 (nI F) (nI R) t gr fu).1 (mX5_build2_2 (nI F) (nI R) t gr fu).2 fu).2 fu).1 (mX5_build2_4 (nI F) (nI R) (mX5_build2_3 (nI F) (nI R) (mX5_build2_2 (nI F) (nI R) t gr fu).1 (mX5_build2_2 (nI F) (nI R) t gr fu).2 fu).1 (mX5_build2_3 (nI F) (nI R) (mX5_build2_2 (nI F) (nI R) t gr fu).1 (mX5_build2_2 (nI F) (nI R) t gr fu).2 fu).2 fu).2 fu).1 (upd (mX5_build2_5 (nI F) (nI R) (mX5_build2_4 (nI F) (nI R) (mX5_build2_3 (nI F) (nI R) (mX5_build2_2 (nI F) (nI R) t gr fu).1 (mX5_build2_2 (nI F) (nI R) t gr fu).2 fu).1 (mX5_build2_3 (nI F) (nI R) (mX5_build2_2 (nI F) (nI R) t gr fu).1 (mX5_build2_2 (nI F) (nI R) t gr fu).2 fu).2 fu).1 (mX5_build2_4 (nI F) (nI R) (mX5_build2_3 (nI F) (nI R) (mX5_build2_2 (nI F) (nI R) t gr fu).1 (mX5_build2_2 (nI F) (nI R) t gr fu).2 fu).1 (mX5_build2_3 (nI F) (nI R) (mX5_build2_2 (nI F) (nI R) t gr fu).1 (mX5_build2_2 (nI F) (nI R) t gr fu).2 fu).2 fu).2 fu).2 (1 : Int32).toNatClampNeg (-1)) = true ∧
    BLT F R 1 (mX5_build_1 (nI F) (nI R) t gr fu fu fu fu fu).1 ((mX5_build_1 (nI F) (nI R) t gr fu fu fu fu fu).2 1) := by
  obtain ⟨a1, a2, a3, a4, a5⟩ := r_build2 hfu hB hb (k := 2) (by omega) (by omega) gr (hZ 2)
  have e2 : mX5_build2_2 (nI F) (nI R) t gr fu = mX5_passAll (nI F) (nI R) t gr fu (nI 2) 1 := rfl
  rw [← e2] at a2 a3 a4 a5
  have v1 := r_bv1 (nI F) (nI R) t gr fu
  have hz2 : ∀ k, 1 ≤ k → k < 6 → k ≠ 2 → Z0 k (mX5_build2_2 (nI F) (nI R) t gr fu).1 := fun k h1 h2 h3 => (hZ k).oth a3 h2 h1 h3
  have v2 := r_bv2 (nI F) (nI R) t gr fu
  have v3 := r_bv3 (nI F) (nI R) t gr fu
  have v4 := r_bv4 (nI F) (nI R) t gr fu
  have eb : mX5_build_1 (nI F) (nI R) t gr fu fu fu fu fu = mX5_passAll (nI F) (nI R) (mX5_build2_5 (nI F) (nI R) (mX5_build2_4 (nI F) (nI R) (mX5_build2_3 (nI F) (nI R) (mX5_build2_2 (nI F) (nI R) t gr fu).1 (mX5_build2_2 (nI F) (nI R) t gr fu).2 fu).1 (mX5_build2_3 (nI F) (nI R) (mX5_build2_2 (nI F) (nI R) t gr fu).1 (mX5_build2_2 (nI F) (nI R) t gr fu).2 fu).2 fu).1 (mX5_build2_4 (nI F) (nI R) (mX5_build2_3 (nI F) (nI R) (mX5_build2_2 (nI F) (nI R) t gr fu).1 (mX5_build2_2 (nI F) (nI R) t gr fu).2 fu).1 (mX5_build2_3 (nI F) (nI R) (mX5_build2_2 (nI F) (nI R) t gr fu).1 (mX5_build2_2 (nI F) (nI R) t gr fu).2 fu).2 fu).2 fu).1 (mX5_build2_5 (nI F) (nI R) (mX5_build2_4 (nI F) (nI R) (mX5_build2_3 (nI F) (nI R) (mX5_build2_2 (nI F) (nI R) t gr fu).1 (mX5_build2_2 (nI F) (nI R) t gr fu).2 fu).1 (mX5_build2_3 (nI F) (nI R) (mX5_build2_2 (nI F) (nI R) t gr fu).1 (mX5_build2_2 (nI F) (nI R) t gr fu).2 fu).2 fu).1 (mX5_build2_4 (nI F) (nI R) (mX5_build2_3 (nI F) (nI R) (mX5_build2_2 (nI F) (nI R) t gr fu).1 (mX5_build2_2 (nI F) (nI R) t gr fu).2 fu).1 (mX5_build2_3 (nI F) (nI R) (mX5_build2_2 (nI F) (nI R) t gr fu).1 (mX5_build2_2 (nI F) (nI R) t gr fu).2 fu).2 fu).2 fu).2 fu (nI 1) (mX5_build_1_V4 (nI F) (nI R) t gr fu fu fu fu) := rfl
  rw [eb]
  clear eb
  generalize hs2 : mX5_build2_2 (nI F) (nI R) t gr fu = s2 at *
  obtain ⟨b1, b2, b3, b4, b5⟩ := r_build2 hfu hB hb (k := 3) (by omega) (by omega) s2.2 (hz2 3 (by omega) (by omega) (by omega))
  have e3 : mX5_build2_3 (nI F) (nI R) s2.1 s2.2 fu = mX5_passAll (nI F) (nI R) s2.1 s2.2 fu (nI 3) 1 := rfl
  rw [← e3] at b2 b3 b4 b5
  have hz3 : ∀ k, 1 ≤ k → k < 6 → k ≠ 2 → k ≠ 3 → Z0 k (mX5_build2_3 (nI F) (nI R) s2.1 s2.2 fu).1 := fun k h1 h2 h3 h4 => (hz2 k h1 h2 h3).oth b3 h2 h1 h4
  have a2' := a2.oth b3 (by omega) (by omega) (by omega)
  generalize hs3 : mX5_build2_3 (nI F) (nI R) s2.1 s2.2 fu = s3 at *
  obtain ⟨d1, d2, d3, d4, d5⟩ := r_build2 hfu hB hb (k := 4) (by omega) (by omega) s3.2 (hz3 4 (by omega) (by omega) (by omega) (by omega))
  have e4 : mX5_build2_4 (nI F) (nI R) s3.1 s3.2 fu = mX5_passAll (nI F) (nI R) s3.1 s3.2 fu (nI 4) 1 := rfl
  rw [← e4] at d2 d3 d4 d5
  have hz4 : ∀ k, 1 ≤ k → k < 6 → k ≠ 2 → k ≠ 3 → k ≠ 4 → Z0 k (mX5_build2_4 (nI F) (nI R) s3.1 s3.2 fu).1 := fun k h1 h2 h3 h4 h5 => (hz3 k h1 h2 h3 h4).oth d3 h2 h1 h5
  have a2'' := a2'.oth d3 (by omega) (by omega) (by omega)
  have b2' := b2.oth d3 (by omega) (by omega) (by omega)
  generalize hs4 : mX5_build2_4 (nI F) (nI R) s3.1 s3.2 fu = s4 at *
  obtain ⟨f1, f2, f3, f4, f5⟩ := r_build2 hfu hB hb (k := 5) (by omega) (by omega) s4.2 (hz4 5 (by omega) (by omega) (by omega) (by omega) (by omega))
  have e5 : mX5_build2_5 (nI F) (nI R) s4.1 s4.2 fu = mX5_passAll (nI F) (nI R) s4.1 s4.2 fu (nI 5) 1 := rfl
  rw [← e5] at f2 f3 f4 f5
  have hz5 : Z0 1 (mX5_build2_5 (nI F) (nI R) s4.1 s4.2 fu).1 := (hz4 1 (by omega) (by omega) (by omega) (by omega) (by omega)).oth f3 (by omega) (by omega) (by omega)
  have hPC : PC F R (mX5_build2_5 (nI F) (nI R) s4.1 s4.2 fu).1 := PC.of (a2''.oth f3 (by omega) (by omega) (by omega)) (b2'.oth f3 (by omega) (by omega) (by omega)) (d2.oth f3 (by omega) (by omega) (by omega)) f2
  generalize hs5 : mX5_build2_5 (nI F) (nI R) s4.1 s4.2 fu = s5 at *
  obtain ⟨g2, g2'⟩ := hb.gf (by omega) (by omega) a4
  obtain ⟨g3, g3'⟩ := hb.gf (by omega) (by omega) b4
  obtain ⟨g4, g4'⟩ := hb.gf (by omega) (by omega) d4
  obtain ⟨g5, g5'⟩ := hb.gf (by omega) (by omega) f4
  obtain ⟨m1, w1, w2, w3, w4⟩ := mx_step (a := 1) (by omega) (by omega) g2
  have w1' : (if s2.2 2 + 1 ≤ (1 : Int32) then (1 : Int32) else s2.2 2 + 1) = nI m1 := w1
  rw [w1'] at v1
  rw [v1] at v2
  obtain ⟨m2, x1, x2, x3, x4⟩ := mx_step (a := m1) (by omega) w3 g3
  rw [x1] at v2
  rw [v2] at v3
  obtain ⟨m3, y1, y2, y3, y4⟩ := mx_step (a := m2) (by omega) x3 g4
  rw [y1] at v3
  rw [v3] at v4
  obtain ⟨m4, z1, z2, z3, z4⟩ := mx_step (a := m3) (by omega) y3 g5
  rw [z1] at v4
  rw [v4]
  have hp : ∀ g w m b, pbs F R 1 g w m b → 2 * g + 1 ≤ m4 := by
    intro g w m b q
    unfold pbs at q
    rw [if_pos rfl] at q
    obtain ⟨q, q2, q5, z⟩ := q
    have hne : ∀ k, k ≠ 1 → LB F R k c0 g w m b → ¬ eD F R k (pbs F R k) (2 * g) := by
      intro k hk z y
      rw [pbs_n1 hk] at y
      exact y w m b (by rw [LD_e]; exact z)
    rcases (show q = 2 ∨ q = 3 ∨ q = 4 ∨ q = 5 by omega) with rfl | rfl | rfl | rfl
    · obtain ⟨e', h1, h2, h3⟩ := g2' _ (hne 2 (by omega) z)
      have := w4 e' h2 h3
      omega
    · obtain ⟨e', h1, h2, h3⟩ := g3' _ (hne 3 (by omega) z)
      have := x4 e' h2 h3
      omega
    · obtain ⟨e', h1, h2, h3⟩ := g4' _ (hne 4 (by omega) z)
      have := y4 e' h2 h3
      omega
    · obtain ⟨e', h1, h2, h3⟩ := g5' _ (hne 5 (by omega) z)
      have := z4 e' h2 h3
      omega
  obtain ⟨i1, i2, i3, i4, i5⟩ := r_allB hfu (k := 1) (least := m4) hB hb (by omega) (by omega) (by omega) hp s5.2 hz5 (fun _ => hPC)
  exact ⟨a1, b1, d1, f1, i1, i2, i4⟩
