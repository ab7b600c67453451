/-! the search's steps, and what its success says -/
theorem ci_lt {w m b : Nat} (hw : w < 64) (hm : m < 64) (hb : b < 64) : ci w m b < 262144 := by unfold ci; omega
theorem ci_of {i : Nat} (h : i < 262144) : ∃ w m b, w < 64 ∧ m < 64 ∧ b < 64 ∧ i = ci w m b := ⟨i / 4096, i / 64 % 64, i % 64, by omega, by omega, by omega, by unfold ci; omega⟩
def mkM (c : (Nat → Bool) → Nat) (D : Nat) : List Nat := (List.range D).map (fun d => c (fun s => decide (sp8 d s < 64)))
theorem mkM_g {c : (Nat → Bool) → Nat} {D d : Nat} (h : d < D) : (mkM c D).getD d 0 = c (fun s => decide (sp8 d s < 64)) := by
  unfold mkM
  rw [List.getD_eq_getElem?_getD, List.getElem?_map, List.getElem?_range h]
  rfl
theorem big_t {g : Nat → Nat} (hg : ∀ w, w < 64 → g w < 2 ^ 4096) {i : Nat} (h : ¬ i < 262144) : (mkR g 4096 64).testBit i = false := by
  refine Nat.testBit_lt_two_pow (Nat.lt_of_lt_of_le (mkR_lt (by decide) 64 hg) (Nat.pow_le_pow_right (by decide) ?_))
  omega
theorem MK_b (D : Nat) : MK' 1 (mkM cb D) D := by
  have hP : ∀ p : Nat → Bool, mkR (fun b => if p b then 1 else 0) 1 64 < 2 ^ 64 := fun p => mkR_lt (S := 1) (by decide) 64 (fun i _ => if_lt (by decide))
  constructor
  · intro d hd i h
    rw [mkM_g hd] at h
    have hi : i < 262144 := by
      apply Classical.byContradiction
      intro q
      unfold cb at h
      rw [frc_eq, frc_eq, big_t (fun w _ => row_lt (fun m _ => hP _)) q] at h
      cases h
    obtain ⟨w, m, b, hw, hm, hb, e⟩ := ci_of hi
    rw [e, cb_r _ w m b hw hm hb, decide_eq_true_eq] at h
    refine ⟨hi, ?_⟩
    have e2 : i / 1 % 64 = b := by rw [e]; unfold ci; omega
    rw [e2]
    exact h
  · intro d hd i hi h
    rw [mkM_g hd]
    obtain ⟨w, m, b, hw, hm, hb, e⟩ := ci_of hi
    have e2 : i / 1 % 64 = b := by rw [e]; unfold ci; omega
    rw [e2] at h
    rw [e]
    exact (cb_r _ w m b hw hm hb).mpr (decide_eq_true h)
theorem MK_m (D : Nat) : MK' 64 (mkM cm D) D := by
  constructor
  · intro d hd i h
    rw [mkM_g hd] at h
    have hi : i < 262144 := by
      apply Classical.byContradiction
      intro q
      unfold cm at h
      rw [frc_eq, big_t (fun w _ => row_lt (fun m _ => if_lt (ones_lt _))) q] at h
      cases h
    obtain ⟨w, m, b, hw, hm, hb, e⟩ := ci_of hi
    rw [e, cm_r _ w m b hw hm hb, decide_eq_true_eq] at h
    refine ⟨hi, ?_⟩
    have e2 : i / 64 % 64 = m := by rw [e]; unfold ci; omega
    rw [e2]
    exact h
  · intro d hd i hi h
    rw [mkM_g hd]
    obtain ⟨w, m, b, hw, hm, hb, e⟩ := ci_of hi
    have e2 : i / 64 % 64 = m := by rw [e]; unfold ci; omega
    rw [e2] at h
    rw [e]
    exact (cm_r _ w m b hw hm hb).mpr (decide_eq_true h)
theorem MK_w (D : Nat) : MK' 4096 (mkM cw D) D := by
  constructor
  · intro d hd i h
    rw [mkM_g hd] at h
    have hi : i < 262144 := by
      apply Classical.byContradiction
      intro q
      unfold cw at h
      rw [big_t (fun w _ => if_lt (ones_lt _)) q] at h
      cases h
    obtain ⟨w, m, b, hw, hm, hb, e⟩ := ci_of hi
    rw [e, cw_r _ w m b hw hm hb, decide_eq_true_eq] at h
    refine ⟨hi, ?_⟩
    have e2 : i / 4096 % 64 = w := by rw [e]; unfold ci; omega
    rw [e2]
    exact h
  · intro d hd i hi h
    rw [mkM_g hd]
    obtain ⟨w, m, b, hw, hm, hb, e⟩ := ci_of hi
    have e2 : i / 4096 % 64 = w := by rw [e]; unfold ci; omega
    rw [e2] at h
    rw [e]
    exact (cw_r _ w m b hw hm hb).mpr (decide_eq_true h)
section EngS
variable {M : List Nat} {D d X : Nat} {P : cP}
theorem shb_r (hM : MK' 1 M D) (hd : d < D) (hD : D ≤ 16) (hX : rep X P) : rep (shf 1 M d X) (fun w m b => sp8 (opp d) b < 64 ∧ P w m (sp8 (opp d) b)) := by
  intro w m b hw hm hb
  have e : ci w m b / 1 % 64 = b := by unfold ci; omega
  rw [shf_1 1 (by omega) hM hd hD (ci_lt hw hm hb), e]
  constructor
  · rintro ⟨h1, j, h2, h3, h4⟩
    have ej : j = ci w m (sp8 (opp d) b) := by unfold ci at *; omega
    rw [ej] at h4
    exact ⟨h1, (hX w m _ hw hm h1).mp h4⟩
  · rintro ⟨h1, h2⟩
    exact ⟨h1, ci w m (sp8 (opp d) b), ci_lt hw hm h1, by unfold ci; omega, (hX w m _ hw hm h1).mpr h2⟩
theorem shm_r (hM : MK' 64 M D) (hd : d < D) (hD : D ≤ 16) (hX : rep X P) : rep (shf 64 M d X) (fun w m b => sp8 (opp d) m < 64 ∧ P w (sp8 (opp d) m) b) := by
  intro w m b hw hm hb
  have e : ci w m b / 64 % 64 = m := by unfold ci; omega
  rw [shf_1 64 (by omega) hM hd hD (ci_lt hw hm hb), e]
  constructor
  · rintro ⟨h1, j, h2, h3, h4⟩
    have ej : j = ci w (sp8 (opp d) m) b := by unfold ci at *; omega
    rw [ej] at h4
    exact ⟨h1, (hX w _ b hw h1 hb).mp h4⟩
  · rintro ⟨h1, h2⟩
    exact ⟨h1, ci w (sp8 (opp d) m) b, ci_lt hw h1 hb, by unfold ci; omega, (hX w _ b hw h1 hb).mpr h2⟩
theorem shw_r (hM : MK' 4096 M D) (hd : d < D) (hD : D ≤ 16) (hX : rep X P) : rep (shf 4096 M d X) (fun w m b => sp8 (opp d) w < 64 ∧ P (sp8 (opp d) w) m b) := by
  intro w m b hw hm hb
  have e : ci w m b / 4096 % 64 = w := by unfold ci; omega
  rw [shf_1 4096 (by omega) hM hd hD (ci_lt hw hm hb), e]
  constructor
  · rintro ⟨h1, j, h2, h3, h4⟩
    have ej : j = ci (sp8 (opp d) w) m b := by unfold ci at *; omega
    rw [ej] at h4
    exact ⟨h1, (hX _ m b h1 hm hb).mp h4⟩
  · rintro ⟨h1, h2⟩
    exact ⟨h1, ci (sp8 (opp d) w) m b, ci_lt h1 hm hb, by unfold ci; omega, (hX _ m b h1 hm hb).mpr h2⟩
end EngS
def orD : List Nat → (Nat → Nat) → Nat
  | [], _ => 0
  | d :: t, f => frc (f d) fun a => frc (orD t f) fun c => a ||| c
theorem orD_r {f : Nat → Nat} {P : Nat → cP} : ∀ (ds : List Nat), (∀ d, d ∈ ds → rep (f d) (P d)) → rep (orD ds f) (fun w m b => ∃ d, d ∈ ds ∧ P d w m b)
  | [], _ => rep_iff rep_0 (fun w m b _ _ _ => by simp)
  | d :: t, h => by
    unfold orD
    rw [frc_eq, frc_eq]
    refine rep_iff (rep_or (h d List.mem_cons_self) (orD_r t (fun d hd => h d (List.mem_cons_of_mem _ hd)))) (fun w m b _ _ _ => ?_)
    constructor
    · rintro (q | ⟨e, he, q⟩)
      · exact ⟨d, List.mem_cons_self, q⟩
      · exact ⟨e, List.mem_cons_of_mem _ he, q⟩
    · rintro ⟨e, he, q⟩
      rcases List.mem_cons.mp he with rfl | he
      · exact Or.inl q
      · exact Or.inr ⟨e, he, q⟩
def dk : List Nat := [0, 1, 2, 3, 4, 5, 6, 7]
theorem dk_8 : ∀ d, d ∈ dk → d < 8 := by decide
theorem dk_o : ∀ d, d < 8 → opp d ∈ dk ∧ opp (opp d) = d := by decide
theorem dk_i : ∀ d, d ∈ dk → opp d < 8 := by decide
theorem nx_dk {P : Nat → Prop} {a : Nat} (ha : a < 64) : (∃ d, d ∈ dk ∧ sp8 (opp d) a < 64 ∧ P (sp8 (opp d) a)) ↔ ∃ t, t < 64 ∧ nx a t ∧ P t := by
  constructor
  · rintro ⟨d, hd, h1, h2⟩
    exact ⟨_, h1, (nx_sp a ha _ h1).mpr ⟨opp d, dk_i d hd, rfl⟩, h2⟩
  · rintro ⟨t, ht, h1, h2⟩
    obtain ⟨d, hd, e⟩ := (nx_sp a ha t ht).mp h1
    subst e
    obtain ⟨h3, h4⟩ := dk_o d hd
    exact ⟨opp d, h3, by rw [h4]; exact ht, by rw [h4]; exact h2⟩
def nxb (M : List Nat) (X : Nat) : Nat := orD dk (fun d => shf 1 M d X)
def nxw (M : List Nat) (X : Nat) : Nat := orD dk (fun d => shf 4096 M d X)
theorem nxb_r {M : List Nat} {X : Nat} {P : cP} (hM : MK' 1 M 8) (hX : rep X P) : rep (nxb M X) (fun w m b => ∃ t, t < 64 ∧ nx b t ∧ P w m t) :=
  rep_iff (orD_r dk (fun d hd => shb_r hM (dk_8 d hd) (by omega) hX)) (fun w m b _ _ hb => nx_dk (P := fun t => P w m t) hb)
theorem nxw_r {M : List Nat} {X : Nat} {P : cP} (hM : MK' 4096 M 8) (hX : rep X P) : rep (nxw M X) (fun w m b => ∃ t, t < 64 ∧ nx w t ∧ P t m b) :=
  rep_iff (orD_r dk (fun d hd => shw_r hM (dk_8 d hd) (by omega) hX)) (fun w m b hw _ _ => nx_dk (P := fun t => P t m b) hw)
def sld (M : List Nat) (D d : Nat) : Nat → Nat → Nat
  | 0, _ => 0
  | j + 1, X => frc (shf 64 M (opp d) X) fun S => frc (dif S D) fun Y => frc (sld M D d j Y) fun Z => Y ||| Z
theorem sld_r {M : List Nat} {D d : Nat} (hM : MK' 64 M 16) (hD : rep D (fun w m _ => w = m)) (hd : d < 16) : ∀ (j X : Nat) (P : cP), rep X P → rep (sld M D d j X) (fun w m b => ∃ i, i < j ∧ wk8 d m (i + 1) < 64 ∧ P w (wk8 d m (i + 1)) b ∧ ∀ i', i' ≤ i → wk8 d m i' ≠ w)
  | 0, X, P, _ => rep_iff rep_0 (fun w m b _ _ _ => ⟨fun h => h.elim, fun ⟨i, h, _⟩ => by omega⟩)
  | j + 1, X, P, hX => by
    unfold sld
    rw [frc_eq, frc_eq, frc_eq]
    have h1 := rep_dif (shm_r hM (opp_16 d hd).1 (by omega) hX) hD
    rw [(opp_16 d hd).2] at h1
    refine rep_iff (rep_or h1 (sld_r hM hD hd j _ _ h1)) (fun w m b hw hm hb => ?_)
    constructor
    · rintro (⟨⟨q1, q2⟩, q3⟩ | ⟨i, q1, q2, ⟨⟨q3, q4⟩, q5⟩, q6⟩)
      · exact ⟨0, by omega, q1, q2, fun i' hi => by
          have : i' = 0 := by omega
          subst this
          exact fun z => q3 z.symm⟩
      · refine ⟨i + 1, by omega, q3, q4, fun i' hi => ?_⟩
        rcases Nat.lt_or_ge i' (i + 1) with z | z
        · exact q6 i' (by omega)
        · have : i' = i + 1 := by omega
          subst this
          exact fun z => q5 z.symm
    · rintro ⟨i, q1, q2, q3, q4⟩
      cases i with
      | zero => exact Or.inl ⟨⟨q2, q3⟩, fun z => q4 0 (Nat.le_refl _) z.symm⟩
      | succ i => exact Or.inr ⟨i, by omega, wk8_lt q2, ⟨⟨q2, q3⟩, fun z => q4 (i + 1) (Nat.le_refl _) z.symm⟩, fun i' hi => q4 i' (by omega)⟩
def mbk (M : List Nat) (D k X : Nat) : Nat := orD (wys k) (fun d => sld M D d (rch k) X)
theorem mbk_r {M : List Nat} {D k X : Nat} {P : cP} (hM : MK' 64 M 16) (hD : rep D (fun w m _ => w = m)) (hk : k < 6) (hX : rep X P) : rep (mbk M D k X) (fun w m b => m ≠ w ∧ ∃ t, t < 64 ∧ att k m t w ∧ P w t b) :=
  rep_iff (orD_r (wys k) (fun d hd => sld_r hM hD (wys_16 k hk d hd) (rch k) X P hX)) (fun w m b hw hm hb => by
    constructor
    · rintro ⟨d, hd, i, q1, q2, q3, q4⟩
      exact ⟨q4 0 (Nat.zero_le _), _, q2, ⟨d, hd, i, q1, rfl, fun i' hi => q4 (i' + 1) (by omega)⟩, q3⟩
    · rintro ⟨q0, t, ht, ⟨d, hd, i, q1, e, q4⟩, q3⟩
      subst e
      refine ⟨d, hd, i, q1, ht, q3, fun i' hi => ?_⟩
      cases i' with
      | zero => exact q0
      | succ i' => exact q4 i' (by omega))
/-- a pawn's moves -/
def pmv (M : List Nat) (D DM R1 RL B PB : Nat) : Nat := frc (shf 64 M 0 B) fun Y => frc (dif (dif Y D) DM) fun Z => (Y ||| (shf 64 M 0 Z &&& R1)) ||| (shf 64 M 0 PB &&& RL)
def man (M : List Nat) (D DM R1 RL k B PB : Nat) : Nat := if k = 1 then pmv M D DM R1 RL B PB else mbk M D k B
def onB (F R s : Nat) : Bool := decide (s % 8 < F) && decide (s / 8 < R)
theorem onB_t {F R s : Nat} : onB F R s = true ↔ on F R s := by unfold onB; simp
theorem man_r {F R k M' : Nat} {M : List Nat} {D DM R1 RL B PB : Nat} {P pb : cP} (hB : bd F R) (hM : MK' 64 M 16) (hD : rep D (fun w m _ => w = m)) (hDM : rep DM (fun _ m b => m = b)) (hR1 : rep R1 (fun _ m _ => m / 8 = 1)) (hRL : rep RL (fun _ m _ => m / 8 + 2 = R)) (hk : k < 6) (hX : rep B P) (hP : rep PB pb) (hv : ∀ w m b, P w m b → vB F R k w m b) : ∀ w m b, w < 64 → m < 64 → b < 64 → vB F R k w m b → ((man M D DM R1 RL k B PB).testBit (ci w m b) = true ↔ mst F R k P pb w m b) := by
  intro w m b hw hm hb hvv
  have hR : R ≤ 8 := by omega
  unfold man mst
  by_cases h1 : k = 1
  · rw [if_pos h1, if_pos h1]
    subst h1
    unfold pmv
    rw [frc_eq, frc_eq]
    have a1 := shm_r hM (d := 0) (by omega) (by omega) hX
    have a2 := rep_dif (rep_dif a1 hD) hDM
    have a3 := rep_and (shm_r hM (d := 0) (by omega) (by omega) a2) hR1
    have a4 := rep_and (shm_r hM (d := 0) (by omega) (by omega) hP) hRL
    refine Iff.trans (rep_or (rep_or a1 a3) a4 w m b hw hm hb) ?_
    dsimp only
    have h3 : opp 0 = 3 := rfl
    have hup : m / 8 < 7 := by have := (hvv.2.2.2.2.2.2.2 rfl).2; omega
    have e1 : sp8 3 m = m + 8 := by rw [r_up m hm, if_pos hup]
    rw [h3, e1]
    constructor
    · rintro ((q | ⟨⟨q1, ⟨⟨q2, q3⟩, q4⟩, q5⟩, q6⟩) | ⟨⟨q1, q2⟩, q3⟩)
      · exact Or.inl q.2
      · have e2 : sp8 3 (m + 8) = m + 16 := by rw [r_up (m + 8) q1, if_pos (by omega)]
        rw [e2] at q3
        exact Or.inr (Or.inl ⟨q6, fun z => q4 z.symm, q5, q3⟩)
      · exact Or.inr (Or.inr ⟨q3, q2⟩)
    · rintro (q | ⟨q1, q2, q3, q4⟩ | ⟨q1, q2⟩)
      · exact Or.inl (Or.inl ⟨by omega, q⟩)
      · have e2 : sp8 3 (m + 8) = m + 16 := by rw [r_up (m + 8) (by omega), if_pos (by omega)]
        refine Or.inl (Or.inr ⟨⟨by omega, ⟨⟨?_, fun z => q2 z.symm⟩, q3⟩⟩, q1⟩)
        rw [e2]
        exact ⟨by omega, q4⟩
      · exact Or.inr ⟨⟨by omega, q2⟩, q1⟩
  · rw [if_neg h1, if_neg h1, mbk_r hM hD hk hX w m b hw hm hb]
    constructor
    · rintro ⟨q1, t, q2, q3, q4⟩
      exact ⟨t, q3, fun z => (hv _ _ _ q4).2.2.2.1 z.symm, q4⟩
    · rintro ⟨t, q1, q2, q3⟩
      exact ⟨fun z => hvv.2.2.2.1 z.symm, t, on64 hR (hv _ _ _ q3).2.1, q1, q3⟩
