/-! white's levels -/
section White
variable {F R n : Nat} {al ff lf : Int64} {sqf stf : Nat → Int32} {vd kn : Nat → Int64} {k : Nat} {KW : cP}
/-- fresh rows of white hold what is candidate, valid and not known -/
def AF (F R n k : Nat) (KW : cP) (fr0 fr : Nat → Int64) (A : Nat → Nat → Prop) : Prop := (∀ r, r < n * n → ∀ c, c < 64 → (tb (fr r) c = true ↔ lc F n (fun w m b => vW F R k w m b ∧ ¬ KW w m b) r c ∧ A r c)) ∧ ∀ r, r < n * n → fr (n * n + r) = fr0 (n * n + r)
theorem AF.iff {fr0 fr : Nat → Int64} {A A' : Nat → Nat → Prop} (h : AF F R n k KW fr0 fr A) (e : ∀ r c, r < n * n → c < 64 → (A r c ↔ A' r c)) : AF F R n k KW fr0 fr A' := ⟨fun r hr c hc => (h.1 r hr c hc).trans (and_congr Iff.rfl (e r c hr hc)), h.2⟩
theorem c_win (hD : BD F R n al ff lf sqf stf) (hv0 : RS F n 0 vd (vW F R k)) (hk0 : RS F n 0 kn KW) {fr0 fr : Nat → Int64} {A : Nat → Nat → Prop} (h : AF F R n k KW fr0 fr A) {w m : Nat} (hw : w < n) (hm : m < n) (set : Int64) : AF F R n k KW fr0 (mX3_win (n * n) vd kn fr n (nI w) (nI m) set) (fun r c => A r c ∨ (r = w * n + m ∧ tb set c = true)) := by
  have hN := N_b hD.n64
  have hrow := r_lt hw hm
  unfold mX3_win
  rw [c_row0, c_add (show w * n + m < 2 * (n * n) by omega) (by omega), c_at (show w * n + m < 2 * (n * n) by omega) (by omega), c_at (show w * n + m < 2 * (n * n) by omega) (by omega)]
  constructor
  · intro r hr c hc
    by_cases e : r = w * n + m
    · rw [e, pk_uLs, tb_or, Bool.or_eq_true, h.1 _ hrow c hc, tb_and, tb_and, Bool.and_eq_true, Bool.and_eq_true, tb_not _ hc, Bool.not_eq_true']
      have a1 := hv0 _ hrow c hc
      have a2 := hk0 _ hrow c hc
      rw [Nat.zero_add] at a1 a2
      rw [a1]
      have a3 : tb (kn (w * n + m)) c = false ↔ ¬ lc F n KW (w * n + m) c := by
        rw [← a2]; simp
      rw [a3]
      unfold lc
      constructor
      · rintro (⟨q1, q2⟩ | ⟨⟨q1, q2⟩, q3⟩)
        · exact ⟨q1, Or.inl q2⟩
        · exact ⟨⟨q2.1, q2.2, fun z => q3 ⟨q2.1, z⟩⟩, Or.inr ⟨rfl, q1⟩⟩
      · rintro ⟨⟨q1, q2, q3⟩, q4 | ⟨-, q4⟩⟩
        · exact Or.inl ⟨⟨q1, q2, q3⟩, q4⟩
        · exact Or.inr ⟨⟨q4, q1, q2⟩, fun z => q3 z.2⟩
    · rw [pk_uLn e, h.1 r hr c hc]
      exact and_congr Iff.rfl ⟨Or.inl, fun q => q.elim id (fun z => absurd z.1 e)⟩
  · intro r hr
    rw [pk_uLn (by omega)]
    exact h.2 r hr
theorem c_bking (hD : BD F R n al ff lf sqf stf) (hv0 : RS F n 0 vd (vW F R k)) (hk0 : RS F n 0 kn KW) {fr0 fr : Nat → Int64} {A : Nat → Nat → Prop} (h : AF F R n k KW fr0 fr A) {w m : Nat} (hw : w < n) (hm : m < n) (set : Int64) : AF F R n k KW fr0 (mX3_goBackKing (n * n) vd kn fr (nI F) n al ff lf (nI w) (nI m) set) (fun r c => A r c ∨ ∃ i, i < n ∧ nx (cs F w) (cs F i) ∧ i ≠ m ∧ r = i * n + m ∧ tb set c = true) := by
  have hn64 := hD.n64
  have key := loop1 (n := n) (fun k1 i1 s => mX3_goBackKing_L1 (n * n) vd kn (nI F) n al ff lf (nI w) (nI m) set k1 i1 s)
    (fun i1 s => if lg_cmp (((mX0_around (nI F) al ff lf (nI w)) &&& ((mX0_bit (nI m)) ^^^ (-1 : Int64))) &&& (mX0_bit (nI i1))) (0 : Int64) = 0 then s else mX3_win (n * n) vd kn s n (nI i1) (nI m) set)
    (fun _ _ => by rw [mX3_goBackKing_L1]) (fun k i s => by
      rw [mX3_goBackKing_L1]
      split <;> rfl)
    (fun T s => AF F R n k KW fr0 s (fun r c => A r c ∨ ∃ i, i < T ∧ nx (cs F w) (cs F i) ∧ i ≠ m ∧ r = i * n + m ∧ tb set c = true))
    (fun i s hi hI => by
      have hb : tb ((mX0_around (nI F) al ff lf (nI w)) &&& ((mX0_bit (nI m)) ^^^ (-1 : Int64))) i = true ↔ nx (cs F w) (cs F i) ∧ i ≠ m := by
        rw [tb_and, Bool.and_eq_true, c_around hD hw (by omega), tb_not _ (by omega), tb_bit (by omega), Bool.not_eq_true', decide_eq_false_iff_not]
        exact ⟨fun q => ⟨q.1.2, q.2⟩, fun q => ⟨⟨hi, q.1⟩, q.2⟩⟩
      by_cases hc : tb ((mX0_around (nI F) al ff lf (nI w)) &&& ((mX0_bit (nI m)) ^^^ (-1 : Int64))) i = false
      · rw [if_pos ((tb_andbit _ (by omega)).mpr hc)]
        refine hI.iff (fun r c _ _ => or_congr Iff.rfl ⟨fun ⟨j, q1, q2⟩ => ⟨j, by omega, q2⟩, fun ⟨j, q1, q2, q3, q4⟩ => ⟨j, ?_, q2, q3, q4⟩⟩)
        rcases Nat.lt_or_ge j i with z | z
        · exact z
        · have : j = i := by omega
          subst this
          rw [hb.mpr ⟨q2, q3⟩] at hc
          cases hc
      · rw [if_neg (fun q => hc ((tb_andbit _ (by omega)).mp q))]
        have hh := hb.mp (by
          cases z : tb ((mX0_around (nI F) al ff lf (nI w)) &&& ((mX0_bit (nI m)) ^^^ (-1 : Int64))) i with
          | true => rfl
          | false => exact absurd z hc)
        refine (c_win hD hv0 hk0 hI hi hm set).iff (fun r c _ _ => ?_)
        constructor
        · rintro ((q | ⟨j, q1, q2⟩) | ⟨q1, q2⟩)
          · exact Or.inl q
          · exact Or.inr ⟨j, by omega, q2⟩
          · exact Or.inr ⟨i, by omega, hh.1, hh.2, q1, q2⟩
        · rintro (q | ⟨j, q1, q2, q3, q4, q5⟩)
          · exact Or.inl (Or.inl q)
          · rcases Nat.lt_or_ge j i with z | z
            · exact Or.inl (Or.inr ⟨j, z, q2, q3, q4, q5⟩)
            · have : j = i := by omega
              subst this
              exact Or.inr ⟨q4, q5⟩)
    fr (h.iff (fun r c _ _ => ⟨Or.inl, fun q => q.elim id (fun ⟨j, z, _⟩ => by omega)⟩))
  exact key
theorem c_bman (hD : BD F R n al ff lf sqf stf) (hk : k < 6) (hv0 : RS F n 0 vd (vW F R k)) (hk0 : RS F n 0 kn KW) {fr0 fr : Nat → Int64} {A : Nat → Nat → Prop} (h : AF F R n k KW fr0 fr A) {w m : Nat} (hw : w < n) (hm : m < n) (set : Int64) : AF F R n k KW fr0 (mX3_goBackMan (nI k) (n * n) vd kn fr n stf (nI w) (nI m) set) (fun r c => A r c ∨ ∃ i, i < n ∧ att k (cs F m) (cs F i) (cs F w) ∧ i ≠ w ∧ r = w * n + i ∧ tb set c = true) := by
  have hn64 := hD.n64
  have key := loop1 (n := n) (fun k1 i1 s => mX3_goBackMan_L1 (nI k) (n * n) vd kn n stf (nI w) (nI m) set k1 i1 s)
    (fun i1 s => if lg_cmp (((mX0_attacked n stf (nI k) (nI m) (mX0_bit (nI w))) &&& ((mX0_bit (nI w)) ^^^ (-1 : Int64))) &&& (mX0_bit (nI i1))) (0 : Int64) = 0 then s else mX3_win (n * n) vd kn s n (nI w) (nI i1) set)
    (fun _ _ => by rw [mX3_goBackMan_L1]) (fun k i s => by
      rw [mX3_goBackMan_L1]
      split <;> rfl)
    (fun T s => AF F R n k KW fr0 s (fun r c => A r c ∨ ∃ i, i < T ∧ att k (cs F m) (cs F i) (cs F w) ∧ i ≠ w ∧ r = w * n + i ∧ tb set c = true))
    (fun i s hi hI => by
      have hb : tb ((mX0_attacked n stf (nI k) (nI m) (mX0_bit (nI w))) &&& ((mX0_bit (nI w)) ^^^ (-1 : Int64))) i = true ↔ att k (cs F m) (cs F i) (cs F w) ∧ i ≠ w := by
        rw [tb_and, Bool.and_eq_true, c_att hD hk hm hw (by omega), tb_not _ (by omega), tb_bit (by omega), Bool.not_eq_true', decide_eq_false_iff_not]
        exact ⟨fun q => ⟨q.1.2, q.2⟩, fun q => ⟨⟨hi, q.1⟩, q.2⟩⟩
      by_cases hc : tb ((mX0_attacked n stf (nI k) (nI m) (mX0_bit (nI w))) &&& ((mX0_bit (nI w)) ^^^ (-1 : Int64))) i = false
      · rw [if_pos ((tb_andbit _ (by omega)).mpr hc)]
        refine hI.iff (fun r c _ _ => or_congr Iff.rfl ⟨fun ⟨j, q1, q2⟩ => ⟨j, by omega, q2⟩, fun ⟨j, q1, q2, q3, q4⟩ => ⟨j, ?_, q2, q3, q4⟩⟩)
        rcases Nat.lt_or_ge j i with z | z
        · exact z
        · have : j = i := by omega
          subst this
          rw [hb.mpr ⟨q2, q3⟩] at hc
          cases hc
      · rw [if_neg (fun q => hc ((tb_andbit _ (by omega)).mp q))]
        have hh := hb.mp (by
          cases z : tb ((mX0_attacked n stf (nI k) (nI m) (mX0_bit (nI w))) &&& ((mX0_bit (nI w)) ^^^ (-1 : Int64))) i with
          | true => rfl
          | false => exact absurd z hc)
        refine (c_win hD hv0 hk0 hI hw hi set).iff (fun r c _ _ => ?_)
        constructor
        · rintro ((q | ⟨j, q1, q2⟩) | ⟨q1, q2⟩)
          · exact Or.inl q
          · exact Or.inr ⟨j, by omega, q2⟩
          · exact Or.inr ⟨i, by omega, hh.1, hh.2, q1, q2⟩
        · rintro (q | ⟨j, q1, q2, q3, q4, q5⟩)
          · exact Or.inl (Or.inl q)
          · rcases Nat.lt_or_ge j i with z | z
            · exact Or.inl (Or.inr ⟨j, z, q2, q3, q4, q5⟩)
            · have : j = i := by omega
              subst this
              exact Or.inr ⟨q4, q5⟩)
    fr (h.iff (fun r c _ _ => ⟨Or.inl, fun q => q.elim id (fun ⟨j, z, _⟩ => by omega)⟩))
  exact key
theorem r_dn : ∀ m, m < 64 → sp8 0 m = if 8 ≤ m then m - 8 else 64 := by decide +kernel
/-- what a pawn's step back gives -/
def pbk (F n w m : Nat) (r c : Nat) : Prop := 8 ≤ cs F m ∧ sc F (cs F m - 8) ≠ w ∧ (r = w * n + sc F (cs F m - 8) ∨ (16 ≤ cs F m ∧ (cs F m - 16) / 8 = 1 ∧ c ≠ sc F (cs F m - 8) ∧ r = w * n + sc F (cs F m - 16)))
theorem c_bpawn (hD : BD F R n al ff lf sqf stf) (hv0 : RS F n 0 vd (vW F R k)) (hk0 : RS F n 0 kn KW) {fr0 fr : Nat → Int64} {A : Nat → Nat → Prop} (h : AF F R n k KW fr0 fr A) {w m : Nat} (hw : w < n) (hm : m < n) (set : Int64) : AF F R n k KW fr0 (mX3_goBackPawn (n * n) vd kn fr n sqf stf (nI w) (nI m) set) (fun r c => A r c ∨ (pbk F n w m r c ∧ tb set c = true)) := by
  have hB := hD.1
  have hn := hD.2.1
  have hn64 := hD.n64
  have ho := cs_on hB (show m < F * R by omega)
  have h64 := on64 (by omega) ho
  unfold mX3_goBackPawn
  rw [show (0 : Int32) = nI 0 from rfl, c_step hD hm (by omega), r_dn _ h64]
  by_cases h8 : 8 ≤ cs F m
  · rw [if_pos h8]
    have ho1 : on F R (cs F m - 8) := ⟨by have := ho.1; omega, by have := ho.2; omega⟩
    have hl1 : sc F (cs F m - 8) < n := by rw [hn]; exact sc_lt hB ho1
    rw [clI_on ho1, if_neg (nI_nm1 _ (by omega))]
    by_cases hw1 : sc F (cs F m - 8) = w
    · rw [if_pos (by rw [hw1])]
      exact h.iff (fun r c _ _ => ⟨Or.inl, fun q => q.elim id (fun z => absurd hw1 z.1.2.1)⟩)
    · rw [if_neg (fun q => hw1 ((nI_eq64 (by omega) (by omega)).mp q)), c_step hD hl1 (by omega), cs_sc hB ho1, r_dn _ (by omega)]
      have one := c_win hD hv0 hk0 h hw hl1 set
      have only1 : ¬ (16 ≤ cs F m ∧ (cs F m - 16) / 8 = 1) → AF F R n k KW fr0 (mX3_win (n * n) vd kn fr n (nI w) (nI (sc F (cs F m - 8))) set) (fun r c => A r c ∨ (pbk F n w m r c ∧ tb set c = true)) := fun hno => one.iff (fun r c _ _ => or_congr Iff.rfl ⟨fun z => ⟨⟨h8, hw1, Or.inl z.1⟩, z.2⟩, fun z => ⟨z.1.2.2.elim id (fun y => absurd ⟨y.1, y.2.1⟩ hno), z.2⟩⟩)
      by_cases h16 : 8 ≤ cs F m - 8
      · rw [if_pos h16]
        have e16 : cs F m - 8 - 8 = cs F m - 16 := by omega
        rw [e16]
        have ho2 : on F R (cs F m - 16) := ⟨by have := ho.1; omega, by have := ho.2; omega⟩
        have hl2 : sc F (cs F m - 16) < n := by rw [hn]; exact sc_lt hB ho2
        rw [clI_on ho2, if_neg (nI_nm1 _ (by omega)), c_rank hD hl2, cs_sc hB ho2]
        by_cases hr1 : (cs F m - 16) / 8 = 1
        · rw [if_pos (by rw [hr1]; rfl)]
          refine (c_win hD hv0 hk0 one hw hl2 (set &&& ((mX0_bit (nI (sc F (cs F m - 8)))) ^^^ (-1 : Int64)))).iff (fun r c _ hc => ?_)
          rw [tb_and, Bool.and_eq_true, tb_not _ hc, tb_bit (by omega), Bool.not_eq_true', decide_eq_false_iff_not]
          constructor
          · rintro ((q | q) | ⟨q1, q2, q3⟩)
            · exact Or.inl q
            · exact Or.inr ⟨⟨h8, hw1, Or.inl q.1⟩, q.2⟩
            · exact Or.inr ⟨⟨h8, hw1, Or.inr ⟨by omega, hr1, q3, q1⟩⟩, q2⟩
          · rintro (q | ⟨⟨-, -, q | ⟨-, -, q1, q2⟩⟩, q3⟩)
            · exact Or.inl (Or.inl q)
            · exact Or.inl (Or.inr ⟨q, q3⟩)
            · exact Or.inr ⟨q2, q3, q1⟩
        · rw [if_neg (show ¬ nI ((cs F m - 16) / 8) = (1 : Int32) from fun q => hr1 ((nI_eq64 (by omega) (show 1 < 64 by omega)).mp q))]
          exact only1 (fun z => hr1 z.2)
      · rw [if_neg h16, clI_no (by intro q; have := on64 (show R ≤ 8 by omega) q; omega), if_pos rfl]
        exact only1 (fun z => by omega)
  · rw [if_neg h8, clI_no (by intro q; have := on64 (show R ≤ 8 by omega) q; omega), if_pos rfl]
    exact h.iff (fun r c _ _ => ⟨Or.inl, fun q => q.elim id (fun z => absurd z.1.1 h8)⟩)
/-- what one source gives -/
def src (F n k w m r c : Nat) : Prop := (∃ i, i < n ∧ nx (cs F w) (cs F i) ∧ i ≠ m ∧ r = i * n + m) ∨ (if k = 1 then pbk F n w m r c else ∃ i, i < n ∧ att k (cs F m) (cs F i) (cs F w) ∧ i ≠ w ∧ r = w * n + i)
theorem c_back (hD : BD F R n al ff lf sqf stf) (hk : k < 6) (hv0 : RS F n 0 vd (vW F R k)) (hk0 : RS F n 0 kn KW) {fr0 fr : Nat → Int64} {A : Nat → Nat → Prop} (h : AF F R n k KW fr0 fr A) {w m : Nat} (hw : w < n) (hm : m < n) (set : Int64) : AF F R n k KW fr0 (mX3_goBack (nI k) (n * n) vd kn fr (nI F) n al ff lf sqf stf (nI w) (nI m) set) (fun r c => A r c ∨ (src F n k w m r c ∧ tb set c = true)) := by
  have hK := c_bking hD hv0 hk0 h hw hm set
  unfold mX3_goBack src
  by_cases h1 : k = 1
  · rw [if_pos (by rw [h1]; rfl)]
    refine (c_bpawn hD hv0 hk0 hK hw hm set).iff (fun r c _ _ => ?_)
    rw [if_pos h1]
    constructor
    · rintro ((q | ⟨i, q1, q2, q3, q4, q5⟩) | ⟨q1, q2⟩)
      · exact Or.inl q
      · exact Or.inr ⟨Or.inl ⟨i, q1, q2, q3, q4⟩, q5⟩
      · exact Or.inr ⟨Or.inr q1, q2⟩
    · rintro (q | ⟨⟨i, q1, q2, q3, q4⟩ | q1, q5⟩)
      · exact Or.inl (Or.inl q)
      · exact Or.inl (Or.inr ⟨i, q1, q2, q3, q4, q5⟩)
      · exact Or.inr ⟨q1, q5⟩
  · rw [if_neg (by rw [show (1 : Int32) = nI 1 from rfl, nI_eq64 (by omega) (by omega)]; exact h1)]
    refine (c_bman hD hk hv0 hk0 hK hw hm set).iff (fun r c _ _ => ?_)
    rw [if_neg h1]
    constructor
    · rintro ((q | ⟨i, q1, q2, q3, q4, q5⟩) | ⟨i, q1, q2, q3, q4, q5⟩)
      · exact Or.inl q
      · exact Or.inr ⟨Or.inl ⟨i, q1, q2, q3, q4⟩, q5⟩
      · exact Or.inr ⟨Or.inr ⟨i, q1, q2, q3, q4⟩, q5⟩
    · rintro (q | ⟨⟨i, q1, q2, q3, q4⟩ | ⟨i, q1, q2, q3, q4⟩, q5⟩)
      · exact Or.inl (Or.inl q)
      · exact Or.inl (Or.inr ⟨i, q1, q2, q3, q4, q5⟩)
      · exact Or.inr ⟨i, q1, q2, q3, q4, q5⟩
/-- all sources -/
theorem c_whiteL (hD : BD F R n al ff lf sqf stf) (hk : k < 6) (hv0 : RS F n 0 vd (vW F R k)) (hk0 : RS F n 0 kn KW) {fr0 : Nat → Int64} {B : cP} (hz : ∀ r, r < n * n → fr0 r = 0) (hB : RS F n (n * n) fr0 B) : AF F R n k KW fr0 (mX3_findWhite_L1 (nI k) (n * n) vd kn (nI F) n al ff lf sqf stf n 0 fr0) (fun r c => ∃ q, q < n * n ∧ lc F n B q c ∧ src F n k (q / n) (q % n) r c) := by
  have hN := N_b hD.n64
  have key := loop2 (σ := Nat → Int64) (n := n) (fun i1 k2 i2 s => mX3_findWhite_L2 (nI k) (n * n) vd kn (nI F) n al ff lf sqf stf i1 k2 i2 s) (fun k1 i1 s => mX3_findWhite_L1 (nI k) (n * n) vd kn (nI F) n al ff lf sqf stf k1 i1 s)
    (fun i1 i2 s => if lg_cmp (mX3_at (2 * (n * n)) s (mX3_rowOf (n * n) n (1 : Int32) (nI i1) (nI i2))) (0 : Int64) = 0 then s else mX3_goBack (nI k) (n * n) vd kn s (nI F) n al ff lf sqf stf (nI i1) (nI i2) (mX3_at (2 * (n * n)) s (mX3_rowOf (n * n) n (1 : Int32) (nI i1) (nI i2))))
    (fun _ _ _ => by rw [mX3_findWhite_L2]) (fun _ _ _ _ => by
      rw [mX3_findWhite_L2]
      split <;> rfl) (fun _ _ => by rw [mX3_findWhite_L1]) (fun _ _ _ => by rw [mX3_findWhite_L1])
    (fun T s => AF F R n k KW fr0 s (fun r c => ∃ q, q < T ∧ lc F n B q c ∧ src F n k (q / n) (q % n) r c))
    (fun w m s hw hm hI => by
      have hrow := r_lt hw hm
      obtain ⟨e1, e2⟩ := r_dm (w := w) hm
      have hset : mX3_at (2 * (n * n)) s (mX3_rowOf (n * n) n (1 : Int32) (nI w) (nI m)) = fr0 (n * n + (w * n + m)) := by
        rw [c_row1, c_at (by omega) (by omega)]
        exact hI.2 _ hrow
      rw [hset]
      have hbits := hB _ hrow
      have more : ∀ r c, c < 64 → ((∃ q, q < w * n + m + 1 ∧ lc F n B q c ∧ src F n k (q / n) (q % n) r c) ↔ (∃ q, q < w * n + m ∧ lc F n B q c ∧ src F n k (q / n) (q % n) r c) ∨ (src F n k w m r c ∧ tb (fr0 (n * n + (w * n + m))) c = true)) := by
        intro r c hc
        rw [hbits c hc]
        constructor
        · rintro ⟨q, q1, q2, q3⟩
          rcases Nat.lt_or_ge q (w * n + m) with z | z
          · exact Or.inl ⟨q, z, q2, q3⟩
          · have : q = w * n + m := by omega
            subst this
            rw [e1, e2] at q3
            exact Or.inr ⟨q3, q2⟩
        · rintro (⟨q, q1, q2, q3⟩ | ⟨q1, q2⟩)
          · exact ⟨q, by omega, q2, q3⟩
          · exact ⟨w * n + m, by omega, q2, by rw [e1, e2]; exact q1⟩
      by_cases hc0 : lg_cmp (fr0 (n * n + (w * n + m))) (0 : Int64) = 0
      · rw [if_pos hc0]
        have h0 := (tb_cmp0 _).mp hc0
        refine hI.iff (fun r c _ hc => ?_)
        rw [more r c hc, h0, tb_0]
        exact ⟨Or.inl, fun q => q.elim id (fun z => by cases z.2)⟩
      · rw [if_neg hc0]
        exact (c_back hD hk hv0 hk0 hI hw hm _).iff (fun r c _ hc => (more r c hc).symm))
    fr0 ⟨fun r hr c hc => by
      rw [hz r hr, tb_0]
      exact ⟨fun q => (by cases q), fun ⟨_, q, z, _⟩ => by omega⟩, fun r hr => rfl⟩
  exact key
/-- the sources are white's moves -/
theorem src_iff (hB : bd F R) (hn : n = F * R) (hk : k < 6) (hk1 : 1 ≤ k) {B pb : cP} (hBv : ∀ w m b, B w m b → vB F R k w m b) {r c : Nat} (hr : r < n * n) (hv : lc F n (vW F R k) r c) : (∃ q, q < n * n ∧ lc F n B q c ∧ src F n k (q / n) (q % n) r c) ∨ (k = 1 ∧ cs F (r % n) / 8 + 2 = R ∧ pb (cs F (r / n)) (cs F (r % n) + 8) (cs F c)) ↔ (∃ v, nx (cs F (r / n)) v ∧ B v (cs F (r % n)) (cs F c)) ∨ mst F R k B pb (cs F (r / n)) (cs F (r % n)) (cs F c) := by
  have hn9 := n_9 hB
  have hn64 := n_64 hB
  have hR : R ≤ 8 := by omega
  obtain ⟨hcn, hvw⟩ := hv
  have hw : r / n < n := by rw [Nat.div_lt_iff_lt_mul (by omega)]; exact hr
  have hm : r % n < n := Nat.mod_lt _ (by omega)
  have er : r = r / n * n + r % n := by have := Nat.mod_add_div r n; rw [Nat.mul_comm n] at this; omega
  generalize r / n = w at *
  generalize r % n = m at *
  have cell : ∀ s, on F R s → sc F s < n ∧ cs F (sc F s) = s := fun s h => ⟨by rw [hn]; exact sc_lt hB h, cs_sc hB h⟩
  have mk : ∀ w' m', on F R w' → on F R m' → B w' m' (cs F c) → sc F w' * n + sc F m' < n * n ∧ lc F n B (sc F w' * n + sc F m') c ∧ (sc F w' * n + sc F m') / n = sc F w' ∧ (sc F w' * n + sc F m') % n = sc F m' := by
    intro w' m' h1 h2 h3
    obtain ⟨a1, a2⟩ := cell w' h1
    obtain ⟨b1, b2⟩ := cell m' h2
    obtain ⟨e1, e2⟩ := r_dm (w := sc F w') b1
    refine ⟨r_lt a1 b1, ⟨hcn, ?_⟩, e1, e2⟩
    rw [e1, e2, a2, b2]
    exact h3
  constructor
  · rintro (⟨q, hq, ⟨-, hb⟩, hs⟩ | ⟨q1, q2, q3⟩)
    · have hqm : q % n < n := Nat.mod_lt _ (by omega)
      have hqw : q / n < n := by rw [Nat.div_lt_iff_lt_mul (by omega)]; exact hq
      rcases hs with ⟨i, hi, h1, h2, h3⟩ | hs
      · rw [er] at h3
        obtain ⟨e1, e2⟩ := dn_inj hm hqm h3
        rw [e1, e2]
        exact Or.inl ⟨_, nx_sym h1, hb⟩
      · right
        unfold mst
        by_cases hk1' : k = 1
        · rw [if_pos hk1'] at hs ⊢
          obtain ⟨h8, hw1, h3⟩ := hs
          have ho := cs_on hB (show q % n < F * R by omega)
          have ho1 : on F R (cs F (q % n) - 8) := ⟨by have := ho.1; omega, by have := ho.2; omega⟩
          rcases h3 with h3 | ⟨h16, hr1, hcne, h3⟩
          · rw [er] at h3
            obtain ⟨e1, e2⟩ := dn_inj hm (cell _ ho1).1 h3
            rw [e1, e2, (cell _ ho1).2]
            rw [show cs F (q % n) - 8 + 8 = cs F (q % n) by omega]
            exact Or.inl hb
          · have ho2 : on F R (cs F (q % n) - 16) := ⟨by have := ho.1; omega, by have := ho.2; omega⟩
            rw [er] at h3
            obtain ⟨e1, e2⟩ := dn_inj hm (cell _ ho2).1 h3
            rw [e1, e2, (cell _ ho2).2]
            refine Or.inr (Or.inl ⟨hr1, ?_, ?_, ?_⟩)
            · intro z
              apply hw1
              rw [show cs F (q % n) - 16 + 8 = cs F (q % n) - 8 by omega] at z
              rw [z, sc_cs hB (by omega)]
            · intro z
              apply hcne
              rw [show cs F (q % n) - 16 + 8 = cs F (q % n) - 8 by omega] at z
              rw [z, sc_cs hB (by omega)]
            · rw [show cs F (q % n) - 16 + 16 = cs F (q % n) by omega]
              exact hb
        · rw [if_neg hk1'] at hs ⊢
          obtain ⟨i, hi, h1, h2, h3⟩ := hs
          rw [er] at h3
          obtain ⟨e1, e2⟩ := dn_inj hm hi h3
          rw [e1, e2]
          exact ⟨cs F (q % n), att_sym hk hk1' (cs_64 hB (by omega)) h1, fun z => (hBv _ _ _ hb).2.2.2.1 z.symm, hb⟩
    · right
      unfold mst
      rw [if_pos q1]
      exact Or.inr (Or.inr ⟨q2, q3⟩)
  · rintro (⟨v, h1, h2⟩ | hs)
    · left
      have hbv := hBv _ _ _ h2
      obtain ⟨a1, a2, a3, a4⟩ := mk _ _ hbv.1 hbv.2.1 h2
      refine ⟨_, a1, a2, ?_⟩
      rw [a3, a4]
      left
      refine ⟨w, hw, by rw [(cell _ hbv.1).2]; exact nx_sym h1, ?_, ?_⟩
      · rw [sc_cs hB (by omega)]
        intro z
        exact hvw.1.2.2.2.1 (by rw [z])
      · rw [sc_cs hB (by omega)]
        exact er
    · unfold mst at hs
      by_cases hk1' : k = 1
      · rw [if_pos hk1'] at hs
        have hm8 : 8 ≤ cs F m + 8 := by omega
        rcases hs with hs | ⟨h1, h2, h3, hs⟩ | ⟨h1, h2⟩
        · left
          have hbv := hBv _ _ _ hs
          obtain ⟨a1, a2, a3, a4⟩ := mk _ _ hbv.1 hbv.2.1 hs
          refine ⟨_, a1, a2, ?_⟩
          rw [a3, a4]
          right
          rw [if_pos hk1']
          unfold pbk
          rw [(cell _ hbv.2.1).2, show cs F m + 8 - 8 = cs F m by omega, sc_cs hB (show m < F * R by omega), sc_cs hB (show w < F * R by omega)]
          exact ⟨hm8, fun z => hvw.1.2.2.2.1 (by rw [z]), Or.inl er⟩
        · left
          have hbv := hBv _ _ _ hs
          obtain ⟨a1, a2, a3, a4⟩ := mk _ _ hbv.1 hbv.2.1 hs
          have ho1 : on F R (cs F m + 8) := ⟨by have := hvw.1.2.1.1; omega, by have := hbv.2.1.2; omega⟩
          refine ⟨_, a1, a2, ?_⟩
          rw [a3, a4]
          right
          rw [if_pos hk1']
          unfold pbk
          rw [(cell _ hbv.2.1).2, show cs F m + 16 - 8 = cs F m + 8 by omega, show cs F m + 16 - 16 = cs F m by omega, sc_cs hB (show m < F * R by omega), sc_cs hB (show w < F * R by omega)]
          refine ⟨by omega, fun z => ?_, Or.inr ⟨by omega, h1, fun z => ?_, er⟩⟩
          · apply h2
            rw [← (cell _ ho1).2, z]
          · apply h3
            rw [← (cell _ ho1).2, ← z]
        · exact Or.inr ⟨hk1', h1, h2⟩
      · rw [if_neg hk1'] at hs
        obtain ⟨t, h1, h2, h3⟩ := hs
        left
        have hbv := hBv _ _ _ h3
        obtain ⟨a1, a2, a3, a4⟩ := mk _ _ hbv.1 hbv.2.1 h3
        refine ⟨_, a1, a2, ?_⟩
        rw [a3, a4]
        right
        rw [if_neg hk1']
        refine ⟨m, hm, ?_, ?_, ?_⟩
        · rw [(cell _ hbv.2.1).2, (cell _ hbv.1).2]
          exact att_sym hk hk1' (on64 hR hbv.2.1) h1
        · rw [sc_cs hB (by omega)]
          intro z
          exact hvw.1.2.2.2.1 (by rw [z])
        · rw [sc_cs hB (by omega)]
          exact er
end White
