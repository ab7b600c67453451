/-! counts and the i-th position -/
theorem bc_row {n o who : Nat} {vd kn pl : Nat → Int64} {nn : Int32} (r : Nat) : mJ13_bitCount_95d88 (mX3_having (n * n) vd kn pl (nI who) (nI (o + r)) nn) = nI (ct (fun c => pC n o vd kn pl who nn (64 * r + c)) 64) := by
  rw [c_bc]
  refine congrArg nI (ct_cong (fun c hc => ?_))
  unfold pC
  rw [show (64 * r + c) / 64 = r by omega, show (64 * r + c) % 64 = c by omega]
theorem ct_row {n o who : Nat} {vd kn pl : Nat → Int64} {nn : Int32} (r : Nat) : ct (pC n o vd kn pl who nn) (64 * (r + 1)) = ct (pC n o vd kn pl who nn) (64 * r) + ct (fun c => pC n o vd kn pl who nn (64 * r + c)) 64 := by
  rw [show 64 * (r + 1) = 64 * r + 64 by omega, ct_split]
theorem c_amount {n who : Nat} {vd kn pl : Nat → Int64} {nn : Int32} : mX3_amount (n * n) vd kn pl (nI who) nn = nI (ct (pC n (who * (n * n)) vd kn pl who nn) (n * n * 64)) := by
  have key := loop1 (σ := Int32) (n := n * n) (fun k1 i1 s => mX3_amount_L1 (n * n) vd kn pl (nI who) nn k1 i1 s)
    (fun i1 s => s + (mJ13_bitCount_95d88 (mX3_having (n * n) vd kn pl (nI who) ((nI who * (nI (n * n))) + (nI i1)) nn)))
    (fun _ _ => by rw [mX3_amount_L1]) (fun _ _ _ => by rw [mX3_amount_L1])
    (fun T s => s = nI (ct (pC n (who * (n * n)) vd kn pl who nn) (64 * T)))
    (fun T s hT hI => by
      rw [hI, pk_mul, nI_add, bc_row, nI_add, ct_row]) (0 : Int32) rfl
  unfold mX3_amount
  rw [Nat.mul_comm (n * n) 64]
  exact key
/-- the reference's count -/
theorem r_countL {L : Nat → Nat → Int32 → Int32} {V : Nat → Int32 → Int32} {one : Nat → Bool} (h0 : ∀ i s, L 0 i s = s) (h1 : ∀ k i s, L (k + 1) i s = L k (i + 1) (V i s)) (hV : ∀ i s, V i s = if zI (one i) = 0 then s else s + 1) (n : Nat) : L n 0 0 = nI (ct one n) := by
  have key := loop1 (σ := Int32) (n := n) L V h0 h1 (fun T s => s = nI (ct one T)) (fun T s hT hI => by
    rw [hV, hI, ct_succ]
    by_cases h : one T = true
    · rw [if_neg (by rw [zI_b0]; exact fun q => q h), if_pos h]
      exact nI_1 _
    · rw [if_pos (by rw [zI_b0]; exact h), if_neg h]; rfl) (0 : Int32) rfl
  exact key
/-- the reference's search -/
theorem r_findL {α : Type} {L : Nat → Nat → Int32 → α} {one : Nat → Bool} {no : α} {fo : Nat → α} {x : Int32} (h0 : ∀ i s, L 0 i s = no) (h1 : ∀ k i s, L (k + 1) i s = if x < 0 then no else if zI (one i) = 0 then L k (i + 1) s else if s = 0 then fo i else L k (i + 1) (s + (-1 : Int32))) : ∀ (k i j : Nat), ¬ x < 0 → j < 2 ^ 31 → (∃ a, i ≤ a ∧ a < i + k ∧ one a = true ∧ ct one a = ct one i + j ∧ L k i (nI j) = fo a) ∨ ((∀ a, i ≤ a → a < i + k → one a = true → ct one a ≠ ct one i + j) ∧ L k i (nI j) = no)
  | 0, i, j, _, _ => Or.inr ⟨fun a h1 h2 => by omega, h0 _ _⟩
  | k + 1, i, j, hx, hj => by
    rw [h1, if_neg hx]
    by_cases ho : one i = true
    · rw [if_neg (by rw [zI_b0]; exact fun q => q ho)]
      have hc : ct one (i + 1) = ct one i + 1 := by rw [ct_succ, if_pos ho]
      by_cases hj0 : j = 0
      · rw [if_pos (by rw [hj0]; rfl)]
        exact Or.inl ⟨i, Nat.le_refl _, by omega, ho, by omega, rfl⟩
      · rw [if_neg (by rw [show (0 : Int32) = nI 0 from rfl, nI_eq (by omega) (by omega)]; exact hj0)]
        obtain ⟨j', rfl⟩ : ∃ j', j = j' + 1 := ⟨j - 1, by omega⟩
        rw [pk_m1]
        rcases r_findL h0 h1 k (i + 1) j' hx (by omega) with ⟨a, q1, q2, q3, q4, q5⟩ | ⟨q1, q2⟩
        · exact Or.inl ⟨a, by omega, by omega, q3, by omega, q5⟩
        · refine Or.inr ⟨fun a h2 h3 h4 h5 => ?_, q2⟩
          rcases Nat.lt_or_ge i a with z | z
          · exact q1 a z (by omega) h4 (by omega)
          · have : a = i := by omega
            subst this
            omega
    · rw [if_pos (by rw [zI_b0]; exact ho)]
      have hc : ct one (i + 1) = ct one i := by rw [ct_succ, if_neg ho]; rfl
      rcases r_findL h0 h1 k (i + 1) j hx hj with ⟨a, q1, q2, q3, q4, q5⟩ | ⟨q1, q2⟩
      · exact Or.inl ⟨a, by omega, by omega, q3, by omega, q5⟩
      · refine Or.inr ⟨fun a h2 h3 h4 h5 => ?_, q2⟩
        rcases Nat.lt_or_ge i a with z | z
        · exact q1 a z (by omega) h4 (by omega)
        · have : a = i := by omega
          subst this
          exact ho h4
/-! the class's search -/
section Pick
variable {n who : Nat} {vd kn pl : Nat → Int64} {nn : Int32} {sqf : Nat → Int32}
/-- how a position is told -/
def cod (n : Nat) (sqf : Nat → Int32) (t : Nat) : Int32 := ((mX0_squareOf n sqf (nI (t / 64 / n))) + ((64 : Int32) * (mX0_squareOf n sqf (nI (t / 64 % n))))) + ((4096 : Int32) * (mX0_squareOf n sqf (nI (t % 64))))
theorem c_pickL2 (hn64 : n ≤ 64) {w : Nat} (hw : w < n) {kont : Int32 → Int32} {p : Nat → Bool} (hp : p = pC n (who * (n * n)) vd kn pl who nn) : ∀ (k m j : Nat), m + k = n → j < 2 ^ 31 → (∃ t, 64 * (w * n + m) ≤ t ∧ t < 64 * (w * n + n) ∧ p t = true ∧ ct p t = ct p (64 * (w * n + m)) + j ∧ mX3_pick_L2 (n * n) vd kn pl n sqf (nI who) nn w kont k m (nI j) = cod n sqf t) ∨ ((∀ t, 64 * (w * n + m) ≤ t → t < 64 * (w * n + n) → p t = true → ct p t ≠ ct p (64 * (w * n + m)) + j) ∧ ∃ j', ct p (64 * (w * n + n)) + j' = ct p (64 * (w * n + m)) + j ∧ mX3_pick_L2 (n * n) vd kn pl n sqf (nI who) nn w kont k m (nI j) = kont (nI j'))
  | 0, m, j, hm, hj => by
    have : m = n := by omega
    subst this
    rw [mX3_pick_L2]
    exact Or.inr ⟨fun t h1 h2 => by omega, j, rfl, rfl⟩
  | k + 1, m, j, hm, hj => by
    have hmn : m < n := by omega
    have hrow := bc_row (n := n) (o := who * (n * n)) (who := who) (vd := vd) (kn := kn) (pl := pl) (nn := nn) (w * n + m)
    have hct := ct_row (n := n) (o := who * (n * n)) (who := who) (vd := vd) (kn := kn) (pl := pl) (nn := nn) (w * n + m)
    have hle := ct_le (fun c => pC n (who * (n * n)) vd kn pl who nn (64 * (w * n + m) + c)) 64
    rw [mX3_pick_L2, c_row, hrow]
    rw [← hp] at hct hle ⊢
    obtain ⟨e1, e2⟩ := r_dm (w := w) hmn
    generalize hH : ct (fun c => p (64 * (w * n + m) + c)) 64 = H at hct hle ⊢
    by_cases hHj : H ≤ j
    · rw [if_pos ((nI_leI (by omega) (by omega)).mpr hHj), pk_sub hHj]
      have hE : w * n + m + 1 = w * n + (m + 1) := by omega
      rw [hE] at hct
      rcases c_pickL2 hn64 hw hp k (m + 1) (j - H) (by omega) (by omega) with ⟨t, q1, q2, q3, q4, q5⟩ | ⟨q1, j', q2, q3⟩
      · exact Or.inl ⟨t, by omega, q2, q3, by omega, q5⟩
      · refine Or.inr ⟨fun t h2 h3 h4 h5 => ?_, j', by omega, q3⟩
        rcases Nat.lt_or_ge t (64 * (w * n + (m + 1))) with z | z
        · obtain ⟨c, rfl⟩ : ∃ c, t = 64 * (w * n + m) + c := ⟨t - 64 * (w * n + m), by omega⟩
          have hcl : c < 64 := by omega
          have hs : ct p (64 * (w * n + m) + c + 1) ≤ ct p (64 * (w * n + (m + 1))) := ct_mono p (by omega)
          rw [ct_succ, if_pos h4] at hs
          omega
        · exact q1 t z h3 h4 (by omega)
    · rw [if_neg (fun q => hHj ((nI_leI (by omega) (by omega)).mp q))]
      have hbits : ct (fun c => tb (mX3_having (n * n) vd kn pl (nI who) (nI (who * (n * n) + (w * n + m))) nn) c) 64 = H := by
        rw [← hH, hp]
        apply ct_cong
        intro c hc
        unfold pC
        rw [show (64 * (w * n + m) + c) / 64 = w * n + m by omega, show (64 * (w * n + m) + c) % 64 = c by omega]
      obtain ⟨c, g1, g2, g3, g4⟩ := c_kth j 0 _ (by rw [hbits]; omega)
      have hlow : mX3_lowest (mX3_withoutLowest (mX3_having (n * n) vd kn pl (nI who) (nI (who * (n * n) + (w * n + m))) nn) (nI j)) = nI c := by
        unfold mX3_withoutLowest
        rw [nI_clamp hj]
        exact g4
      rw [hlow]
      have hbit : ∀ c', c' < 64 → p (64 * (w * n + m) + c') = tb (mX3_having (n * n) vd kn pl (nI who) (nI (who * (n * n) + (w * n + m))) nn) c' := by
        intro c' hc'
        rw [hp]
        unfold pC
        rw [show (64 * (w * n + m) + c') / 64 = w * n + m by omega, show (64 * (w * n + m) + c') % 64 = c' by omega]
      refine Or.inl ⟨64 * (w * n + m) + c, by omega, by omega, by rw [hbit c g1]; exact g2, ?_, ?_⟩
      · rw [ct_split, ct_cong (q := fun c => tb (mX3_having (n * n) vd kn pl (nI who) (nI (who * (n * n) + (w * n + m))) nn) c) (fun c' hc' => hbit c' (by omega)), g3]
      · unfold cod
        rw [show (64 * (w * n + m) + c) / 64 = w * n + m by omega, show (64 * (w * n + m) + c) % 64 = c by omega, e1, e2]
theorem c_pickL1 (hn64 : n ≤ 64) {p : Nat → Bool} (hp : p = pC n (who * (n * n)) vd kn pl who nn) : ∀ (k w j : Nat), w + k = n → j < 2 ^ 31 → (∃ t, 64 * (w * n) ≤ t ∧ t < 64 * (n * n) ∧ p t = true ∧ ct p t = ct p (64 * (w * n)) + j ∧ mX3_pick_L1 (n * n) vd kn pl n sqf (nI who) nn k w (nI j) = cod n sqf t) ∨ ((∀ t, 64 * (w * n) ≤ t → t < 64 * (n * n) → p t = true → ct p t ≠ ct p (64 * (w * n)) + j) ∧ mX3_pick_L1 (n * n) vd kn pl n sqf (nI who) nn k w (nI j) = -1)
  | 0, w, j, hw, hj => by
    have : w = n := by omega
    subst this
    rw [mX3_pick_L1]
    exact Or.inr ⟨fun t h1 h2 => by omega, rfl⟩
  | k + 1, w, j, hw, hj => by
    have hwn : w < n := by omega
    have hnn : w * n + n ≤ n * n := by
      have := Nat.mul_le_mul_right n (show w + 1 ≤ n from hwn)
      rw [Nat.add_mul, Nat.one_mul] at this
      exact this
    rw [mX3_pick_L1, if_neg (nI_pos hj)]
    have hE : w * n + n = (w + 1) * n := by rw [Nat.add_mul, Nat.one_mul]
    rcases c_pickL2 (sqf := sqf) hn64 hwn (kont := fun before2 => mX3_pick_L1 (n * n) vd kn pl n sqf (nI who) nn k (w + 1) before2) hp n 0 j (by omega) hj with ⟨t, q1, q2, q3, q4, q5⟩ | ⟨q1, j', q2, q3⟩
    · exact Or.inl ⟨t, q1, by omega, q3, q4, q5⟩
    · rw [Nat.add_zero] at q1 q2
      rw [hE] at q1 q2
      have hmono := ct_mono p (show 64 * (w * n) ≤ 64 * ((w + 1) * n) by omega)
      rw [q3]
      rcases c_pickL1 hn64 hp k (w + 1) j' (by omega) (by omega) with ⟨t, f1, f2, f3, f4, f5⟩ | ⟨f1, f2⟩
      · exact Or.inl ⟨t, by omega, f2, f3, by omega, f5⟩
      · refine Or.inr ⟨fun t h2 h3 h4 h5 => ?_, f2⟩
        rcases Nat.lt_or_ge t (64 * ((w + 1) * n)) with z | z
        · exact q1 t h2 z h4 h5
        · exact f1 t z h3 h4 (by omega)
theorem c_pick (hn64 : n ≤ 64) (hn0 : 0 < n) {x : Int32} : (x < 0 ∧ mX3_pick (n * n) vd kn pl n sqf (nI who) nn x = -1) ∨ ∃ j, j < 2 ^ 31 ∧ x = nI j ∧ ((∃ t, t < n * n * 64 ∧ pC n (who * (n * n)) vd kn pl who nn t = true ∧ ct (pC n (who * (n * n)) vd kn pl who nn) t = j ∧ mX3_pick (n * n) vd kn pl n sqf (nI who) nn x = cod n sqf t) ∨ ((∀ t, t < n * n * 64 → pC n (who * (n * n)) vd kn pl who nn t = true → ct (pC n (who * (n * n)) vd kn pl who nn) t ≠ j) ∧ mX3_pick (n * n) vd kn pl n sqf (nI who) nn x = -1)) := by
  by_cases hx : x < 0
  · left
    refine ⟨hx, ?_⟩
    unfold mX3_pick
    obtain ⟨n', rfl⟩ : ∃ n', n = n' + 1 := ⟨n - 1, by omega⟩
    rw [mX3_pick_L1, if_pos hx]
  · right
    obtain ⟨j, hj, rfl⟩ := nI_of hx
    refine ⟨j, hj, rfl, ?_⟩
    unfold mX3_pick
    have h := c_pickL1 (sqf := sqf) hn64 (p := pC n (who * (n * n)) vd kn pl who nn) rfl n 0 j (by omega) hj
    rw [Nat.zero_mul, Nat.mul_zero, show ct (pC n (who * (n * n)) vd kn pl who nn) 0 = 0 from rfl, Nat.zero_add] at h
    rcases h with ⟨t, -, q2, q3, q4, q5⟩ | ⟨q1, q2⟩
    · exact Or.inl ⟨t, by omega, q3, q4, q5⟩
    · exact Or.inr ⟨fun t h1 => q1 t (Nat.zero_le _) (by omega), q2⟩
end Pick
