/-! kind by kind: a fresh class agrees with a fresh reference -/
theorem rL_1 {F R fu : Nat} (who : Nat) (nn x : Int32) : (x < 0 → (mX5_find_1_L1 (nI F) (nI R) (fun _ => 0) (fun _ => 0) fu fu fu fu fu (nI who) nn x 262144 0 x).1 = 0 ∧ (mX5_find_1_L1 (nI F) (nI R) (fun _ => 0) (fun _ => 0) fu fu fu fu fu (nI who) nn x 262144 0 x).2.1 = 2) ∧ (¬ x < 0 → ∀ j, j < 2 ^ 31 → x = nI j → (∃ a, a < 262144 ∧ pR F R 1 who (mX5_build_1 (nI F) (nI R) (fun _ => 0) (fun _ => 0) fu fu fu fu fu).1 nn a = true ∧ ct (pR F R 1 who (mX5_build_1 (nI F) (nI R) (fun _ => 0) (fun _ => 0) fu fu fu fu fu).1 nn) a = j ∧ (mX5_find_1_L1 (nI F) (nI R) (fun _ => 0) (fun _ => 0) fu fu fu fu fu (nI who) nn x 262144 0 x).1 = nI (acode a) ∧ (mX5_find_1_L1 (nI F) (nI R) (fun _ => 0) (fun _ => 0) fu fu fu fu fu (nI who) nn x 262144 0 x).2.1 = mX5_find_1_V1 (nI who)) ∨ ((∀ a, a < 262144 → pR F R 1 who (mX5_build_1 (nI F) (nI R) (fun _ => 0) (fun _ => 0) fu fu fu fu fu).1 nn a = true → ct (pR F R 1 who (mX5_build_1 (nI F) (nI R) (fun _ => 0) (fun _ => 0) fu fu fu fu fu).1 nn) a ≠ j) ∧ (mX5_find_1_L1 (nI F) (nI R) (fun _ => 0) (fun _ => 0) fu fu fu fu fu (nI who) nn x 262144 0 x).1 = 0 ∧ (mX5_find_1_L1 (nI F) (nI R) (fun _ => 0) (fun _ => 0) fu fu fu fu fu (nI who) nn x 262144 0 x).2.1 = 2)) := by
  obtain ⟨no, hno⟩ : ∃ no, no = mX5_find_1_L1 (nI F) (nI R) (fun _ => 0) (fun _ => 0) fu fu fu fu fu (nI who) nn x 0 0 0 := ⟨_, rfl⟩
  have hn12 : no.1 = 0 ∧ no.2.1 = 2 := by rw [hno, mX5_find_1_L1]; exact ⟨rfl, rfl⟩
  have h0 : ∀ i s, mX5_find_1_L1 (nI F) (nI R) (fun _ => 0) (fun _ => 0) fu fu fu fu fu (nI who) nn x 0 i s = no := fun i s => by rw [hno, mX5_find_1_L1, mX5_find_1_L1]
  have h1 : ∀ k i s, mX5_find_1_L1 (nI F) (nI R) (fun _ => 0) (fun _ => 0) fu fu fu fu fu (nI who) nn x (k + 1) i s = if x < 0 then no else if zI (pR F R 1 who (mX5_build_1 (nI F) (nI R) (fun _ => 0) (fun _ => 0) fu fu fu fu fu).1 nn i) = 0 then mX5_find_1_L1 (nI F) (nI R) (fun _ => 0) (fun _ => 0) fu fu fu fu fu (nI who) nn x k (i + 1) s else if s = 0 then ((((nI i) / (4096 : Int32)) + ((64 : Int32) * (((nI i) / (64 : Int32)) - ((nI i) / (64 : Int32)) / (64 : Int32) * (64 : Int32)))) + ((4096 : Int32) * ((nI i) - (nI i) / (64 : Int32) * (64 : Int32))), (mX5_find_1_V1 (nI who)), no.2.2) else mX5_find_1_L1 (nI F) (nI R) (fun _ => 0) (fun _ => 0) fu fu fu fu fu (nI who) nn x k (i + 1) (s + (-1 : Int32)) := fun k i s => by
    rw [hno, mX5_find_1_L1, mX5_find_1_L1]
    rfl
  constructor
  · intro hx
    rw [r_findN h0 h1 hx 262144 0 x]
    exact hn12
  · intro hx j hj hxj
    have hr := r_findL h0 h1 262144 0 j hx hj
    rw [← hxj] at hr
    rw [Nat.zero_add, show ct (pR F R 1 who (mX5_build_1 (nI F) (nI R) (fun _ => 0) (fun _ => 0) fu fu fu fu fu).1 nn) 0 = 0 from rfl, Nat.zero_add] at hr
    rcases hr with ⟨a, q1, q2, q3, q4, q5⟩ | ⟨q1, q2⟩
    · refine Or.inl ⟨a, q2, q3, q4, ?_, ?_⟩
      · rw [q5]; exact r_code q2
      · rw [q5]
    · refine Or.inr ⟨fun a ha => q1 a (Nat.zero_le _) ha, ?_⟩
      rw [q2]; exact hn12
theorem rL_2 {F R fu : Nat} (who : Nat) (nn x : Int32) : (x < 0 → (mX5_find_2_L1 (nI F) (nI R) (fun _ => 0) (fun _ => 0) fu (nI who) nn x 262144 0 x).1 = 0 ∧ (mX5_find_2_L1 (nI F) (nI R) (fun _ => 0) (fun _ => 0) fu (nI who) nn x 262144 0 x).2.1 = 2) ∧ (¬ x < 0 → ∀ j, j < 2 ^ 31 → x = nI j → (∃ a, a < 262144 ∧ pR F R 2 who (mX5_build_2 (nI F) (nI R) (fun _ => 0) (fun _ => 0) fu).1 nn a = true ∧ ct (pR F R 2 who (mX5_build_2 (nI F) (nI R) (fun _ => 0) (fun _ => 0) fu).1 nn) a = j ∧ (mX5_find_2_L1 (nI F) (nI R) (fun _ => 0) (fun _ => 0) fu (nI who) nn x 262144 0 x).1 = nI (acode a) ∧ (mX5_find_2_L1 (nI F) (nI R) (fun _ => 0) (fun _ => 0) fu (nI who) nn x 262144 0 x).2.1 = mX5_find_2_V1 (nI who)) ∨ ((∀ a, a < 262144 → pR F R 2 who (mX5_build_2 (nI F) (nI R) (fun _ => 0) (fun _ => 0) fu).1 nn a = true → ct (pR F R 2 who (mX5_build_2 (nI F) (nI R) (fun _ => 0) (fun _ => 0) fu).1 nn) a ≠ j) ∧ (mX5_find_2_L1 (nI F) (nI R) (fun _ => 0) (fun _ => 0) fu (nI who) nn x 262144 0 x).1 = 0 ∧ (mX5_find_2_L1 (nI F) (nI R) (fun _ => 0) (fun _ => 0) fu (nI who) nn x 262144 0 x).2.1 = 2)) := by
  obtain ⟨no, hno⟩ : ∃ no, no = mX5_find_2_L1 (nI F) (nI R) (fun _ => 0) (fun _ => 0) fu (nI who) nn x 0 0 0 := ⟨_, rfl⟩
  have hn12 : no.1 = 0 ∧ no.2.1 = 2 := by rw [hno, mX5_find_2_L1]; exact ⟨rfl, rfl⟩
  have h0 : ∀ i s, mX5_find_2_L1 (nI F) (nI R) (fun _ => 0) (fun _ => 0) fu (nI who) nn x 0 i s = no := fun i s => by rw [hno, mX5_find_2_L1, mX5_find_2_L1]
  have h1 : ∀ k i s, mX5_find_2_L1 (nI F) (nI R) (fun _ => 0) (fun _ => 0) fu (nI who) nn x (k + 1) i s = if x < 0 then no else if zI (pR F R 2 who (mX5_build_2 (nI F) (nI R) (fun _ => 0) (fun _ => 0) fu).1 nn i) = 0 then mX5_find_2_L1 (nI F) (nI R) (fun _ => 0) (fun _ => 0) fu (nI who) nn x k (i + 1) s else if s = 0 then ((((nI i) / (4096 : Int32)) + ((64 : Int32) * (((nI i) / (64 : Int32)) - ((nI i) / (64 : Int32)) / (64 : Int32) * (64 : Int32)))) + ((4096 : Int32) * ((nI i) - (nI i) / (64 : Int32) * (64 : Int32))), (mX5_find_2_V1 (nI who)), no.2.2) else mX5_find_2_L1 (nI F) (nI R) (fun _ => 0) (fun _ => 0) fu (nI who) nn x k (i + 1) (s + (-1 : Int32)) := fun k i s => by
    rw [hno, mX5_find_2_L1, mX5_find_2_L1]
    rfl
  constructor
  · intro hx
    rw [r_findN h0 h1 hx 262144 0 x]
    exact hn12
  · intro hx j hj hxj
    have hr := r_findL h0 h1 262144 0 j hx hj
    rw [← hxj] at hr
    rw [Nat.zero_add, show ct (pR F R 2 who (mX5_build_2 (nI F) (nI R) (fun _ => 0) (fun _ => 0) fu).1 nn) 0 = 0 from rfl, Nat.zero_add] at hr
    rcases hr with ⟨a, q1, q2, q3, q4, q5⟩ | ⟨q1, q2⟩
    · refine Or.inl ⟨a, q2, q3, q4, ?_, ?_⟩
      · rw [q5]; exact r_code q2
      · rw [q5]
    · refine Or.inr ⟨fun a ha => q1 a (Nat.zero_le _) ha, ?_⟩
      rw [q2]; exact hn12
theorem rL_3 {F R fu : Nat} (who : Nat) (nn x : Int32) : (x < 0 → (mX5_find_3_L1 (nI F) (nI R) (fun _ => 0) (fun _ => 0) fu (nI who) nn x 262144 0 x).1 = 0 ∧ (mX5_find_3_L1 (nI F) (nI R) (fun _ => 0) (fun _ => 0) fu (nI who) nn x 262144 0 x).2.1 = 2) ∧ (¬ x < 0 → ∀ j, j < 2 ^ 31 → x = nI j → (∃ a, a < 262144 ∧ pR F R 3 who (mX5_build_3 (nI F) (nI R) (fun _ => 0) (fun _ => 0) fu).1 nn a = true ∧ ct (pR F R 3 who (mX5_build_3 (nI F) (nI R) (fun _ => 0) (fun _ => 0) fu).1 nn) a = j ∧ (mX5_find_3_L1 (nI F) (nI R) (fun _ => 0) (fun _ => 0) fu (nI who) nn x 262144 0 x).1 = nI (acode a) ∧ (mX5_find_3_L1 (nI F) (nI R) (fun _ => 0) (fun _ => 0) fu (nI who) nn x 262144 0 x).2.1 = mX5_find_3_V1 (nI who)) ∨ ((∀ a, a < 262144 → pR F R 3 who (mX5_build_3 (nI F) (nI R) (fun _ => 0) (fun _ => 0) fu).1 nn a = true → ct (pR F R 3 who (mX5_build_3 (nI F) (nI R) (fun _ => 0) (fun _ => 0) fu).1 nn) a ≠ j) ∧ (mX5_find_3_L1 (nI F) (nI R) (fun _ => 0) (fun _ => 0) fu (nI who) nn x 262144 0 x).1 = 0 ∧ (mX5_find_3_L1 (nI F) (nI R) (fun _ => 0) (fun _ => 0) fu (nI who) nn x 262144 0 x).2.1 = 2)) := by
  obtain ⟨no, hno⟩ : ∃ no, no = mX5_find_3_L1 (nI F) (nI R) (fun _ => 0) (fun _ => 0) fu (nI who) nn x 0 0 0 := ⟨_, rfl⟩
  have hn12 : no.1 = 0 ∧ no.2.1 = 2 := by rw [hno, mX5_find_3_L1]; exact ⟨rfl, rfl⟩
  have h0 : ∀ i s, mX5_find_3_L1 (nI F) (nI R) (fun _ => 0) (fun _ => 0) fu (nI who) nn x 0 i s = no := fun i s => by rw [hno, mX5_find_3_L1, mX5_find_3_L1]
  have h1 : ∀ k i s, mX5_find_3_L1 (nI F) (nI R) (fun _ => 0) (fun _ => 0) fu (nI who) nn x (k + 1) i s = if x < 0 then no else if zI (pR F R 3 who (mX5_build_3 (nI F) (nI R) (fun _ => 0) (fun _ => 0) fu).1 nn i) = 0 then mX5_find_3_L1 (nI F) (nI R) (fun _ => 0) (fun _ => 0) fu (nI who) nn x k (i + 1) s else if s = 0 then ((((nI i) / (4096 : Int32)) + ((64 : Int32) * (((nI i) / (64 : Int32)) - ((nI i) / (64 : Int32)) / (64 : Int32) * (64 : Int32)))) + ((4096 : Int32) * ((nI i) - (nI i) / (64 : Int32) * (64 : Int32))), (mX5_find_3_V1 (nI who)), no.2.2) else mX5_find_3_L1 (nI F) (nI R) (fun _ => 0) (fun _ => 0) fu (nI who) nn x k (i + 1) (s + (-1 : Int32)) := fun k i s => by
    rw [hno, mX5_find_3_L1, mX5_find_3_L1]
    rfl
  constructor
  · intro hx
    rw [r_findN h0 h1 hx 262144 0 x]
    exact hn12
  · intro hx j hj hxj
    have hr := r_findL h0 h1 262144 0 j hx hj
    rw [← hxj] at hr
    rw [Nat.zero_add, show ct (pR F R 3 who (mX5_build_3 (nI F) (nI R) (fun _ => 0) (fun _ => 0) fu).1 nn) 0 = 0 from rfl, Nat.zero_add] at hr
    rcases hr with ⟨a, q1, q2, q3, q4, q5⟩ | ⟨q1, q2⟩
    · refine Or.inl ⟨a, q2, q3, q4, ?_, ?_⟩
      · rw [q5]; exact r_code q2
      · rw [q5]
    · refine Or.inr ⟨fun a ha => q1 a (Nat.zero_le _) ha, ?_⟩
      rw [q2]; exact hn12
theorem rL_4 {F R fu : Nat} (who : Nat) (nn x : Int32) : (x < 0 → (mX5_find_4_L1 (nI F) (nI R) (fun _ => 0) (fun _ => 0) fu (nI who) nn x 262144 0 x).1 = 0 ∧ (mX5_find_4_L1 (nI F) (nI R) (fun _ => 0) (fun _ => 0) fu (nI who) nn x 262144 0 x).2.1 = 2) ∧ (¬ x < 0 → ∀ j, j < 2 ^ 31 → x = nI j → (∃ a, a < 262144 ∧ pR F R 4 who (mX5_build_4 (nI F) (nI R) (fun _ => 0) (fun _ => 0) fu).1 nn a = true ∧ ct (pR F R 4 who (mX5_build_4 (nI F) (nI R) (fun _ => 0) (fun _ => 0) fu).1 nn) a = j ∧ (mX5_find_4_L1 (nI F) (nI R) (fun _ => 0) (fun _ => 0) fu (nI who) nn x 262144 0 x).1 = nI (acode a) ∧ (mX5_find_4_L1 (nI F) (nI R) (fun _ => 0) (fun _ => 0) fu (nI who) nn x 262144 0 x).2.1 = mX5_find_4_V1 (nI who)) ∨ ((∀ a, a < 262144 → pR F R 4 who (mX5_build_4 (nI F) (nI R) (fun _ => 0) (fun _ => 0) fu).1 nn a = true → ct (pR F R 4 who (mX5_build_4 (nI F) (nI R) (fun _ => 0) (fun _ => 0) fu).1 nn) a ≠ j) ∧ (mX5_find_4_L1 (nI F) (nI R) (fun _ => 0) (fun _ => 0) fu (nI who) nn x 262144 0 x).1 = 0 ∧ (mX5_find_4_L1 (nI F) (nI R) (fun _ => 0) (fun _ => 0) fu (nI who) nn x 262144 0 x).2.1 = 2)) := by
  obtain ⟨no, hno⟩ : ∃ no, no = mX5_find_4_L1 (nI F) (nI R) (fun _ => 0) (fun _ => 0) fu (nI who) nn x 0 0 0 := ⟨_, rfl⟩
  have hn12 : no.1 = 0 ∧ no.2.1 = 2 := by rw [hno, mX5_find_4_L1]; exact ⟨rfl, rfl⟩
  have h0 : ∀ i s, mX5_find_4_L1 (nI F) (nI R) (fun _ => 0) (fun _ => 0) fu (nI who) nn x 0 i s = no := fun i s => by rw [hno, mX5_find_4_L1, mX5_find_4_L1]
  have h1 : ∀ k i s, mX5_find_4_L1 (nI F) (nI R) (fun _ => 0) (fun _ => 0) fu (nI who) nn x (k + 1) i s = if x < 0 then no else if zI (pR F R 4 who (mX5_build_4 (nI F) (nI R) (fun _ => 0) (fun _ => 0) fu).1 nn i) = 0 then mX5_find_4_L1 (nI F) (nI R) (fun _ => 0) (fun _ => 0) fu (nI who) nn x k (i + 1) s else if s = 0 then ((((nI i) / (4096 : Int32)) + ((64 : Int32) * (((nI i) / (64 : Int32)) - ((nI i) / (64 : Int32)) / (64 : Int32) * (64 : Int32)))) + ((4096 : Int32) * ((nI i) - (nI i) / (64 : Int32) * (64 : Int32))), (mX5_find_4_V1 (nI who)), no.2.2) else mX5_find_4_L1 (nI F) (nI R) (fun _ => 0) (fun _ => 0) fu (nI who) nn x k (i + 1) (s + (-1 : Int32)) := fun k i s => by
    rw [hno, mX5_find_4_L1, mX5_find_4_L1]
    rfl
  constructor
  · intro hx
    rw [r_findN h0 h1 hx 262144 0 x]
    exact hn12
  · intro hx j hj hxj
    have hr := r_findL h0 h1 262144 0 j hx hj
    rw [← hxj] at hr
    rw [Nat.zero_add, show ct (pR F R 4 who (mX5_build_4 (nI F) (nI R) (fun _ => 0) (fun _ => 0) fu).1 nn) 0 = 0 from rfl, Nat.zero_add] at hr
    rcases hr with ⟨a, q1, q2, q3, q4, q5⟩ | ⟨q1, q2⟩
    · refine Or.inl ⟨a, q2, q3, q4, ?_, ?_⟩
      · rw [q5]; exact r_code q2
      · rw [q5]
    · refine Or.inr ⟨fun a ha => q1 a (Nat.zero_le _) ha, ?_⟩
      rw [q2]; exact hn12
theorem rL_5 {F R fu : Nat} (who : Nat) (nn x : Int32) : (x < 0 → (mX5_find_5_L1 (nI F) (nI R) (fun _ => 0) (fun _ => 0) fu (nI who) nn x 262144 0 x).1 = 0 ∧ (mX5_find_5_L1 (nI F) (nI R) (fun _ => 0) (fun _ => 0) fu (nI who) nn x 262144 0 x).2.1 = 2) ∧ (¬ x < 0 → ∀ j, j < 2 ^ 31 → x = nI j → (∃ a, a < 262144 ∧ pR F R 5 who (mX5_build_5 (nI F) (nI R) (fun _ => 0) (fun _ => 0) fu).1 nn a = true ∧ ct (pR F R 5 who (mX5_build_5 (nI F) (nI R) (fun _ => 0) (fun _ => 0) fu).1 nn) a = j ∧ (mX5_find_5_L1 (nI F) (nI R) (fun _ => 0) (fun _ => 0) fu (nI who) nn x 262144 0 x).1 = nI (acode a) ∧ (mX5_find_5_L1 (nI F) (nI R) (fun _ => 0) (fun _ => 0) fu (nI who) nn x 262144 0 x).2.1 = mX5_find_5_V1 (nI who)) ∨ ((∀ a, a < 262144 → pR F R 5 who (mX5_build_5 (nI F) (nI R) (fun _ => 0) (fun _ => 0) fu).1 nn a = true → ct (pR F R 5 who (mX5_build_5 (nI F) (nI R) (fun _ => 0) (fun _ => 0) fu).1 nn) a ≠ j) ∧ (mX5_find_5_L1 (nI F) (nI R) (fun _ => 0) (fun _ => 0) fu (nI who) nn x 262144 0 x).1 = 0 ∧ (mX5_find_5_L1 (nI F) (nI R) (fun _ => 0) (fun _ => 0) fu (nI who) nn x 262144 0 x).2.1 = 2)) := by
  obtain ⟨no, hno⟩ : ∃ no, no = mX5_find_5_L1 (nI F) (nI R) (fun _ => 0) (fun _ => 0) fu (nI who) nn x 0 0 0 := ⟨_, rfl⟩
  have hn12 : no.1 = 0 ∧ no.2.1 = 2 := by rw [hno, mX5_find_5_L1]; exact ⟨rfl, rfl⟩
  have h0 : ∀ i s, mX5_find_5_L1 (nI F) (nI R) (fun _ => 0) (fun _ => 0) fu (nI who) nn x 0 i s = no := fun i s => by rw [hno, mX5_find_5_L1, mX5_find_5_L1]
  have h1 : ∀ k i s, mX5_find_5_L1 (nI F) (nI R) (fun _ => 0) (fun _ => 0) fu (nI who) nn x (k + 1) i s = if x < 0 then no else if zI (pR F R 5 who (mX5_build_5 (nI F) (nI R) (fun _ => 0) (fun _ => 0) fu).1 nn i) = 0 then mX5_find_5_L1 (nI F) (nI R) (fun _ => 0) (fun _ => 0) fu (nI who) nn x k (i + 1) s else if s = 0 then ((((nI i) / (4096 : Int32)) + ((64 : Int32) * (((nI i) / (64 : Int32)) - ((nI i) / (64 : Int32)) / (64 : Int32) * (64 : Int32)))) + ((4096 : Int32) * ((nI i) - (nI i) / (64 : Int32) * (64 : Int32))), (mX5_find_5_V1 (nI who)), no.2.2) else mX5_find_5_L1 (nI F) (nI R) (fun _ => 0) (fun _ => 0) fu (nI who) nn x k (i + 1) (s + (-1 : Int32)) := fun k i s => by
    rw [hno, mX5_find_5_L1, mX5_find_5_L1]
    rfl
  constructor
  · intro hx
    rw [r_findN h0 h1 hx 262144 0 x]
    exact hn12
  · intro hx j hj hxj
    have hr := r_findL h0 h1 262144 0 j hx hj
    rw [← hxj] at hr
    rw [Nat.zero_add, show ct (pR F R 5 who (mX5_build_5 (nI F) (nI R) (fun _ => 0) (fun _ => 0) fu).1 nn) 0 = 0 from rfl, Nat.zero_add] at hr
    rcases hr with ⟨a, q1, q2, q3, q4, q5⟩ | ⟨q1, q2⟩
    · refine Or.inl ⟨a, q2, q3, q4, ?_, ?_⟩
      · rw [q5]; exact r_code q2
      · rw [q5]
    · refine Or.inr ⟨fun a ha => q1 a (Nat.zero_le _) ha, ?_⟩
      rw [q2]; exact hn12
section Agree
variable {F R n : Nat} {al ff lf : Int64} {sqf stf : Nat → Int32}
theorem ct_2 (hD : BD F R n al ff lf sqf stf) : CT F R 2 n ((mX4_prepare_2 (nI F) (nI R) n al ff lf sqf stf (n * n) (fun _ => 0) (fun _ => 0) (fun _ => 0) (fun _ => 0) (-1)).1) ((mX4_prepare_2 (nI F) (nI R) n al ff lf sqf stf (n * n) (fun _ => 0) (fun _ => 0) (fun _ => 0) (fun _ => 0) (-1)).2.2.1) ((mX4_prepare_2 (nI F) (nI R) n al ff lf sqf stf (n * n) (fun _ => 0) (fun _ => 0) (fun _ => 0) (fun _ => 0) (-1)).2.2.2.1) ((mX4_prepare_2 (nI F) (nI R) n al ff lf sqf stf (n * n) (fun _ => 0) (fun _ => 0) (fun _ => 0) (fun _ => 0) (-1)).2.2.2.2) := by
  have h := c_solve hD (k := 2) (by omega) (by omega) (fun _ => 0)
  rw [show nI 2 = (2 : Int32) from rfl] at h
  unfold mX4_prepare_2
  exact h
theorem ct_3 (hD : BD F R n al ff lf sqf stf) : CT F R 3 n ((mX4_prepare_3 (nI F) (nI R) n al ff lf sqf stf (n * n) (fun _ => 0) (fun _ => 0) (fun _ => 0) (fun _ => 0) (-1)).1) ((mX4_prepare_3 (nI F) (nI R) n al ff lf sqf stf (n * n) (fun _ => 0) (fun _ => 0) (fun _ => 0) (fun _ => 0) (-1)).2.2.1) ((mX4_prepare_3 (nI F) (nI R) n al ff lf sqf stf (n * n) (fun _ => 0) (fun _ => 0) (fun _ => 0) (fun _ => 0) (-1)).2.2.2.1) ((mX4_prepare_3 (nI F) (nI R) n al ff lf sqf stf (n * n) (fun _ => 0) (fun _ => 0) (fun _ => 0) (fun _ => 0) (-1)).2.2.2.2) := by
  have h := c_solve hD (k := 3) (by omega) (by omega) (fun _ => 0)
  rw [show nI 3 = (3 : Int32) from rfl] at h
  unfold mX4_prepare_3
  exact h
theorem ct_4 (hD : BD F R n al ff lf sqf stf) : CT F R 4 n ((mX4_prepare_4 (nI F) (nI R) n al ff lf sqf stf (n * n) (fun _ => 0) (fun _ => 0) (fun _ => 0) (fun _ => 0) (-1)).1) ((mX4_prepare_4 (nI F) (nI R) n al ff lf sqf stf (n * n) (fun _ => 0) (fun _ => 0) (fun _ => 0) (fun _ => 0) (-1)).2.2.1) ((mX4_prepare_4 (nI F) (nI R) n al ff lf sqf stf (n * n) (fun _ => 0) (fun _ => 0) (fun _ => 0) (fun _ => 0) (-1)).2.2.2.1) ((mX4_prepare_4 (nI F) (nI R) n al ff lf sqf stf (n * n) (fun _ => 0) (fun _ => 0) (fun _ => 0) (fun _ => 0) (-1)).2.2.2.2) := by
  have h := c_solve hD (k := 4) (by omega) (by omega) (fun _ => 0)
  rw [show nI 4 = (4 : Int32) from rfl] at h
  unfold mX4_prepare_4
  exact h
theorem ct_5 (hD : BD F R n al ff lf sqf stf) : CT F R 5 n ((mX4_prepare_5 (nI F) (nI R) n al ff lf sqf stf (n * n) (fun _ => 0) (fun _ => 0) (fun _ => 0) (fun _ => 0) (-1)).1) ((mX4_prepare_5 (nI F) (nI R) n al ff lf sqf stf (n * n) (fun _ => 0) (fun _ => 0) (fun _ => 0) (fun _ => 0) (-1)).2.2.1) ((mX4_prepare_5 (nI F) (nI R) n al ff lf sqf stf (n * n) (fun _ => 0) (fun _ => 0) (fun _ => 0) (fun _ => 0) (-1)).2.2.2.1) ((mX4_prepare_5 (nI F) (nI R) n al ff lf sqf stf (n * n) (fun _ => 0) (fun _ => 0) (fun _ => 0) (fun _ => 0) (-1)).2.2.2.2) := by
  have h := c_solve hD (k := 5) (by omega) (by omega) (fun _ => 0)
  rw [show nI 5 = (5 : Int32) from rfl] at h
  unfold mX4_prepare_5
  exact h
theorem ct_1 (hD : BD F R n al ff lf sqf stf) : CT F R 1 n ((mX4_prepare_1 (nI F) (nI R) n al ff lf sqf stf (n * n) (fun _ => 0) (fun _ => 0) (fun _ => 0) (fun _ => 0) (-1) (fun _ => 0) (fun _ => 0) (fun _ => 0) (fun _ => 0) (-1) (fun _ => 0) (fun _ => 0) (fun _ => 0) (fun _ => 0) (-1) (fun _ => 0) (fun _ => 0) (fun _ => 0) (fun _ => 0) (-1) (fun _ => 0) (fun _ => 0) (fun _ => 0) (fun _ => 0) (-1)).2.2.2.2.2.2.2.2.2.2.2.2.2.2.2.2.2.2.2.2.1) ((mX4_prepare_1 (nI F) (nI R) n al ff lf sqf stf (n * n) (fun _ => 0) (fun _ => 0) (fun _ => 0) (fun _ => 0) (-1) (fun _ => 0) (fun _ => 0) (fun _ => 0) (fun _ => 0) (-1) (fun _ => 0) (fun _ => 0) (fun _ => 0) (fun _ => 0) (-1) (fun _ => 0) (fun _ => 0) (fun _ => 0) (fun _ => 0) (-1) (fun _ => 0) (fun _ => 0) (fun _ => 0) (fun _ => 0) (-1)).2.2.2.2.2.2.2.2.2.2.2.2.2.2.2.2.2.2.2.2.2.2.1) ((mX4_prepare_1 (nI F) (nI R) n al ff lf sqf stf (n * n) (fun _ => 0) (fun _ => 0) (fun _ => 0) (fun _ => 0) (-1) (fun _ => 0) (fun _ => 0) (fun _ => 0) (fun _ => 0) (-1) (fun _ => 0) (fun _ => 0) (fun _ => 0) (fun _ => 0) (-1) (fun _ => 0) (fun _ => 0) (fun _ => 0) (fun _ => 0) (-1) (fun _ => 0) (fun _ => 0) (fun _ => 0) (fun _ => 0) (-1)).2.2.2.2.2.2.2.2.2.2.2.2.2.2.2.2.2.2.2.2.2.2.2.1) ((mX4_prepare_1 (nI F) (nI R) n al ff lf sqf stf (n * n) (fun _ => 0) (fun _ => 0) (fun _ => 0) (fun _ => 0) (-1) (fun _ => 0) (fun _ => 0) (fun _ => 0) (fun _ => 0) (-1) (fun _ => 0) (fun _ => 0) (fun _ => 0) (fun _ => 0) (-1) (fun _ => 0) (fun _ => 0) (fun _ => 0) (fun _ => 0) (-1) (fun _ => 0) (fun _ => 0) (fun _ => 0) (fun _ => 0) (-1)).2.2.2.2.2.2.2.2.2.2.2.2.2.2.2.2.2.2.2.2.2.2.2.2) := by
  have h2 := c_solve hD (k := 2) (by omega) (by omega) (fun _ => 0)
  rw [show nI 2 = (2 : Int32) from rfl] at h2
  have h3 := c_solve hD (k := 3) (by omega) (by omega) (fun _ => 0)
  rw [show nI 3 = (3 : Int32) from rfl] at h3
  have h4 := c_solve hD (k := 4) (by omega) (by omega) (fun _ => 0)
  rw [show nI 4 = (4 : Int32) from rfl] at h4
  have h5 := c_solve hD (k := 5) (by omega) (by omega) (fun _ => 0)
  rw [show nI 5 = (5 : Int32) from rfl] at h5
  have h := c_solveP hD (fun _ => 0) h2 h3 h4 h5
  unfold mX4_prepare_1
  exact h
theorem rt_2 {fu : Nat} (hfu : 62 < fu) (hB : bd F R) (hb : Bnd F R) : mX5_passAll_L1_ok (nI F) (nI R) (2 : Int32) (1 : Int32) fu 0 (0 : Int32) (0 : Int32) (fun _ => 0) (upd (fun _ => 0) (2 : Int32).toNatClampNeg (-1 : Int32)) = true ∧ FIN F R 2 (mX5_build_2 (nI F) (nI R) (fun _ => 0) (fun _ => 0) fu).1 ∧ GF F R 2 ((mX5_build_2 (nI F) (nI R) (fun _ => 0) (fun _ => 0) fu).2 (2 : Int32).toNatClampNeg) := by
  have c : (2 : Int32).toNatClampNeg = 2 := by decide
  obtain ⟨a1, a2, -, a4, -⟩ := r_build2 hfu hB hb (k := 2) (by omega) (by omega) (fun _ => 0) (t := (fun _ => 0)) Z0.z
  rw [show nI 2 = (2 : Int32) from rfl] at a1 a2 a4
  unfold mX5_build_2
  rw [c]
  exact ⟨a1, a2, a4⟩
theorem rt_3 {fu : Nat} (hfu : 62 < fu) (hB : bd F R) (hb : Bnd F R) : mX5_passAll_L1_ok (nI F) (nI R) (3 : Int32) (1 : Int32) fu 0 (0 : Int32) (0 : Int32) (fun _ => 0) (upd (fun _ => 0) (3 : Int32).toNatClampNeg (-1 : Int32)) = true ∧ FIN F R 3 (mX5_build_3 (nI F) (nI R) (fun _ => 0) (fun _ => 0) fu).1 ∧ GF F R 3 ((mX5_build_3 (nI F) (nI R) (fun _ => 0) (fun _ => 0) fu).2 (3 : Int32).toNatClampNeg) := by
  have c : (3 : Int32).toNatClampNeg = 3 := by decide
  obtain ⟨a1, a2, -, a4, -⟩ := r_build2 hfu hB hb (k := 3) (by omega) (by omega) (fun _ => 0) (t := (fun _ => 0)) Z0.z
  rw [show nI 3 = (3 : Int32) from rfl] at a1 a2 a4
  unfold mX5_build_3
  rw [c]
  exact ⟨a1, a2, a4⟩
theorem rt_4 {fu : Nat} (hfu : 62 < fu) (hB : bd F R) (hb : Bnd F R) : mX5_passAll_L1_ok (nI F) (nI R) (4 : Int32) (1 : Int32) fu 0 (0 : Int32) (0 : Int32) (fun _ => 0) (upd (fun _ => 0) (4 : Int32).toNatClampNeg (-1 : Int32)) = true ∧ FIN F R 4 (mX5_build_4 (nI F) (nI R) (fun _ => 0) (fun _ => 0) fu).1 ∧ GF F R 4 ((mX5_build_4 (nI F) (nI R) (fun _ => 0) (fun _ => 0) fu).2 (4 : Int32).toNatClampNeg) := by
  have c : (4 : Int32).toNatClampNeg = 4 := by decide
  obtain ⟨a1, a2, -, a4, -⟩ := r_build2 hfu hB hb (k := 4) (by omega) (by omega) (fun _ => 0) (t := (fun _ => 0)) Z0.z
  rw [show nI 4 = (4 : Int32) from rfl] at a1 a2 a4
  unfold mX5_build_4
  rw [c]
  exact ⟨a1, a2, a4⟩
theorem rt_5 {fu : Nat} (hfu : 62 < fu) (hB : bd F R) (hb : Bnd F R) : mX5_passAll_L1_ok (nI F) (nI R) (5 : Int32) (1 : Int32) fu 0 (0 : Int32) (0 : Int32) (fun _ => 0) (upd (fun _ => 0) (5 : Int32).toNatClampNeg (-1 : Int32)) = true ∧ FIN F R 5 (mX5_build_5 (nI F) (nI R) (fun _ => 0) (fun _ => 0) fu).1 ∧ GF F R 5 ((mX5_build_5 (nI F) (nI R) (fun _ => 0) (fun _ => 0) fu).2 (5 : Int32).toNatClampNeg) := by
  have c : (5 : Int32).toNatClampNeg = 5 := by decide
  obtain ⟨a1, a2, -, a4, -⟩ := r_build2 hfu hB hb (k := 5) (by omega) (by omega) (fun _ => 0) (t := (fun _ => 0)) Z0.z
  rw [show nI 5 = (5 : Int32) from rfl] at a1 a2 a4
  unfold mX5_build_5
  rw [c]
  exact ⟨a1, a2, a4⟩
theorem mIs (k : Nat) (hk : k < 6) (hk1 : 1 ≤ k) : mX5_isKind (nI k) = true := by
  rcases (show k = 1 ∨ k = 2 ∨ k = 3 ∨ k = 4 ∨ k = 5 by omega) with rfl | rfl | rfl | rfl | rfl <;> decide
theorem ag_dist_1 (hD : BD F R n al ff lf sqf stf) (hb : Bnd F R) {fu : Nat} (hF : FIN F R 1 (mX5_build_1 (nI F) (nI R) (fun _ => 0) (fun _ => 0) fu fu fu fu fu).1) (white man black side : Int32) : AG (mX4_distance_1 (nI F) (nI R) n al ff lf sqf stf (n * n) (fun _ => 0) (fun _ => 0) (fun _ => 0) (fun _ => 0) (-1) (fun _ => 0) (fun _ => 0) (fun _ => 0) (fun _ => 0) (-1) (fun _ => 0) (fun _ => 0) (fun _ => 0) (fun _ => 0) (-1) (fun _ => 0) (fun _ => 0) (fun _ => 0) (fun _ => 0) (-1) (fun _ => 0) (fun _ => 0) (fun _ => 0) (fun _ => 0) (-1) white man black side) (mX5_distance_1 (nI F) (nI R) (fun _ => 0) (fun _ => 0) fu fu fu fu fu white man black side).2.1 (mX5_distance_1 (nI F) (nI R) (fun _ => 0) (fun _ => 0) fu fu fu fu fu white man black side).1 := by
  have hpos := c_isPos hD (k := 1) (by omega) (by omega) white man black side
  have hd := fun h => g_dist hD hb (k := 1) (by omega) (by omega) (ct_1 hD) hF (white := white) (man := man) (black := black) (side := side) h
  rw [show nI 1 = (1 : Int32) from rfl] at hpos hd
  have hk : ¬ zI (mX5_isKind (1 : Int32)) = 0 := by rw [zI_b0]; exact fun q => q (by decide)
  unfold mX4_distance_1 mX5_distance_1 mX5_distance_1_V1
  rw [if_neg hk]
  have hl : (mX4_lookAt_1 (nI F) (nI R) n al ff lf sqf stf white man black side).1 = mX5_isPosition (nI F) (nI R) (1 : Int32) white man black side := hpos
  rw [hl]
  by_cases hp : mX5_isPosition (nI F) (nI R) (1 : Int32) white man black side = true
  · have hz : ¬ zI (mX5_isPosition (nI F) (nI R) (1 : Int32) white man black side) = 0 := by rw [zI_b0]; exact fun q => q hp
    rw [if_neg hz, if_neg hz, if_pos (by decide)]
    exact Or.inl ⟨rfl, rfl, (hd hp).symm⟩
  · have hz : zI (mX5_isPosition (nI F) (nI R) (1 : Int32) white man black side) = 0 := by rw [zI_b0]; exact hp
    rw [if_pos hz, if_pos hz, if_neg (by decide)]
    exact Or.inr (Or.inl ⟨rfl, rfl⟩)
theorem ag_count_1 (hD : BD F R n al ff lf sqf stf) (hb : Bnd F R) {fu : Nat} (hF : FIN F R 1 (mX5_build_1 (nI F) (nI R) (fun _ => 0) (fun _ => 0) fu fu fu fu fu).1) (side nn : Int32) : AG (mX4_count_1 (nI F) (nI R) n al ff lf sqf stf (n * n) (fun _ => 0) (fun _ => 0) (fun _ => 0) (fun _ => 0) (-1) (fun _ => 0) (fun _ => 0) (fun _ => 0) (fun _ => 0) (-1) (fun _ => 0) (fun _ => 0) (fun _ => 0) (fun _ => 0) (-1) (fun _ => 0) (fun _ => 0) (fun _ => 0) (fun _ => 0) (-1) (fun _ => 0) (fun _ => 0) (fun _ => 0) (fun _ => 0) (-1) side nn) (mX5_count_1 (nI F) (nI R) (fun _ => 0) (fun _ => 0) fu fu fu fu fu side nn).2.1 (mX5_count_1 (nI F) (nI R) (fun _ => 0) (fun _ => 0) fu fu fu fu fu side nn).1 := by
  have hk : ¬ zI (mX5_isKind (1 : Int32)) = 0 := by rw [zI_b0]; exact fun q => q (by decide)
  have hm : ¬ zI (mX4_isMan (1 : Int32)) = 0 := by rw [zI_b0]; exact fun q => q (by decide)
  have hck : ∀ s : Int32, mX4_checkKindAndSide (1 : Int32) s = if s = 0 ∨ s = 1 then (0, (0 : Int32)) else (1, (0 : Int32)) := by
    intro s
    unfold mX4_checkKindAndSide
    rw [if_neg hm]
    by_cases h : s = 0 ∨ s = 1
    · rw [if_pos h, if_neg (by rw [zI_b0]; exact fun q => q (isSide_t.mpr h))]
    · rw [if_neg h, if_pos (by rw [zI_b0]; exact fun q => h (isSide_t.mp q))]
  have hv : ∀ s : Int32, mX5_count_1_V1 s = if s = 0 ∨ s = 1 then (0 : Int32) else 1 := by
    intro s
    unfold mX5_count_1_V1
    rw [if_neg hk]
    by_cases h : s = 0 ∨ s = 1
    · rw [if_pos h]
      rcases h with rfl | rfl
      · rfl
      · rfl
    · rw [if_neg h]
      rcases side_no h with z | z
      · rw [if_pos z]
      · by_cases z0 : s < 0
        · rw [if_pos z0]
        · rw [if_neg z0, if_pos z]
  unfold mX4_count_1 mX5_count_1
  rw [hck, hv]
  by_cases hs : side = 0 ∨ side = 1
  · rw [if_pos hs, if_pos hs, if_pos (show ((0, (0 : Int32)) : Nat × Int32).1 = 0 from rfl), if_pos (show (0 : Int32) ≤ 0 by decide)]
    obtain ⟨who, hwho, rfl⟩ := side_of hs
    have h1 := (g_iso hD hb (k := 1) (by omega) (by omega) (ct_1 hD) hF hwho nn).1
    have h2 := r_countL (L := mX5_count_1_L1 (nI F) (nI R) (fun _ => 0) (fun _ => 0) fu fu fu fu fu (nI who) nn) (V := fun i s => mX5_count_1_V2 (nI F) (nI R) (fun _ => 0) (fun _ => 0) fu fu fu fu fu (nI who) nn i s) (one := pR F R 1 who (mX5_build_1 (nI F) (nI R) (fun _ => 0) (fun _ => 0) fu fu fu fu fu).1 nn) (fun _ _ => by rw [mX5_count_1_L1]) (fun _ _ _ => by rw [mX5_count_1_L1]) (fun i s => rfl) 262144
    refine Or.inl ⟨rfl, rfl, ?_⟩
    dsimp only
    rw [h2, c_amount, h1]
  · rw [if_neg hs, if_neg hs, if_neg (show ¬ ((1, (0 : Int32)) : Nat × Int32).1 = 0 by decide), if_neg (show ¬ (1 : Int32) ≤ 0 by decide)]
    exact Or.inr (Or.inl ⟨rfl, rfl⟩)
theorem ag_longest_1 (hD : BD F R n al ff lf sqf stf) (hb : Bnd F R) {fu : Nat} (hG : GF F R 1 ((mX5_build_1 (nI F) (nI R) (fun _ => 0) (fun _ => 0) fu fu fu fu fu).2 (1 : Int32).toNatClampNeg)) : AG (mX4_longest_1 (nI F) (nI R) n al ff lf sqf stf (n * n) (fun _ => 0) (fun _ => 0) (fun _ => 0) (fun _ => 0) (-1) (fun _ => 0) (fun _ => 0) (fun _ => 0) (fun _ => 0) (-1) (fun _ => 0) (fun _ => 0) (fun _ => 0) (fun _ => 0) (-1) (fun _ => 0) (fun _ => 0) (fun _ => 0) (fun _ => 0) (-1) (fun _ => 0) (fun _ => 0) (fun _ => 0) (fun _ => 0) (-1)) (mX5_longest_1 (nI F) (nI R) (fun _ => 0) (fun _ => 0) fu fu fu fu fu).2.1 (mX5_longest_1 (nI F) (nI R) (fun _ => 0) (fun _ => 0) fu fu fu fu fu).1 := by
  have hk : ¬ zI (mX5_isKind (1 : Int32)) = 0 := by rw [zI_b0]; exact fun q => q (by decide)
  unfold mX4_longest_1 mX5_longest_1 mX5_longest_1_V1
  rw [if_neg hk, if_pos (by decide)]
  exact Or.inl ⟨rfl, rfl, (g_gm hb (by omega) (by omega) (ct_1 hD).2.2.2.2.2.2 hG).symm⟩
theorem ag_find_1 (hD : BD F R n al ff lf sqf stf) (hb : Bnd F R) {fu : Nat} (hF : FIN F R 1 (mX5_build_1 (nI F) (nI R) (fun _ => 0) (fun _ => 0) fu fu fu fu fu).1) (side nn x : Int32) : AG (mX4_find_1 (nI F) (nI R) n al ff lf sqf stf (n * n) (fun _ => 0) (fun _ => 0) (fun _ => 0) (fun _ => 0) (-1) (fun _ => 0) (fun _ => 0) (fun _ => 0) (fun _ => 0) (-1) (fun _ => 0) (fun _ => 0) (fun _ => 0) (fun _ => 0) (-1) (fun _ => 0) (fun _ => 0) (fun _ => 0) (fun _ => 0) (-1) (fun _ => 0) (fun _ => 0) (fun _ => 0) (fun _ => 0) (-1) side nn x) (mX5_find_1 (nI F) (nI R) (fun _ => 0) (fun _ => 0) fu fu fu fu fu side nn x).2.1 (mX5_find_1 (nI F) (nI R) (fun _ => 0) (fun _ => 0) fu fu fu fu fu side nn x).1 := by
  have hk : ¬ zI (mX5_isKind (1 : Int32)) = 0 := by rw [zI_b0]; exact fun q => q (by decide)
  have hm : ¬ zI (mX4_isMan (1 : Int32)) = 0 := by rw [zI_b0]; exact fun q => q (by decide)
  have hck : ∀ s : Int32, mX4_checkKindAndSide (1 : Int32) s = if s = 0 ∨ s = 1 then (0, (0 : Int32)) else (1, (0 : Int32)) := by
    intro s
    unfold mX4_checkKindAndSide
    rw [if_neg hm]
    by_cases h : s = 0 ∨ s = 1
    · rw [if_pos h, if_neg (by rw [zI_b0]; exact fun q => q (isSide_t.mpr h))]
    · rw [if_neg h, if_pos (by rw [zI_b0]; exact fun q => h (isSide_t.mp q))]
  have hv : ∀ s : Int32, mX5_find_1_V1 s = if s = 0 ∨ s = 1 then (0 : Int32) else 1 := by
    intro s
    unfold mX5_find_1_V1
    rw [if_neg hk]
    by_cases h : s = 0 ∨ s = 1
    · rw [if_pos h]
      rcases h with rfl | rfl
      · rfl
      · rfl
    · rw [if_neg h]
      rcases side_no h with z | z
      · rw [if_pos z]
      · by_cases z0 : s < 0
        · rw [if_pos z0]
        · rw [if_neg z0, if_pos z]
  unfold mX4_find_1 mX5_find_1
  rw [hck, hv]
  by_cases hs : side = 0 ∨ side = 1
  · have hv1 := hv side
    rw [if_pos hs] at hv1
    rw [if_pos hs, if_pos hs, if_pos (show ((0, (0 : Int32)) : Nat × Int32).1 = 0 from rfl), if_pos (show (0 : Int32) ≤ 0 by decide)]
    obtain ⟨who, hwho, rfl⟩ := side_of hs
    have hg := g_find hD hb (k := 1) (by omega) (by omega) (ct_1 hD) hF hwho nn x
    have h0 : ∀ i s, mX5_find_1_L1 (nI F) (nI R) (fun _ => 0) (fun _ => 0) fu fu fu fu fu (nI who) nn x 0 i s = mX5_find_1_L1 (nI F) (nI R) (fun _ => 0) (fun _ => 0) fu fu fu fu fu (nI who) nn x 0 0 0 := fun i s => by rw [mX5_find_1_L1, mX5_find_1_L1]
    have no1 : (mX5_find_1_L1 (nI F) (nI R) (fun _ => 0) (fun _ => 0) fu fu fu fu fu (nI who) nn x 0 0 0).1 = 0 ∧ (mX5_find_1_L1 (nI F) (nI R) (fun _ => 0) (fun _ => 0) fu fu fu fu fu (nI who) nn x 0 0 0).2.1 = 2 := by rw [mX5_find_1_L1]; exact ⟨rfl, rfl⟩
    have hL := rL_1 (F := F) (R := R) (fu := fu) who nn x
    by_cases hx : x < 0
    · have hp : mX3_pick (n * n) ((mX4_prepare_1 (nI F) (nI R) n al ff lf sqf stf (n * n) (fun _ => 0) (fun _ => 0) (fun _ => 0) (fun _ => 0) (-1) (fun _ => 0) (fun _ => 0) (fun _ => 0) (fun _ => 0) (-1) (fun _ => 0) (fun _ => 0) (fun _ => 0) (fun _ => 0) (-1) (fun _ => 0) (fun _ => 0) (fun _ => 0) (fun _ => 0) (-1) (fun _ => 0) (fun _ => 0) (fun _ => 0) (fun _ => 0) (-1)).2.2.2.2.2.2.2.2.2.2.2.2.2.2.2.2.2.2.2.2.1) ((mX4_prepare_1 (nI F) (nI R) n al ff lf sqf stf (n * n) (fun _ => 0) (fun _ => 0) (fun _ => 0) (fun _ => 0) (-1) (fun _ => 0) (fun _ => 0) (fun _ => 0) (fun _ => 0) (-1) (fun _ => 0) (fun _ => 0) (fun _ => 0) (fun _ => 0) (-1) (fun _ => 0) (fun _ => 0) (fun _ => 0) (fun _ => 0) (-1) (fun _ => 0) (fun _ => 0) (fun _ => 0) (fun _ => 0) (-1)).2.2.2.2.2.2.2.2.2.2.2.2.2.2.2.2.2.2.2.2.2.2.1) ((mX4_prepare_1 (nI F) (nI R) n al ff lf sqf stf (n * n) (fun _ => 0) (fun _ => 0) (fun _ => 0) (fun _ => 0) (-1) (fun _ => 0) (fun _ => 0) (fun _ => 0) (fun _ => 0) (-1) (fun _ => 0) (fun _ => 0) (fun _ => 0) (fun _ => 0) (-1) (fun _ => 0) (fun _ => 0) (fun _ => 0) (fun _ => 0) (-1) (fun _ => 0) (fun _ => 0) (fun _ => 0) (fun _ => 0) (-1)).2.2.2.2.2.2.2.2.2.2.2.2.2.2.2.2.2.2.2.2.2.2.2.1) n sqf (nI who) nn x = -1 := by
        rcases hg with ⟨q, -⟩ | ⟨j, a, hj, rfl, -⟩
        · exact q
        · exact absurd hx (nI_pos hj)
      obtain ⟨q1, q2⟩ := hL.1 hx
      rw [hp, if_neg (show ¬ (0 : Int32) ≤ -1 by decide)]
      exact Or.inr (Or.inr ⟨rfl, q2⟩)
    · rcases hg with ⟨hp, hno⟩ | ⟨j, a, hj, hxj, ha, hpa, hca, hp⟩
      · obtain ⟨j, hj, hxj, hno⟩ := hno.resolve_left hx
        rw [hp, if_neg (show ¬ (0 : Int32) ≤ -1 by decide)]
        rcases hL.2 hx j hj hxj with ⟨a, h1, h2, h3, -⟩ | h2
        · exact absurd h3 (hno a h1 h2)
        · exact Or.inr (Or.inr ⟨rfl, h2.2.2⟩)
      · have hac : acode a < 2 ^ 31 := by unfold acode; omega
        rw [hp, if_pos (show (0 : Int32) ≤ nI (acode a) from nI_pos' hac)]
        rcases hL.2 hx j hj hxj with ⟨a2, h1, h2, h3, h4, h5⟩ | h2
        · have : a2 = a := by
            rcases Nat.lt_trichotomy a2 a with z | z | z
            · have := ct_mono (pR F R 1 who (mX5_build_1 (nI F) (nI R) (fun _ => 0) (fun _ => 0) fu fu fu fu fu).1 nn) (show a2 + 1 ≤ a from z)
              rw [ct_succ, if_pos h2] at this
              omega
            · exact z
            · have := ct_mono (pR F R 1 who (mX5_build_1 (nI F) (nI R) (fun _ => 0) (fun _ => 0) fu fu fu fu fu).1 nn) (show a + 1 ≤ a2 from z)
              rw [ct_succ, if_pos hpa] at this
              omega
          subst this
          exact Or.inl ⟨rfl, h5.trans hv1, h4⟩
        · exact absurd hca (h2.1 a ha hpa)
  · rw [if_neg hs, if_neg hs, if_neg (show ¬ ((1, (0 : Int32)) : Nat × Int32).1 = 0 by decide), if_neg (show ¬ (1 : Int32) ≤ 0 by decide)]
    exact Or.inr (Or.inl ⟨rfl, rfl⟩)
theorem ag_dist_2 (hD : BD F R n al ff lf sqf stf) (hb : Bnd F R) {fu : Nat} (hF : FIN F R 2 (mX5_build_2 (nI F) (nI R) (fun _ => 0) (fun _ => 0) fu).1) (white man black side : Int32) : AG (mX4_distance_2 (nI F) (nI R) n al ff lf sqf stf (n * n) (fun _ => 0) (fun _ => 0) (fun _ => 0) (fun _ => 0) (-1) white man black side) (mX5_distance_2 (nI F) (nI R) (fun _ => 0) (fun _ => 0) fu white man black side).2.1 (mX5_distance_2 (nI F) (nI R) (fun _ => 0) (fun _ => 0) fu white man black side).1 := by
  have hpos := c_isPos hD (k := 2) (by omega) (by omega) white man black side
  have hd := fun h => g_dist hD hb (k := 2) (by omega) (by omega) (ct_2 hD) hF (white := white) (man := man) (black := black) (side := side) h
  rw [show nI 2 = (2 : Int32) from rfl] at hpos hd
  have hk : ¬ zI (mX5_isKind (2 : Int32)) = 0 := by rw [zI_b0]; exact fun q => q (by decide)
  unfold mX4_distance_2 mX5_distance_2 mX5_distance_2_V1
  rw [if_neg hk]
  have hl : (mX4_lookAt_2 (nI F) (nI R) n al ff lf sqf stf white man black side).1 = mX5_isPosition (nI F) (nI R) (2 : Int32) white man black side := hpos
  rw [hl]
  by_cases hp : mX5_isPosition (nI F) (nI R) (2 : Int32) white man black side = true
  · have hz : ¬ zI (mX5_isPosition (nI F) (nI R) (2 : Int32) white man black side) = 0 := by rw [zI_b0]; exact fun q => q hp
    rw [if_neg hz, if_neg hz, if_pos (by decide)]
    exact Or.inl ⟨rfl, rfl, (hd hp).symm⟩
  · have hz : zI (mX5_isPosition (nI F) (nI R) (2 : Int32) white man black side) = 0 := by rw [zI_b0]; exact hp
    rw [if_pos hz, if_pos hz, if_neg (by decide)]
    exact Or.inr (Or.inl ⟨rfl, rfl⟩)
theorem ag_count_2 (hD : BD F R n al ff lf sqf stf) (hb : Bnd F R) {fu : Nat} (hF : FIN F R 2 (mX5_build_2 (nI F) (nI R) (fun _ => 0) (fun _ => 0) fu).1) (side nn : Int32) : AG (mX4_count_2 (nI F) (nI R) n al ff lf sqf stf (n * n) (fun _ => 0) (fun _ => 0) (fun _ => 0) (fun _ => 0) (-1) side nn) (mX5_count_2 (nI F) (nI R) (fun _ => 0) (fun _ => 0) fu side nn).2.1 (mX5_count_2 (nI F) (nI R) (fun _ => 0) (fun _ => 0) fu side nn).1 := by
  have hk : ¬ zI (mX5_isKind (2 : Int32)) = 0 := by rw [zI_b0]; exact fun q => q (by decide)
  have hm : ¬ zI (mX4_isMan (2 : Int32)) = 0 := by rw [zI_b0]; exact fun q => q (by decide)
  have hck : ∀ s : Int32, mX4_checkKindAndSide (2 : Int32) s = if s = 0 ∨ s = 1 then (0, (0 : Int32)) else (1, (0 : Int32)) := by
    intro s
    unfold mX4_checkKindAndSide
    rw [if_neg hm]
    by_cases h : s = 0 ∨ s = 1
    · rw [if_pos h, if_neg (by rw [zI_b0]; exact fun q => q (isSide_t.mpr h))]
    · rw [if_neg h, if_pos (by rw [zI_b0]; exact fun q => h (isSide_t.mp q))]
  have hv : ∀ s : Int32, mX5_count_2_V1 s = if s = 0 ∨ s = 1 then (0 : Int32) else 1 := by
    intro s
    unfold mX5_count_2_V1
    rw [if_neg hk]
    by_cases h : s = 0 ∨ s = 1
    · rw [if_pos h]
      rcases h with rfl | rfl
      · rfl
      · rfl
    · rw [if_neg h]
      rcases side_no h with z | z
      · rw [if_pos z]
      · by_cases z0 : s < 0
        · rw [if_pos z0]
        · rw [if_neg z0, if_pos z]
  unfold mX4_count_2 mX5_count_2
  rw [hck, hv]
  by_cases hs : side = 0 ∨ side = 1
  · rw [if_pos hs, if_pos hs, if_pos (show ((0, (0 : Int32)) : Nat × Int32).1 = 0 from rfl), if_pos (show (0 : Int32) ≤ 0 by decide)]
    obtain ⟨who, hwho, rfl⟩ := side_of hs
    have h1 := (g_iso hD hb (k := 2) (by omega) (by omega) (ct_2 hD) hF hwho nn).1
    have h2 := r_countL (L := mX5_count_2_L1 (nI F) (nI R) (fun _ => 0) (fun _ => 0) fu (nI who) nn) (V := fun i s => mX5_count_2_V2 (nI F) (nI R) (fun _ => 0) (fun _ => 0) fu (nI who) nn i s) (one := pR F R 2 who (mX5_build_2 (nI F) (nI R) (fun _ => 0) (fun _ => 0) fu).1 nn) (fun _ _ => by rw [mX5_count_2_L1]) (fun _ _ _ => by rw [mX5_count_2_L1]) (fun i s => rfl) 262144
    refine Or.inl ⟨rfl, rfl, ?_⟩
    dsimp only
    rw [h2, c_amount, h1]
  · rw [if_neg hs, if_neg hs, if_neg (show ¬ ((1, (0 : Int32)) : Nat × Int32).1 = 0 by decide), if_neg (show ¬ (1 : Int32) ≤ 0 by decide)]
    exact Or.inr (Or.inl ⟨rfl, rfl⟩)
theorem ag_longest_2 (hD : BD F R n al ff lf sqf stf) (hb : Bnd F R) {fu : Nat} (hG : GF F R 2 ((mX5_build_2 (nI F) (nI R) (fun _ => 0) (fun _ => 0) fu).2 (2 : Int32).toNatClampNeg)) : AG (mX4_longest_2 (nI F) (nI R) n al ff lf sqf stf (n * n) (fun _ => 0) (fun _ => 0) (fun _ => 0) (fun _ => 0) (-1)) (mX5_longest_2 (nI F) (nI R) (fun _ => 0) (fun _ => 0) fu).2.1 (mX5_longest_2 (nI F) (nI R) (fun _ => 0) (fun _ => 0) fu).1 := by
  have hk : ¬ zI (mX5_isKind (2 : Int32)) = 0 := by rw [zI_b0]; exact fun q => q (by decide)
  unfold mX4_longest_2 mX5_longest_2 mX5_longest_2_V1
  rw [if_neg hk, if_pos (by decide)]
  exact Or.inl ⟨rfl, rfl, (g_gm hb (by omega) (by omega) (ct_2 hD).2.2.2.2.2.2 hG).symm⟩
theorem ag_find_2 (hD : BD F R n al ff lf sqf stf) (hb : Bnd F R) {fu : Nat} (hF : FIN F R 2 (mX5_build_2 (nI F) (nI R) (fun _ => 0) (fun _ => 0) fu).1) (side nn x : Int32) : AG (mX4_find_2 (nI F) (nI R) n al ff lf sqf stf (n * n) (fun _ => 0) (fun _ => 0) (fun _ => 0) (fun _ => 0) (-1) side nn x) (mX5_find_2 (nI F) (nI R) (fun _ => 0) (fun _ => 0) fu side nn x).2.1 (mX5_find_2 (nI F) (nI R) (fun _ => 0) (fun _ => 0) fu side nn x).1 := by
  have hk : ¬ zI (mX5_isKind (2 : Int32)) = 0 := by rw [zI_b0]; exact fun q => q (by decide)
  have hm : ¬ zI (mX4_isMan (2 : Int32)) = 0 := by rw [zI_b0]; exact fun q => q (by decide)
  have hck : ∀ s : Int32, mX4_checkKindAndSide (2 : Int32) s = if s = 0 ∨ s = 1 then (0, (0 : Int32)) else (1, (0 : Int32)) := by
    intro s
    unfold mX4_checkKindAndSide
    rw [if_neg hm]
    by_cases h : s = 0 ∨ s = 1
    · rw [if_pos h, if_neg (by rw [zI_b0]; exact fun q => q (isSide_t.mpr h))]
    · rw [if_neg h, if_pos (by rw [zI_b0]; exact fun q => h (isSide_t.mp q))]
  have hv : ∀ s : Int32, mX5_find_2_V1 s = if s = 0 ∨ s = 1 then (0 : Int32) else 1 := by
    intro s
    unfold mX5_find_2_V1
    rw [if_neg hk]
    by_cases h : s = 0 ∨ s = 1
    · rw [if_pos h]
      rcases h with rfl | rfl
      · rfl
      · rfl
    · rw [if_neg h]
      rcases side_no h with z | z
      · rw [if_pos z]
      · by_cases z0 : s < 0
        · rw [if_pos z0]
        · rw [if_neg z0, if_pos z]
  unfold mX4_find_2 mX5_find_2
  rw [hck, hv]
  by_cases hs : side = 0 ∨ side = 1
  · have hv1 := hv side
    rw [if_pos hs] at hv1
    rw [if_pos hs, if_pos hs, if_pos (show ((0, (0 : Int32)) : Nat × Int32).1 = 0 from rfl), if_pos (show (0 : Int32) ≤ 0 by decide)]
    obtain ⟨who, hwho, rfl⟩ := side_of hs
    have hg := g_find hD hb (k := 2) (by omega) (by omega) (ct_2 hD) hF hwho nn x
    have h0 : ∀ i s, mX5_find_2_L1 (nI F) (nI R) (fun _ => 0) (fun _ => 0) fu (nI who) nn x 0 i s = mX5_find_2_L1 (nI F) (nI R) (fun _ => 0) (fun _ => 0) fu (nI who) nn x 0 0 0 := fun i s => by rw [mX5_find_2_L1, mX5_find_2_L1]
    have no1 : (mX5_find_2_L1 (nI F) (nI R) (fun _ => 0) (fun _ => 0) fu (nI who) nn x 0 0 0).1 = 0 ∧ (mX5_find_2_L1 (nI F) (nI R) (fun _ => 0) (fun _ => 0) fu (nI who) nn x 0 0 0).2.1 = 2 := by rw [mX5_find_2_L1]; exact ⟨rfl, rfl⟩
    have hL := rL_2 (F := F) (R := R) (fu := fu) who nn x
    by_cases hx : x < 0
    · have hp : mX3_pick (n * n) ((mX4_prepare_2 (nI F) (nI R) n al ff lf sqf stf (n * n) (fun _ => 0) (fun _ => 0) (fun _ => 0) (fun _ => 0) (-1)).1) ((mX4_prepare_2 (nI F) (nI R) n al ff lf sqf stf (n * n) (fun _ => 0) (fun _ => 0) (fun _ => 0) (fun _ => 0) (-1)).2.2.1) ((mX4_prepare_2 (nI F) (nI R) n al ff lf sqf stf (n * n) (fun _ => 0) (fun _ => 0) (fun _ => 0) (fun _ => 0) (-1)).2.2.2.1) n sqf (nI who) nn x = -1 := by
        rcases hg with ⟨q, -⟩ | ⟨j, a, hj, rfl, -⟩
        · exact q
        · exact absurd hx (nI_pos hj)
      obtain ⟨q1, q2⟩ := hL.1 hx
      rw [hp, if_neg (show ¬ (0 : Int32) ≤ -1 by decide)]
      exact Or.inr (Or.inr ⟨rfl, q2⟩)
    · rcases hg with ⟨hp, hno⟩ | ⟨j, a, hj, hxj, ha, hpa, hca, hp⟩
      · obtain ⟨j, hj, hxj, hno⟩ := hno.resolve_left hx
        rw [hp, if_neg (show ¬ (0 : Int32) ≤ -1 by decide)]
        rcases hL.2 hx j hj hxj with ⟨a, h1, h2, h3, -⟩ | h2
        · exact absurd h3 (hno a h1 h2)
        · exact Or.inr (Or.inr ⟨rfl, h2.2.2⟩)
      · have hac : acode a < 2 ^ 31 := by unfold acode; omega
        rw [hp, if_pos (show (0 : Int32) ≤ nI (acode a) from nI_pos' hac)]
        rcases hL.2 hx j hj hxj with ⟨a2, h1, h2, h3, h4, h5⟩ | h2
        · have : a2 = a := by
            rcases Nat.lt_trichotomy a2 a with z | z | z
            · have := ct_mono (pR F R 2 who (mX5_build_2 (nI F) (nI R) (fun _ => 0) (fun _ => 0) fu).1 nn) (show a2 + 1 ≤ a from z)
              rw [ct_succ, if_pos h2] at this
              omega
            · exact z
            · have := ct_mono (pR F R 2 who (mX5_build_2 (nI F) (nI R) (fun _ => 0) (fun _ => 0) fu).1 nn) (show a + 1 ≤ a2 from z)
              rw [ct_succ, if_pos hpa] at this
              omega
          subst this
          exact Or.inl ⟨rfl, h5.trans hv1, h4⟩
        · exact absurd hca (h2.1 a ha hpa)
  · rw [if_neg hs, if_neg hs, if_neg (show ¬ ((1, (0 : Int32)) : Nat × Int32).1 = 0 by decide), if_neg (show ¬ (1 : Int32) ≤ 0 by decide)]
    exact Or.inr (Or.inl ⟨rfl, rfl⟩)
theorem ag_dist_3 (hD : BD F R n al ff lf sqf stf) (hb : Bnd F R) {fu : Nat} (hF : FIN F R 3 (mX5_build_3 (nI F) (nI R) (fun _ => 0) (fun _ => 0) fu).1) (white man black side : Int32) : AG (mX4_distance_3 (nI F) (nI R) n al ff lf sqf stf (n * n) (fun _ => 0) (fun _ => 0) (fun _ => 0) (fun _ => 0) (-1) white man black side) (mX5_distance_3 (nI F) (nI R) (fun _ => 0) (fun _ => 0) fu white man black side).2.1 (mX5_distance_3 (nI F) (nI R) (fun _ => 0) (fun _ => 0) fu white man black side).1 := by
  have hpos := c_isPos hD (k := 3) (by omega) (by omega) white man black side
  have hd := fun h => g_dist hD hb (k := 3) (by omega) (by omega) (ct_3 hD) hF (white := white) (man := man) (black := black) (side := side) h
  rw [show nI 3 = (3 : Int32) from rfl] at hpos hd
  have hk : ¬ zI (mX5_isKind (3 : Int32)) = 0 := by rw [zI_b0]; exact fun q => q (by decide)
  unfold mX4_distance_3 mX5_distance_3 mX5_distance_3_V1
  rw [if_neg hk]
  have hl : (mX4_lookAt_3 (nI F) (nI R) n al ff lf sqf stf white man black side).1 = mX5_isPosition (nI F) (nI R) (3 : Int32) white man black side := hpos
  rw [hl]
  by_cases hp : mX5_isPosition (nI F) (nI R) (3 : Int32) white man black side = true
  · have hz : ¬ zI (mX5_isPosition (nI F) (nI R) (3 : Int32) white man black side) = 0 := by rw [zI_b0]; exact fun q => q hp
    rw [if_neg hz, if_neg hz, if_pos (by decide)]
    exact Or.inl ⟨rfl, rfl, (hd hp).symm⟩
  · have hz : zI (mX5_isPosition (nI F) (nI R) (3 : Int32) white man black side) = 0 := by rw [zI_b0]; exact hp
    rw [if_pos hz, if_pos hz, if_neg (by decide)]
    exact Or.inr (Or.inl ⟨rfl, rfl⟩)
theorem ag_count_3 (hD : BD F R n al ff lf sqf stf) (hb : Bnd F R) {fu : Nat} (hF : FIN F R 3 (mX5_build_3 (nI F) (nI R) (fun _ => 0) (fun _ => 0) fu).1) (side nn : Int32) : AG (mX4_count_3 (nI F) (nI R) n al ff lf sqf stf (n * n) (fun _ => 0) (fun _ => 0) (fun _ => 0) (fun _ => 0) (-1) side nn) (mX5_count_3 (nI F) (nI R) (fun _ => 0) (fun _ => 0) fu side nn).2.1 (mX5_count_3 (nI F) (nI R) (fun _ => 0) (fun _ => 0) fu side nn).1 := by
  have hk : ¬ zI (mX5_isKind (3 : Int32)) = 0 := by rw [zI_b0]; exact fun q => q (by decide)
  have hm : ¬ zI (mX4_isMan (3 : Int32)) = 0 := by rw [zI_b0]; exact fun q => q (by decide)
  have hck : ∀ s : Int32, mX4_checkKindAndSide (3 : Int32) s = if s = 0 ∨ s = 1 then (0, (0 : Int32)) else (1, (0 : Int32)) := by
    intro s
    unfold mX4_checkKindAndSide
    rw [if_neg hm]
    by_cases h : s = 0 ∨ s = 1
    · rw [if_pos h, if_neg (by rw [zI_b0]; exact fun q => q (isSide_t.mpr h))]
    · rw [if_neg h, if_pos (by rw [zI_b0]; exact fun q => h (isSide_t.mp q))]
  have hv : ∀ s : Int32, mX5_count_3_V1 s = if s = 0 ∨ s = 1 then (0 : Int32) else 1 := by
    intro s
    unfold mX5_count_3_V1
    rw [if_neg hk]
    by_cases h : s = 0 ∨ s = 1
    · rw [if_pos h]
      rcases h with rfl | rfl
      · rfl
      · rfl
    · rw [if_neg h]
      rcases side_no h with z | z
      · rw [if_pos z]
      · by_cases z0 : s < 0
        · rw [if_pos z0]
        · rw [if_neg z0, if_pos z]
  unfold mX4_count_3 mX5_count_3
  rw [hck, hv]
  by_cases hs : side = 0 ∨ side = 1
  · rw [if_pos hs, if_pos hs, if_pos (show ((0, (0 : Int32)) : Nat × Int32).1 = 0 from rfl), if_pos (show (0 : Int32) ≤ 0 by decide)]
    obtain ⟨who, hwho, rfl⟩ := side_of hs
    have h1 := (g_iso hD hb (k := 3) (by omega) (by omega) (ct_3 hD) hF hwho nn).1
    have h2 := r_countL (L := mX5_count_3_L1 (nI F) (nI R) (fun _ => 0) (fun _ => 0) fu (nI who) nn) (V := fun i s => mX5_count_3_V2 (nI F) (nI R) (fun _ => 0) (fun _ => 0) fu (nI who) nn i s) (one := pR F R 3 who (mX5_build_3 (nI F) (nI R) (fun _ => 0) (fun _ => 0) fu).1 nn) (fun _ _ => by rw [mX5_count_3_L1]) (fun _ _ _ => by rw [mX5_count_3_L1]) (fun i s => rfl) 262144
    refine Or.inl ⟨rfl, rfl, ?_⟩
    dsimp only
    rw [h2, c_amount, h1]
  · rw [if_neg hs, if_neg hs, if_neg (show ¬ ((1, (0 : Int32)) : Nat × Int32).1 = 0 by decide), if_neg (show ¬ (1 : Int32) ≤ 0 by decide)]
    exact Or.inr (Or.inl ⟨rfl, rfl⟩)
theorem ag_longest_3 (hD : BD F R n al ff lf sqf stf) (hb : Bnd F R) {fu : Nat} (hG : GF F R 3 ((mX5_build_3 (nI F) (nI R) (fun _ => 0) (fun _ => 0) fu).2 (3 : Int32).toNatClampNeg)) : AG (mX4_longest_3 (nI F) (nI R) n al ff lf sqf stf (n * n) (fun _ => 0) (fun _ => 0) (fun _ => 0) (fun _ => 0) (-1)) (mX5_longest_3 (nI F) (nI R) (fun _ => 0) (fun _ => 0) fu).2.1 (mX5_longest_3 (nI F) (nI R) (fun _ => 0) (fun _ => 0) fu).1 := by
  have hk : ¬ zI (mX5_isKind (3 : Int32)) = 0 := by rw [zI_b0]; exact fun q => q (by decide)
  unfold mX4_longest_3 mX5_longest_3 mX5_longest_3_V1
  rw [if_neg hk, if_pos (by decide)]
  exact Or.inl ⟨rfl, rfl, (g_gm hb (by omega) (by omega) (ct_3 hD).2.2.2.2.2.2 hG).symm⟩
theorem ag_find_3 (hD : BD F R n al ff lf sqf stf) (hb : Bnd F R) {fu : Nat} (hF : FIN F R 3 (mX5_build_3 (nI F) (nI R) (fun _ => 0) (fun _ => 0) fu).1) (side nn x : Int32) : AG (mX4_find_3 (nI F) (nI R) n al ff lf sqf stf (n * n) (fun _ => 0) (fun _ => 0) (fun _ => 0) (fun _ => 0) (-1) side nn x) (mX5_find_3 (nI F) (nI R) (fun _ => 0) (fun _ => 0) fu side nn x).2.1 (mX5_find_3 (nI F) (nI R) (fun _ => 0) (fun _ => 0) fu side nn x).1 := by
  have hk : ¬ zI (mX5_isKind (3 : Int32)) = 0 := by rw [zI_b0]; exact fun q => q (by decide)
  have hm : ¬ zI (mX4_isMan (3 : Int32)) = 0 := by rw [zI_b0]; exact fun q => q (by decide)
  have hck : ∀ s : Int32, mX4_checkKindAndSide (3 : Int32) s = if s = 0 ∨ s = 1 then (0, (0 : Int32)) else (1, (0 : Int32)) := by
    intro s
    unfold mX4_checkKindAndSide
    rw [if_neg hm]
    by_cases h : s = 0 ∨ s = 1
    · rw [if_pos h, if_neg (by rw [zI_b0]; exact fun q => q (isSide_t.mpr h))]
    · rw [if_neg h, if_pos (by rw [zI_b0]; exact fun q => h (isSide_t.mp q))]
  have hv : ∀ s : Int32, mX5_find_3_V1 s = if s = 0 ∨ s = 1 then (0 : Int32) else 1 := by
    intro s
    unfold mX5_find_3_V1
    rw [if_neg hk]
    by_cases h : s = 0 ∨ s = 1
    · rw [if_pos h]
      rcases h with rfl | rfl
      · rfl
      · rfl
    · rw [if_neg h]
      rcases side_no h with z | z
      · rw [if_pos z]
      · by_cases z0 : s < 0
        · rw [if_pos z0]
        · rw [if_neg z0, if_pos z]
  unfold mX4_find_3 mX5_find_3
  rw [hck, hv]
  by_cases hs : side = 0 ∨ side = 1
  · have hv1 := hv side
    rw [if_pos hs] at hv1
    rw [if_pos hs, if_pos hs, if_pos (show ((0, (0 : Int32)) : Nat × Int32).1 = 0 from rfl), if_pos (show (0 : Int32) ≤ 0 by decide)]
    obtain ⟨who, hwho, rfl⟩ := side_of hs
    have hg := g_find hD hb (k := 3) (by omega) (by omega) (ct_3 hD) hF hwho nn x
    have h0 : ∀ i s, mX5_find_3_L1 (nI F) (nI R) (fun _ => 0) (fun _ => 0) fu (nI who) nn x 0 i s = mX5_find_3_L1 (nI F) (nI R) (fun _ => 0) (fun _ => 0) fu (nI who) nn x 0 0 0 := fun i s => by rw [mX5_find_3_L1, mX5_find_3_L1]
    have no1 : (mX5_find_3_L1 (nI F) (nI R) (fun _ => 0) (fun _ => 0) fu (nI who) nn x 0 0 0).1 = 0 ∧ (mX5_find_3_L1 (nI F) (nI R) (fun _ => 0) (fun _ => 0) fu (nI who) nn x 0 0 0).2.1 = 2 := by rw [mX5_find_3_L1]; exact ⟨rfl, rfl⟩
    have hL := rL_3 (F := F) (R := R) (fu := fu) who nn x
    by_cases hx : x < 0
    · have hp : mX3_pick (n * n) ((mX4_prepare_3 (nI F) (nI R) n al ff lf sqf stf (n * n) (fun _ => 0) (fun _ => 0) (fun _ => 0) (fun _ => 0) (-1)).1) ((mX4_prepare_3 (nI F) (nI R) n al ff lf sqf stf (n * n) (fun _ => 0) (fun _ => 0) (fun _ => 0) (fun _ => 0) (-1)).2.2.1) ((mX4_prepare_3 (nI F) (nI R) n al ff lf sqf stf (n * n) (fun _ => 0) (fun _ => 0) (fun _ => 0) (fun _ => 0) (-1)).2.2.2.1) n sqf (nI who) nn x = -1 := by
        rcases hg with ⟨q, -⟩ | ⟨j, a, hj, rfl, -⟩
        · exact q
        · exact absurd hx (nI_pos hj)
      obtain ⟨q1, q2⟩ := hL.1 hx
      rw [hp, if_neg (show ¬ (0 : Int32) ≤ -1 by decide)]
      exact Or.inr (Or.inr ⟨rfl, q2⟩)
    · rcases hg with ⟨hp, hno⟩ | ⟨j, a, hj, hxj, ha, hpa, hca, hp⟩
      · obtain ⟨j, hj, hxj, hno⟩ := hno.resolve_left hx
        rw [hp, if_neg (show ¬ (0 : Int32) ≤ -1 by decide)]
        rcases hL.2 hx j hj hxj with ⟨a, h1, h2, h3, -⟩ | h2
        · exact absurd h3 (hno a h1 h2)
        · exact Or.inr (Or.inr ⟨rfl, h2.2.2⟩)
      · have hac : acode a < 2 ^ 31 := by unfold acode; omega
        rw [hp, if_pos (show (0 : Int32) ≤ nI (acode a) from nI_pos' hac)]
        rcases hL.2 hx j hj hxj with ⟨a2, h1, h2, h3, h4, h5⟩ | h2
        · have : a2 = a := by
            rcases Nat.lt_trichotomy a2 a with z | z | z
            · have := ct_mono (pR F R 3 who (mX5_build_3 (nI F) (nI R) (fun _ => 0) (fun _ => 0) fu).1 nn) (show a2 + 1 ≤ a from z)
              rw [ct_succ, if_pos h2] at this
              omega
            · exact z
            · have := ct_mono (pR F R 3 who (mX5_build_3 (nI F) (nI R) (fun _ => 0) (fun _ => 0) fu).1 nn) (show a + 1 ≤ a2 from z)
              rw [ct_succ, if_pos hpa] at this
              omega
          subst this
          exact Or.inl ⟨rfl, h5.trans hv1, h4⟩
        · exact absurd hca (h2.1 a ha hpa)
  · rw [if_neg hs, if_neg hs, if_neg (show ¬ ((1, (0 : Int32)) : Nat × Int32).1 = 0 by decide), if_neg (show ¬ (1 : Int32) ≤ 0 by decide)]
    exact Or.inr (Or.inl ⟨rfl, rfl⟩)
theorem ag_dist_4 (hD : BD F R n al ff lf sqf stf) (hb : Bnd F R) {fu : Nat} (hF : FIN F R 4 (mX5_build_4 (nI F) (nI R) (fun _ => 0) (fun _ => 0) fu).1) (white man black side : Int32) : AG (mX4_distance_4 (nI F) (nI R) n al ff lf sqf stf (n * n) (fun _ => 0) (fun _ => 0) (fun _ => 0) (fun _ => 0) (-1) white man black side) (mX5_distance_4 (nI F) (nI R) (fun _ => 0) (fun _ => 0) fu white man black side).2.1 (mX5_distance_4 (nI F) (nI R) (fun _ => 0) (fun _ => 0) fu white man black side).1 := by
  have hpos := c_isPos hD (k := 4) (by omega) (by omega) white man black side
  have hd := fun h => g_dist hD hb (k := 4) (by omega) (by omega) (ct_4 hD) hF (white := white) (man := man) (black := black) (side := side) h
  rw [show nI 4 = (4 : Int32) from rfl] at hpos hd
  have hk : ¬ zI (mX5_isKind (4 : Int32)) = 0 := by rw [zI_b0]; exact fun q => q (by decide)
  unfold mX4_distance_4 mX5_distance_4 mX5_distance_4_V1
  rw [if_neg hk]
  have hl : (mX4_lookAt_4 (nI F) (nI R) n al ff lf sqf stf white man black side).1 = mX5_isPosition (nI F) (nI R) (4 : Int32) white man black side := hpos
  rw [hl]
  by_cases hp : mX5_isPosition (nI F) (nI R) (4 : Int32) white man black side = true
  · have hz : ¬ zI (mX5_isPosition (nI F) (nI R) (4 : Int32) white man black side) = 0 := by rw [zI_b0]; exact fun q => q hp
    rw [if_neg hz, if_neg hz, if_pos (by decide)]
    exact Or.inl ⟨rfl, rfl, (hd hp).symm⟩
  · have hz : zI (mX5_isPosition (nI F) (nI R) (4 : Int32) white man black side) = 0 := by rw [zI_b0]; exact hp
    rw [if_pos hz, if_pos hz, if_neg (by decide)]
    exact Or.inr (Or.inl ⟨rfl, rfl⟩)
theorem ag_count_4 (hD : BD F R n al ff lf sqf stf) (hb : Bnd F R) {fu : Nat} (hF : FIN F R 4 (mX5_build_4 (nI F) (nI R) (fun _ => 0) (fun _ => 0) fu).1) (side nn : Int32) : AG (mX4_count_4 (nI F) (nI R) n al ff lf sqf stf (n * n) (fun _ => 0) (fun _ => 0) (fun _ => 0) (fun _ => 0) (-1) side nn) (mX5_count_4 (nI F) (nI R) (fun _ => 0) (fun _ => 0) fu side nn).2.1 (mX5_count_4 (nI F) (nI R) (fun _ => 0) (fun _ => 0) fu side nn).1 := by
  have hk : ¬ zI (mX5_isKind (4 : Int32)) = 0 := by rw [zI_b0]; exact fun q => q (by decide)
  have hm : ¬ zI (mX4_isMan (4 : Int32)) = 0 := by rw [zI_b0]; exact fun q => q (by decide)
  have hck : ∀ s : Int32, mX4_checkKindAndSide (4 : Int32) s = if s = 0 ∨ s = 1 then (0, (0 : Int32)) else (1, (0 : Int32)) := by
    intro s
    unfold mX4_checkKindAndSide
    rw [if_neg hm]
    by_cases h : s = 0 ∨ s = 1
    · rw [if_pos h, if_neg (by rw [zI_b0]; exact fun q => q (isSide_t.mpr h))]
    · rw [if_neg h, if_pos (by rw [zI_b0]; exact fun q => h (isSide_t.mp q))]
  have hv : ∀ s : Int32, mX5_count_4_V1 s = if s = 0 ∨ s = 1 then (0 : Int32) else 1 := by
    intro s
    unfold mX5_count_4_V1
    rw [if_neg hk]
    by_cases h : s = 0 ∨ s = 1
    · rw [if_pos h]
      rcases h with rfl | rfl
      · rfl
      · rfl
    · rw [if_neg h]
      rcases side_no h with z | z
      · rw [if_pos z]
      · by_cases z0 : s < 0
        · rw [if_pos z0]
        · rw [if_neg z0, if_pos z]
  unfold mX4_count_4 mX5_count_4
  rw [hck, hv]
  by_cases hs : side = 0 ∨ side = 1
  · rw [if_pos hs, if_pos hs, if_pos (show ((0, (0 : Int32)) : Nat × Int32).1 = 0 from rfl), if_pos (show (0 : Int32) ≤ 0 by decide)]
    obtain ⟨who, hwho, rfl⟩ := side_of hs
    have h1 := (g_iso hD hb (k := 4) (by omega) (by omega) (ct_4 hD) hF hwho nn).1
    have h2 := r_countL (L := mX5_count_4_L1 (nI F) (nI R) (fun _ => 0) (fun _ => 0) fu (nI who) nn) (V := fun i s => mX5_count_4_V2 (nI F) (nI R) (fun _ => 0) (fun _ => 0) fu (nI who) nn i s) (one := pR F R 4 who (mX5_build_4 (nI F) (nI R) (fun _ => 0) (fun _ => 0) fu).1 nn) (fun _ _ => by rw [mX5_count_4_L1]) (fun _ _ _ => by rw [mX5_count_4_L1]) (fun i s => rfl) 262144
    refine Or.inl ⟨rfl, rfl, ?_⟩
    dsimp only
    rw [h2, c_amount, h1]
  · rw [if_neg hs, if_neg hs, if_neg (show ¬ ((1, (0 : Int32)) : Nat × Int32).1 = 0 by decide), if_neg (show ¬ (1 : Int32) ≤ 0 by decide)]
    exact Or.inr (Or.inl ⟨rfl, rfl⟩)
theorem ag_longest_4 (hD : BD F R n al ff lf sqf stf) (hb : Bnd F R) {fu : Nat} (hG : GF F R 4 ((mX5_build_4 (nI F) (nI R) (fun _ => 0) (fun _ => 0) fu).2 (4 : Int32).toNatClampNeg)) : AG (mX4_longest_4 (nI F) (nI R) n al ff lf sqf stf (n * n) (fun _ => 0) (fun _ => 0) (fun _ => 0) (fun _ => 0) (-1)) (mX5_longest_4 (nI F) (nI R) (fun _ => 0) (fun _ => 0) fu).2.1 (mX5_longest_4 (nI F) (nI R) (fun _ => 0) (fun _ => 0) fu).1 := by
  have hk : ¬ zI (mX5_isKind (4 : Int32)) = 0 := by rw [zI_b0]; exact fun q => q (by decide)
  unfold mX4_longest_4 mX5_longest_4 mX5_longest_4_V1
  rw [if_neg hk, if_pos (by decide)]
  exact Or.inl ⟨rfl, rfl, (g_gm hb (by omega) (by omega) (ct_4 hD).2.2.2.2.2.2 hG).symm⟩
theorem ag_find_4 (hD : BD F R n al ff lf sqf stf) (hb : Bnd F R) {fu : Nat} (hF : FIN F R 4 (mX5_build_4 (nI F) (nI R) (fun _ => 0) (fun _ => 0) fu).1) (side nn x : Int32) : AG (mX4_find_4 (nI F) (nI R) n al ff lf sqf stf (n * n) (fun _ => 0) (fun _ => 0) (fun _ => 0) (fun _ => 0) (-1) side nn x) (mX5_find_4 (nI F) (nI R) (fun _ => 0) (fun _ => 0) fu side nn x).2.1 (mX5_find_4 (nI F) (nI R) (fun _ => 0) (fun _ => 0) fu side nn x).1 := by
  have hk : ¬ zI (mX5_isKind (4 : Int32)) = 0 := by rw [zI_b0]; exact fun q => q (by decide)
  have hm : ¬ zI (mX4_isMan (4 : Int32)) = 0 := by rw [zI_b0]; exact fun q => q (by decide)
  have hck : ∀ s : Int32, mX4_checkKindAndSide (4 : Int32) s = if s = 0 ∨ s = 1 then (0, (0 : Int32)) else (1, (0 : Int32)) := by
    intro s
    unfold mX4_checkKindAndSide
    rw [if_neg hm]
    by_cases h : s = 0 ∨ s = 1
    · rw [if_pos h, if_neg (by rw [zI_b0]; exact fun q => q (isSide_t.mpr h))]
    · rw [if_neg h, if_pos (by rw [zI_b0]; exact fun q => h (isSide_t.mp q))]
  have hv : ∀ s : Int32, mX5_find_4_V1 s = if s = 0 ∨ s = 1 then (0 : Int32) else 1 := by
    intro s
    unfold mX5_find_4_V1
    rw [if_neg hk]
    by_cases h : s = 0 ∨ s = 1
    · rw [if_pos h]
      rcases h with rfl | rfl
      · rfl
      · rfl
    · rw [if_neg h]
      rcases side_no h with z | z
      · rw [if_pos z]
      · by_cases z0 : s < 0
        · rw [if_pos z0]
        · rw [if_neg z0, if_pos z]
  unfold mX4_find_4 mX5_find_4
  rw [hck, hv]
  by_cases hs : side = 0 ∨ side = 1
  · have hv1 := hv side
    rw [if_pos hs] at hv1
    rw [if_pos hs, if_pos hs, if_pos (show ((0, (0 : Int32)) : Nat × Int32).1 = 0 from rfl), if_pos (show (0 : Int32) ≤ 0 by decide)]
    obtain ⟨who, hwho, rfl⟩ := side_of hs
    have hg := g_find hD hb (k := 4) (by omega) (by omega) (ct_4 hD) hF hwho nn x
    have h0 : ∀ i s, mX5_find_4_L1 (nI F) (nI R) (fun _ => 0) (fun _ => 0) fu (nI who) nn x 0 i s = mX5_find_4_L1 (nI F) (nI R) (fun _ => 0) (fun _ => 0) fu (nI who) nn x 0 0 0 := fun i s => by rw [mX5_find_4_L1, mX5_find_4_L1]
    have no1 : (mX5_find_4_L1 (nI F) (nI R) (fun _ => 0) (fun _ => 0) fu (nI who) nn x 0 0 0).1 = 0 ∧ (mX5_find_4_L1 (nI F) (nI R) (fun _ => 0) (fun _ => 0) fu (nI who) nn x 0 0 0).2.1 = 2 := by rw [mX5_find_4_L1]; exact ⟨rfl, rfl⟩
    have hL := rL_4 (F := F) (R := R) (fu := fu) who nn x
    by_cases hx : x < 0
    · have hp : mX3_pick (n * n) ((mX4_prepare_4 (nI F) (nI R) n al ff lf sqf stf (n * n) (fun _ => 0) (fun _ => 0) (fun _ => 0) (fun _ => 0) (-1)).1) ((mX4_prepare_4 (nI F) (nI R) n al ff lf sqf stf (n * n) (fun _ => 0) (fun _ => 0) (fun _ => 0) (fun _ => 0) (-1)).2.2.1) ((mX4_prepare_4 (nI F) (nI R) n al ff lf sqf stf (n * n) (fun _ => 0) (fun _ => 0) (fun _ => 0) (fun _ => 0) (-1)).2.2.2.1) n sqf (nI who) nn x = -1 := by
        rcases hg with ⟨q, -⟩ | ⟨j, a, hj, rfl, -⟩
        · exact q
        · exact absurd hx (nI_pos hj)
      obtain ⟨q1, q2⟩ := hL.1 hx
      rw [hp, if_neg (show ¬ (0 : Int32) ≤ -1 by decide)]
      exact Or.inr (Or.inr ⟨rfl, q2⟩)
    · rcases hg with ⟨hp, hno⟩ | ⟨j, a, hj, hxj, ha, hpa, hca, hp⟩
      · obtain ⟨j, hj, hxj, hno⟩ := hno.resolve_left hx
        rw [hp, if_neg (show ¬ (0 : Int32) ≤ -1 by decide)]
        rcases hL.2 hx j hj hxj with ⟨a, h1, h2, h3, -⟩ | h2
        · exact absurd h3 (hno a h1 h2)
        · exact Or.inr (Or.inr ⟨rfl, h2.2.2⟩)
      · have hac : acode a < 2 ^ 31 := by unfold acode; omega
        rw [hp, if_pos (show (0 : Int32) ≤ nI (acode a) from nI_pos' hac)]
        rcases hL.2 hx j hj hxj with ⟨a2, h1, h2, h3, h4, h5⟩ | h2
        · have : a2 = a := by
            rcases Nat.lt_trichotomy a2 a with z | z | z
            · have := ct_mono (pR F R 4 who (mX5_build_4 (nI F) (nI R) (fun _ => 0) (fun _ => 0) fu).1 nn) (show a2 + 1 ≤ a from z)
              rw [ct_succ, if_pos h2] at this
              omega
            · exact z
            · have := ct_mono (pR F R 4 who (mX5_build_4 (nI F) (nI R) (fun _ => 0) (fun _ => 0) fu).1 nn) (show a + 1 ≤ a2 from z)
              rw [ct_succ, if_pos hpa] at this
              omega
          subst this
          exact Or.inl ⟨rfl, h5.trans hv1, h4⟩
        · exact absurd hca (h2.1 a ha hpa)
  · rw [if_neg hs, if_neg hs, if_neg (show ¬ ((1, (0 : Int32)) : Nat × Int32).1 = 0 by decide), if_neg (show ¬ (1 : Int32) ≤ 0 by decide)]
    exact Or.inr (Or.inl ⟨rfl, rfl⟩)
theorem ag_dist_5 (hD : BD F R n al ff lf sqf stf) (hb : Bnd F R) {fu : Nat} (hF : FIN F R 5 (mX5_build_5 (nI F) (nI R) (fun _ => 0) (fun _ => 0) fu).1) (white man black side : Int32) : AG (mX4_distance_5 (nI F) (nI R) n al ff lf sqf stf (n * n) (fun _ => 0) (fun _ => 0) (fun _ => 0) (fun _ => 0) (-1) white man black side) (mX5_distance_5 (nI F) (nI R) (fun _ => 0) (fun _ => 0) fu white man black side).2.1 (mX5_distance_5 (nI F) (nI R) (fun _ => 0) (fun _ => 0) fu white man black side).1 := by
  have hpos := c_isPos hD (k := 5) (by omega) (by omega) white man black side
  have hd := fun h => g_dist hD hb (k := 5) (by omega) (by omega) (ct_5 hD) hF (white := white) (man := man) (black := black) (side := side) h
  rw [show nI 5 = (5 : Int32) from rfl] at hpos hd
  have hk : ¬ zI (mX5_isKind (5 : Int32)) = 0 := by rw [zI_b0]; exact fun q => q (by decide)
  unfold mX4_distance_5 mX5_distance_5 mX5_distance_5_V1
  rw [if_neg hk]
  have hl : (mX4_lookAt_5 (nI F) (nI R) n al ff lf sqf stf white man black side).1 = mX5_isPosition (nI F) (nI R) (5 : Int32) white man black side := hpos
  rw [hl]
  by_cases hp : mX5_isPosition (nI F) (nI R) (5 : Int32) white man black side = true
  · have hz : ¬ zI (mX5_isPosition (nI F) (nI R) (5 : Int32) white man black side) = 0 := by rw [zI_b0]; exact fun q => q hp
    rw [if_neg hz, if_neg hz, if_pos (by decide)]
    exact Or.inl ⟨rfl, rfl, (hd hp).symm⟩
  · have hz : zI (mX5_isPosition (nI F) (nI R) (5 : Int32) white man black side) = 0 := by rw [zI_b0]; exact hp
    rw [if_pos hz, if_pos hz, if_neg (by decide)]
    exact Or.inr (Or.inl ⟨rfl, rfl⟩)
theorem ag_count_5 (hD : BD F R n al ff lf sqf stf) (hb : Bnd F R) {fu : Nat} (hF : FIN F R 5 (mX5_build_5 (nI F) (nI R) (fun _ => 0) (fun _ => 0) fu).1) (side nn : Int32) : AG (mX4_count_5 (nI F) (nI R) n al ff lf sqf stf (n * n) (fun _ => 0) (fun _ => 0) (fun _ => 0) (fun _ => 0) (-1) side nn) (mX5_count_5 (nI F) (nI R) (fun _ => 0) (fun _ => 0) fu side nn).2.1 (mX5_count_5 (nI F) (nI R) (fun _ => 0) (fun _ => 0) fu side nn).1 := by
  have hk : ¬ zI (mX5_isKind (5 : Int32)) = 0 := by rw [zI_b0]; exact fun q => q (by decide)
  have hm : ¬ zI (mX4_isMan (5 : Int32)) = 0 := by rw [zI_b0]; exact fun q => q (by decide)
  have hck : ∀ s : Int32, mX4_checkKindAndSide (5 : Int32) s = if s = 0 ∨ s = 1 then (0, (0 : Int32)) else (1, (0 : Int32)) := by
    intro s
    unfold mX4_checkKindAndSide
    rw [if_neg hm]
    by_cases h : s = 0 ∨ s = 1
    · rw [if_pos h, if_neg (by rw [zI_b0]; exact fun q => q (isSide_t.mpr h))]
    · rw [if_neg h, if_pos (by rw [zI_b0]; exact fun q => h (isSide_t.mp q))]
  have hv : ∀ s : Int32, mX5_count_5_V1 s = if s = 0 ∨ s = 1 then (0 : Int32) else 1 := by
    intro s
    unfold mX5_count_5_V1
    rw [if_neg hk]
    by_cases h : s = 0 ∨ s = 1
    · rw [if_pos h]
      rcases h with rfl | rfl
      · rfl
      · rfl
    · rw [if_neg h]
      rcases side_no h with z | z
      · rw [if_pos z]
      · by_cases z0 : s < 0
        · rw [if_pos z0]
        · rw [if_neg z0, if_pos z]
  unfold mX4_count_5 mX5_count_5
  rw [hck, hv]
  by_cases hs : side = 0 ∨ side = 1
  · rw [if_pos hs, if_pos hs, if_pos (show ((0, (0 : Int32)) : Nat × Int32).1 = 0 from rfl), if_pos (show (0 : Int32) ≤ 0 by decide)]
    obtain ⟨who, hwho, rfl⟩ := side_of hs
    have h1 := (g_iso hD hb (k := 5) (by omega) (by omega) (ct_5 hD) hF hwho nn).1
    have h2 := r_countL (L := mX5_count_5_L1 (nI F) (nI R) (fun _ => 0) (fun _ => 0) fu (nI who) nn) (V := fun i s => mX5_count_5_V2 (nI F) (nI R) (fun _ => 0) (fun _ => 0) fu (nI who) nn i s) (one := pR F R 5 who (mX5_build_5 (nI F) (nI R) (fun _ => 0) (fun _ => 0) fu).1 nn) (fun _ _ => by rw [mX5_count_5_L1]) (fun _ _ _ => by rw [mX5_count_5_L1]) (fun i s => rfl) 262144
    refine Or.inl ⟨rfl, rfl, ?_⟩
    dsimp only
    rw [h2, c_amount, h1]
  · rw [if_neg hs, if_neg hs, if_neg (show ¬ ((1, (0 : Int32)) : Nat × Int32).1 = 0 by decide), if_neg (show ¬ (1 : Int32) ≤ 0 by decide)]
    exact Or.inr (Or.inl ⟨rfl, rfl⟩)
theorem ag_longest_5 (hD : BD F R n al ff lf sqf stf) (hb : Bnd F R) {fu : Nat} (hG : GF F R 5 ((mX5_build_5 (nI F) (nI R) (fun _ => 0) (fun _ => 0) fu).2 (5 : Int32).toNatClampNeg)) : AG (mX4_longest_5 (nI F) (nI R) n al ff lf sqf stf (n * n) (fun _ => 0) (fun _ => 0) (fun _ => 0) (fun _ => 0) (-1)) (mX5_longest_5 (nI F) (nI R) (fun _ => 0) (fun _ => 0) fu).2.1 (mX5_longest_5 (nI F) (nI R) (fun _ => 0) (fun _ => 0) fu).1 := by
  have hk : ¬ zI (mX5_isKind (5 : Int32)) = 0 := by rw [zI_b0]; exact fun q => q (by decide)
  unfold mX4_longest_5 mX5_longest_5 mX5_longest_5_V1
  rw [if_neg hk, if_pos (by decide)]
  exact Or.inl ⟨rfl, rfl, (g_gm hb (by omega) (by omega) (ct_5 hD).2.2.2.2.2.2 hG).symm⟩
theorem ag_find_5 (hD : BD F R n al ff lf sqf stf) (hb : Bnd F R) {fu : Nat} (hF : FIN F R 5 (mX5_build_5 (nI F) (nI R) (fun _ => 0) (fun _ => 0) fu).1) (side nn x : Int32) : AG (mX4_find_5 (nI F) (nI R) n al ff lf sqf stf (n * n) (fun _ => 0) (fun _ => 0) (fun _ => 0) (fun _ => 0) (-1) side nn x) (mX5_find_5 (nI F) (nI R) (fun _ => 0) (fun _ => 0) fu side nn x).2.1 (mX5_find_5 (nI F) (nI R) (fun _ => 0) (fun _ => 0) fu side nn x).1 := by
  have hk : ¬ zI (mX5_isKind (5 : Int32)) = 0 := by rw [zI_b0]; exact fun q => q (by decide)
  have hm : ¬ zI (mX4_isMan (5 : Int32)) = 0 := by rw [zI_b0]; exact fun q => q (by decide)
  have hck : ∀ s : Int32, mX4_checkKindAndSide (5 : Int32) s = if s = 0 ∨ s = 1 then (0, (0 : Int32)) else (1, (0 : Int32)) := by
    intro s
    unfold mX4_checkKindAndSide
    rw [if_neg hm]
    by_cases h : s = 0 ∨ s = 1
    · rw [if_pos h, if_neg (by rw [zI_b0]; exact fun q => q (isSide_t.mpr h))]
    · rw [if_neg h, if_pos (by rw [zI_b0]; exact fun q => h (isSide_t.mp q))]
  have hv : ∀ s : Int32, mX5_find_5_V1 s = if s = 0 ∨ s = 1 then (0 : Int32) else 1 := by
    intro s
    unfold mX5_find_5_V1
    rw [if_neg hk]
    by_cases h : s = 0 ∨ s = 1
    · rw [if_pos h]
      rcases h with rfl | rfl
      · rfl
      · rfl
    · rw [if_neg h]
      rcases side_no h with z | z
      · rw [if_pos z]
      · by_cases z0 : s < 0
        · rw [if_pos z0]
        · rw [if_neg z0, if_pos z]
  unfold mX4_find_5 mX5_find_5
  rw [hck, hv]
  by_cases hs : side = 0 ∨ side = 1
  · have hv1 := hv side
    rw [if_pos hs] at hv1
    rw [if_pos hs, if_pos hs, if_pos (show ((0, (0 : Int32)) : Nat × Int32).1 = 0 from rfl), if_pos (show (0 : Int32) ≤ 0 by decide)]
    obtain ⟨who, hwho, rfl⟩ := side_of hs
    have hg := g_find hD hb (k := 5) (by omega) (by omega) (ct_5 hD) hF hwho nn x
    have h0 : ∀ i s, mX5_find_5_L1 (nI F) (nI R) (fun _ => 0) (fun _ => 0) fu (nI who) nn x 0 i s = mX5_find_5_L1 (nI F) (nI R) (fun _ => 0) (fun _ => 0) fu (nI who) nn x 0 0 0 := fun i s => by rw [mX5_find_5_L1, mX5_find_5_L1]
    have no1 : (mX5_find_5_L1 (nI F) (nI R) (fun _ => 0) (fun _ => 0) fu (nI who) nn x 0 0 0).1 = 0 ∧ (mX5_find_5_L1 (nI F) (nI R) (fun _ => 0) (fun _ => 0) fu (nI who) nn x 0 0 0).2.1 = 2 := by rw [mX5_find_5_L1]; exact ⟨rfl, rfl⟩
    have hL := rL_5 (F := F) (R := R) (fu := fu) who nn x
    by_cases hx : x < 0
    · have hp : mX3_pick (n * n) ((mX4_prepare_5 (nI F) (nI R) n al ff lf sqf stf (n * n) (fun _ => 0) (fun _ => 0) (fun _ => 0) (fun _ => 0) (-1)).1) ((mX4_prepare_5 (nI F) (nI R) n al ff lf sqf stf (n * n) (fun _ => 0) (fun _ => 0) (fun _ => 0) (fun _ => 0) (-1)).2.2.1) ((mX4_prepare_5 (nI F) (nI R) n al ff lf sqf stf (n * n) (fun _ => 0) (fun _ => 0) (fun _ => 0) (fun _ => 0) (-1)).2.2.2.1) n sqf (nI who) nn x = -1 := by
        rcases hg with ⟨q, -⟩ | ⟨j, a, hj, rfl, -⟩
        · exact q
        · exact absurd hx (nI_pos hj)
      obtain ⟨q1, q2⟩ := hL.1 hx
      rw [hp, if_neg (show ¬ (0 : Int32) ≤ -1 by decide)]
      exact Or.inr (Or.inr ⟨rfl, q2⟩)
    · rcases hg with ⟨hp, hno⟩ | ⟨j, a, hj, hxj, ha, hpa, hca, hp⟩
      · obtain ⟨j, hj, hxj, hno⟩ := hno.resolve_left hx
        rw [hp, if_neg (show ¬ (0 : Int32) ≤ -1 by decide)]
        rcases hL.2 hx j hj hxj with ⟨a, h1, h2, h3, -⟩ | h2
        · exact absurd h3 (hno a h1 h2)
        · exact Or.inr (Or.inr ⟨rfl, h2.2.2⟩)
      · have hac : acode a < 2 ^ 31 := by unfold acode; omega
        rw [hp, if_pos (show (0 : Int32) ≤ nI (acode a) from nI_pos' hac)]
        rcases hL.2 hx j hj hxj with ⟨a2, h1, h2, h3, h4, h5⟩ | h2
        · have : a2 = a := by
            rcases Nat.lt_trichotomy a2 a with z | z | z
            · have := ct_mono (pR F R 5 who (mX5_build_5 (nI F) (nI R) (fun _ => 0) (fun _ => 0) fu).1 nn) (show a2 + 1 ≤ a from z)
              rw [ct_succ, if_pos h2] at this
              omega
            · exact z
            · have := ct_mono (pR F R 5 who (mX5_build_5 (nI F) (nI R) (fun _ => 0) (fun _ => 0) fu).1 nn) (show a + 1 ≤ a2 from z)
              rw [ct_succ, if_pos hpa] at this
              omega
          subst this
          exact Or.inl ⟨rfl, h5.trans hv1, h4⟩
        · exact absurd hca (h2.1 a ha hpa)
  · rw [if_neg hs, if_neg hs, if_neg (show ¬ ((1, (0 : Int32)) : Nat × Int32).1 = 0 by decide), if_neg (show ¬ (1 : Int32) ≤ 0 by decide)]
    exact Or.inr (Or.inl ⟨rfl, rfl⟩)
end Agree
