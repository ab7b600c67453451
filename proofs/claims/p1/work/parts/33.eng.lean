/-! a search over sets of positions kept as one number: bit (w * 64 + m) * 64 + b; run by the kernel, it bounds the distances -/
def frc {α : Type} (x : Nat) (f : Nat → α) : α := match x with
  | 0 => f 0
  | n + 1 => f (n + 1)
theorem frc_eq {α : Type} (x : Nat) (f : Nat → α) : frc x f = f x := by cases x <;> rfl
def frcL {α : Type} : List Nat → (List Nat → α) → α
  | [], f => f []
  | x :: t, f => frc x fun y => frcL t fun l => f (y :: l)
theorem frcL_eq {α : Type} : ∀ (l : List Nat) (f : List Nat → α), frcL l f = f l
  | [], f => rfl
  | x :: t, f => by
    show (frc x fun y => frcL t fun l => f (y :: l)) = f (x :: t)
    rw [frc_eq, frcL_eq t]
def mkR (f : Nat → Nat) (S : Nat) : Nat → Nat
  | 0 => 0
  | n + 1 => mkR f S n ||| (f n <<< (S * n))
theorem mkR_t {f : Nat → Nat} {S r : Nat} (hr : r < S) : ∀ (n i : Nat), (∀ i, i < n → f i < 2 ^ S) → (mkR f S n).testBit (S * i + r) = (decide (i < n) && (f i).testBit r)
  | 0, i, _ => by
    rw [mkR, Nat.zero_testBit, decide_eq_false (Nat.not_lt_zero i), Bool.false_and]
  | n + 1, i, hf => by
    rw [mkR, Nat.testBit_or, mkR_t hr n i (fun i hi => hf i (by omega)), Nat.testBit_shiftLeft]
    rcases Nat.lt_trichotomy i n with h | h | h
    · have h1 : S * i + S ≤ S * n := by
        have := Nat.mul_le_mul_left S (show i + 1 ≤ n from h)
        rw [Nat.mul_add, Nat.mul_one] at this
        exact this
      rw [decide_eq_true h, decide_eq_true (show i < n + 1 by omega), decide_eq_false (show ¬ S * n ≤ S * i + r by omega), Bool.false_and, Bool.or_false]
    · subst h
      rw [decide_eq_false (Nat.lt_irrefl i), decide_eq_true (show i < i + 1 by omega), decide_eq_true (show S * i ≤ S * i + r by omega), show S * i + r - S * i = r by omega, Bool.false_and, Bool.false_or]
    · have h1 : S * n + S ≤ S * i := by
        have := Nat.mul_le_mul_left S (show n + 1 ≤ i from h)
        rw [Nat.mul_add, Nat.mul_one] at this
        exact this
      rw [decide_eq_false (show ¬ i < n by omega), decide_eq_false (show ¬ i < n + 1 by omega), Bool.false_and, Bool.false_or, Nat.testBit_lt_two_pow (Nat.lt_of_lt_of_le (hf n (by omega)) (Nat.pow_le_pow_right (by decide) (by omega))), Bool.and_false]
def ci (w m b : Nat) : Nat := (w * 64 + m) * 64 + b
/-- a set of positions and its number -/
def rep (X : Nat) (P : cP) : Prop := ∀ w m b, w < 64 → m < 64 → b < 64 → (X.testBit (ci w m b) = true ↔ P w m b)
theorem rep_and {X Y : Nat} {P Q : cP} (h : rep X P) (h' : rep Y Q) : rep (X &&& Y) (fun w m b => P w m b ∧ Q w m b) := by
  intro w m b hw hm hb
  rw [Nat.testBit_and, Bool.and_eq_true, h w m b hw hm hb, h' w m b hw hm hb]
theorem rep_or {X Y : Nat} {P Q : cP} (h : rep X P) (h' : rep Y Q) : rep (X ||| Y) (fun w m b => P w m b ∨ Q w m b) := by
  intro w m b hw hm hb
  rw [Nat.testBit_or, Bool.or_eq_true, h w m b hw hm hb, h' w m b hw hm hb]
def dif (X Y : Nat) : Nat := X ^^^ (X &&& Y)
theorem rep_dif {X Y : Nat} {P Q : cP} (h : rep X P) (h' : rep Y Q) : rep (dif X Y) (fun w m b => P w m b ∧ ¬ Q w m b) := by
  intro w m b hw hm hb
  show (dif X Y).testBit (ci w m b) = true ↔ P w m b ∧ ¬ Q w m b
  unfold dif
  rw [Nat.testBit_xor, Nat.testBit_and, ← h w m b hw hm hb, ← h' w m b hw hm hb]
  cases X.testBit (ci w m b) <;> cases Y.testBit (ci w m b) <;> simp
theorem rep_iff {X : Nat} {P Q : cP} (h : rep X P) (e : ∀ w m b, w < 64 → m < 64 → b < 64 → (P w m b ↔ Q w m b)) : rep X Q := fun w m b hw hm hb => (h w m b hw hm hb).trans (e w m b hw hm hb)
theorem rep_0 : rep 0 (fun _ _ _ => False) := by
  intro w m b _ _ _
  rw [Nat.zero_testBit]; simp
/-! sets by one coordinate, or by two being equal -/
def cw (p : Nat → Bool) : Nat := mkR (fun w => if p w then 2 ^ 4096 - 1 else 0) 4096 64
def cm (p : Nat → Bool) : Nat := frc (mkR (fun m => if p m then 2 ^ 64 - 1 else 0) 64 64) fun r => mkR (fun _ => r) 4096 64
def cb (p : Nat → Bool) : Nat := frc (mkR (fun b => if p b then 1 else 0) 1 64) fun q => frc (mkR (fun _ => q) 64 64) fun r => mkR (fun _ => r) 4096 64
def Dmb : Nat := frc (mkR (fun m => 1 <<< m) 64 64) fun r => mkR (fun _ => r) 4096 64
def Dwb : Nat := mkR (fun w => mkR (fun _ => 1 <<< w) 64 64) 4096 64
def Dwm : Nat := mkR (fun w => (2 ^ 64 - 1) <<< (64 * w)) 4096 64
theorem mkR_lt {f : Nat → Nat} {S : Nat} (hS : 0 < S) : ∀ n, (∀ i, i < n → f i < 2 ^ S) → mkR f S n < 2 ^ (S * n)
  | 0, _ => by rw [mkR]; exact Nat.pow_pos (by decide)
  | n + 1, hf => by
    rw [mkR]
    have h1 := mkR_lt hS n (fun i hi => hf i (by omega))
    have h2 := hf n (by omega)
    refine Nat.or_lt_two_pow (Nat.lt_of_lt_of_le h1 (Nat.pow_le_pow_right (by decide) (Nat.mul_le_mul_left _ (by omega)))) ?_
    rw [Nat.shiftLeft_eq, Nat.mul_comm, Nat.mul_add, Nat.mul_one, Nat.pow_add]
    exact (Nat.mul_lt_mul_left (Nat.pow_pos (by decide))).mpr h2
/-- rows of rows -/
theorem cube_t {g : Nat → Nat} (hg : ∀ w, w < 64 → g w < 2 ^ 4096) {w m b : Nat} (hw : w < 64) (hm : m < 64) (hb : b < 64) : (mkR g 4096 64).testBit (ci w m b) = (g w).testBit (m * 64 + b) := by
  have e : ci w m b = 4096 * w + (m * 64 + b) := by unfold ci; omega
  rw [e, mkR_t (by omega) 64 w hg, decide_eq_true hw, Bool.true_and]
theorem row_t {g : Nat → Nat} (hg : ∀ m, m < 64 → g m < 2 ^ 64) {m b : Nat} (hm : m < 64) (hb : b < 64) : (mkR g 64 64).testBit (m * 64 + b) = (g m).testBit b := by
  have e : m * 64 + b = 64 * m + b := by omega
  rw [e, mkR_t hb 64 m hg, decide_eq_true hm, Bool.true_and]
theorem row_lt {g : Nat → Nat} (hg : ∀ m, m < 64 → g m < 2 ^ 64) : mkR g 64 64 < 2 ^ 4096 := mkR_lt (by decide) 64 hg
theorem ones_lt (n : Nat) : 2 ^ n - 1 < 2 ^ n := Nat.sub_lt (Nat.pow_pos (by decide)) (by decide)
theorem ones_t {n j : Nat} (h : j < n) : (2 ^ n - 1).testBit j = true := by rw [Nat.testBit_two_pow_sub_one, decide_eq_true h]
theorem if_lt {p : Bool} {a n : Nat} (h : a < 2 ^ n) : (if p = true then a else 0) < 2 ^ n := by
  cases p
  · exact Nat.pow_pos (by decide)
  · exact h
theorem cw_r (p : Nat → Bool) : rep (cw p) (fun w _ _ => p w = true) := by
  intro w m b hw hm hb
  show (cw p).testBit (ci w m b) = true ↔ p w = true
  unfold cw
  rw [cube_t (fun w _ => if_lt (ones_lt _)) hw hm hb]
  cases p w
  · simp
  · rw [if_pos rfl, ones_t (by omega)]
theorem cm_r (p : Nat → Bool) : rep (cm p) (fun _ m _ => p m = true) := by
  intro w m b hw hm hb
  show (cm p).testBit (ci w m b) = true ↔ p m = true
  unfold cm
  rw [frc_eq, cube_t (fun w _ => row_lt (fun m _ => if_lt (ones_lt _))) hw hm hb, row_t (fun m _ => if_lt (ones_lt _)) hm hb]
  cases p m
  · simp
  · rw [if_pos rfl, ones_t hb]
theorem bt_t (p : Nat → Bool) {b : Nat} (hb : b < 64) : (mkR (fun b => if p b then 1 else 0) 1 64).testBit b = p b := by
  have := mkR_t (f := fun b => if p b then 1 else 0) (S := 1) (r := 0) (by decide) 64 b (fun i _ => if_lt (by decide))
  rw [show 1 * b + 0 = b by omega, decide_eq_true hb, Bool.true_and] at this
  rw [this]
  cases p b <;> rfl
theorem cb_r (p : Nat → Bool) : rep (cb p) (fun _ _ b => p b = true) := by
  intro w m b hw hm hb
  have hP : mkR (fun b => if p b then 1 else 0) 1 64 < 2 ^ 64 := mkR_lt (S := 1) (by decide) 64 (fun i _ => if_lt (by decide))
  unfold cb
  rw [frc_eq, frc_eq, cube_t (fun w _ => row_lt (fun m _ => hP)) hw hm hb, row_t (fun m _ => hP) hm hb, bt_t p hb]
theorem one_t (i j : Nat) : (1 <<< i).testBit j = decide (j = i) := by
  rw [Nat.shiftLeft_eq, Nat.one_mul, Nat.testBit_two_pow]
  by_cases h : i = j
  · subst h; rfl
  · rw [decide_eq_false h, decide_eq_false (fun q => h q.symm)]
theorem one_lt {i n : Nat} (h : i < n) : 1 <<< i < 2 ^ n := by
  rw [Nat.shiftLeft_eq, Nat.one_mul]
  exact Nat.pow_lt_pow_right (by decide) h
theorem Dmb_r : rep Dmb (fun _ m b => m = b) := by
  intro w m b hw hm hb
  unfold Dmb
  rw [frc_eq, cube_t (fun w _ => row_lt (fun m hm => one_lt hm)) hw hm hb, row_t (fun m hm => one_lt hm) hm hb, one_t]
  simp [eq_comm]
theorem Dwb_r : rep Dwb (fun w _ b => w = b) := by
  intro w m b hw hm hb
  unfold Dwb
  rw [cube_t (fun w hw => row_lt (fun m _ => one_lt hw)) hw hm hb, row_t (fun m _ => one_lt hw) hm hb, one_t]
  simp [eq_comm]
theorem Dwm_r : rep Dwm (fun w m _ => w = m) := by
  intro w m b hw hm hb
  unfold Dwm
  have hl : ∀ w, w < 64 → (2 ^ 64 - 1) <<< (64 * w) < 2 ^ 4096 := by
    intro w hw
    rw [Nat.shiftLeft_eq]
    calc (2 ^ 64 - 1) * 2 ^ (64 * w) < 2 ^ 64 * 2 ^ (64 * w) := (Nat.mul_lt_mul_right (Nat.pow_pos (by decide))).mpr (ones_lt 64)
      _ = 2 ^ (64 + 64 * w) := (Nat.pow_add _ _ _).symm
      _ ≤ 2 ^ 4096 := Nat.pow_le_pow_right (by decide) (by omega)
  rw [cube_t hl hw hm hb, Nat.testBit_shiftLeft, Nat.testBit_two_pow_sub_one]
  rw [Bool.and_eq_true, decide_eq_true_eq, decide_eq_true_eq]
  omega
/-! a step of one coordinate -/
def shf (S : Nat) (M : List Nat) (d X : Nat) : Nat := if 18 ≤ dfx d + 8 * drx d then (X &&& M.getD d 0) <<< (S * (dfx d + 8 * drx d - 18)) else (X &&& M.getD d 0) >>> (S * (18 - (dfx d + 8 * drx d)))
/-- the masks of a coordinate: where a step stays on the great board -/
def MK (S : Nat) (M : List Nat) (D : Nat) : Prop := ∀ d, d < D → ∀ i, (M.getD d 0).testBit i = true → i < 262144 ∧ sp8 d (i / S % 64) < 64
def MK' (S : Nat) (M : List Nat) (D : Nat) : Prop := MK S M D ∧ ∀ d, d < D → ∀ i, i < 262144 → sp8 d (i / S % 64) < 64 → (M.getD d 0).testBit i = true
theorem sp8_f {d s : Nat} (h : sp8 d s < 64) : s < 64 ∧ sp8 d s + 18 = s + (dfx d + 8 * drx d) := by
  unfold sp8 at *
  split at h
  · rename_i c
    rw [if_pos c]
    exact ⟨c.1, by omega⟩
  · omega
theorem opp_16 : ∀ d, d < 16 → opp d < 16 ∧ opp (opp d) = d := by decide +kernel
/-- back: the square from which the step comes -/
theorem sp8_from {d s' : Nat} (hd : d < 16) (h : s' < 64) (ho : sp8 (opp d) s' < 64) : sp8 d (sp8 (opp d) s') = s' := by
  have := sp8_opp (opp d) (opp_16 d hd).1 s' h ho
  rwa [(opp_16 d hd).2] at this
theorem shf_1 {M : List Nat} {D d X i : Nat} (S : Nat) (hS : S = 1 ∨ S = 64 ∨ S = 4096) (hM : MK' S M D) (hd : d < D) (hD : D ≤ 16) (hi : i < 262144) : (shf S M d X).testBit i = true ↔ sp8 (opp d) (i / S % 64) < 64 ∧ ∃ j, j < 262144 ∧ j + S * (i / S % 64) = i + S * sp8 (opp d) (i / S % 64) ∧ X.testBit j = true := by
  have hd16 : d < 16 := by omega
  unfold shf
  generalize hs' : i / S % 64 = s'
  have hs64 : s' < 64 := by omega
  by_cases hc : 18 ≤ dfx d + 8 * drx d
  · rw [if_pos hc, Nat.testBit_shiftLeft, Nat.testBit_and]
    generalize he : dfx d + 8 * drx d - 18 = e
    constructor
    · intro h
      simp only [Bool.and_eq_true, decide_eq_true_eq] at h
      obtain ⟨h1, h2, h3⟩ := h
      obtain ⟨h4, h5⟩ := hM.1 d hd _ h3
      have h6 := (sp8_f h5).2
      have h7 : sp8 d ((i - S * e) / S % 64) = s' := by
        rcases hS with rfl | rfl | rfl <;> omega
      have h8 := sp8_opp d hd16 _ (by omega) h5
      rw [h7] at h8
      rw [h8]
      refine ⟨by omega, i - S * e, h4, ?_, h2⟩
      rw [h7] at h6
      rcases hS with rfl | rfl | rfl <;> omega
    · rintro ⟨h1, j, h2, h3, h4⟩
      have h5 := sp8_from hd16 hs64 h1
      have h6 := (sp8_f (d := d) (s := sp8 (opp d) s') (by rw [h5]; exact hs64)).2
      rw [h5] at h6
      have h7 : S * e ≤ i ∧ i - S * e = j := by
        rcases hS with rfl | rfl | rfl <;> omega
      rw [h7.2, decide_eq_true h7.1, h4, Bool.true_and, Bool.true_and]
      refine hM.2 d hd j h2 ?_
      have h8 : j / S % 64 = sp8 (opp d) s' := by
        rcases hS with rfl | rfl | rfl <;> omega
      rw [h8, h5]
      exact hs64
  · rw [if_neg hc, Nat.testBit_shiftRight, Nat.testBit_and]
    generalize he : 18 - (dfx d + 8 * drx d) = e
    constructor
    · intro h
      simp only [Bool.and_eq_true] at h
      obtain ⟨h2, h3⟩ := h
      obtain ⟨h4, h5⟩ := hM.1 d hd _ h3
      have h6 := (sp8_f h5).2
      have h7 : sp8 d ((S * e + i) / S % 64) = s' := by
        rcases hS with rfl | rfl | rfl <;> omega
      have h8 := sp8_opp d hd16 _ (by omega) h5
      rw [h7] at h8
      rw [h8]
      refine ⟨by omega, S * e + i, h4, ?_, h2⟩
      rw [h7] at h6
      rcases hS with rfl | rfl | rfl <;> omega
    · rintro ⟨h1, j, h2, h3, h4⟩
      have h5 := sp8_from hd16 hs64 h1
      have h6 := (sp8_f (d := d) (s := sp8 (opp d) s') (by rw [h5]; exact hs64)).2
      rw [h5] at h6
      have h7 : S * e + i = j := by
        rcases hS with rfl | rfl | rfl <;> omega
      rw [h7, h4, Bool.true_and]
      refine hM.2 d hd j h2 ?_
      have h8 : j / S % 64 = sp8 (opp d) s' := by
        rcases hS with rfl | rfl | rfl <;> omega
      rw [h8, h5]
      exact hs64
