theorem et_kdl {x : Int32} (h : 1 ≤ x ∧ x ≤ 5) : et_kd x := by
  rcases pk_ix x (n := 6) (by omega) with h1 | h1 | ⟨j, hj, rfl⟩
  · exact absurd (Int32.lt_of_lt_of_le h1 (show (0 : Int32) ≤ 1 by decide)) (Int32.not_lt.mpr h.1)
  · exact absurd (Int32.le_trans h1 h.2) (by decide)
  · rcases j with _ | j
    · exact absurd h.1 (by decide)
    · exact ⟨j + 1, by omega, by omega, rfl⟩
theorem et_kd_in {x : Int32} (h : et_kd x) : vp_in x 6 := by
  obtain ⟨j, h1, h2, rfl⟩ := h
  exact vp_in_nI (by omega) (by omega)
theorem et_dir5 {kd : Int32} {i j : Nat} (hi : i < 5) (hj : j < 5) (h : ¬ zI (mX5_goesAlong kd (nI i - 2) (nI j - 2)) = 0) : nI i - 2 = 1 ∨ nI i - 2 = -1 ∨ (nI i - 2 = 0 ∧ (nI j - 2 = 1 ∨ nI j - 2 = -1)) := by
  have h2 : (nI i - 2) * (nI i - 2) + (nI j - 2) * (nI j - 2) = 1 ∨ (nI i - 2) * (nI i - 2) + (nI j - 2) * (nI j - 2) = 2 := by
    by_cases a : (nI i - 2) * (nI i - 2) + (nI j - 2) * (nI j - 2) = 1
    · exact Or.inl a
    · by_cases b : (nI i - 2) * (nI i - 2) + (nI j - 2) * (nI j - 2) = 2
      · exact Or.inr b
      · refine absurd ?_ h
        rw [mX5_goesAlong, if_neg a, if_neg b]
        rfl
  have key : ∀ i j : Fin 5, ¬ ((nI i.val - 2) * (nI i.val - 2) + (nI j.val - 2) * (nI j.val - 2) = 1 ∨ (nI i.val - 2) * (nI i.val - 2) + (nI j.val - 2) * (nI j.val - 2) = 2) ∨ (nI i.val - 2 = 1 ∨ nI i.val - 2 = -1 ∨ (nI i.val - 2 = 0 ∧ (nI j.val - 2 = 1 ∨ nI j.val - 2 = -1))) := by decide +kernel
  rcases key ⟨i, hi⟩ ⟨j, hj⟩ with h3 | h3
  · exact absurd h2 h3
  · exact h3

def mX5_manReaches_V4 (tb : Nat → Int64) (kd : Int32) (ww : Int32) (wb : Int32) (dd : Int32) (some3 : Bool) (sq3 : Int32) : Bool :=
  if (zI some3) = 0 then
    if (zI (mX5_reaches tb kd ww sq3 wb dd)) = 0 then
      false
    else
      true
  else
    true
def mX5_manReaches_V2 (kd : Int32) (i2 : Nat) (i1 : Nat) : Bool :=
  if kd ≤ (2 : Int32) then
    false
  else
    if (zI (mX5_goesAlong kd (nI i1 - 2) (nI i2 - 2))) = 0 then
      false
    else
      true
def mX5_manReaches_V5 (mF : Int32) (mR : Int32) (kd : Int32) (sq3 : Int32) (i2 : Nat) (i1 : Nat) : Int32 :=
  if (zI (mX5_manReaches_V2 kd i2 i1)) = 0 then
    (-1 : Int32)
  else
    (mX5_step mF mR sq3 (nI i1 - 2) (nI i2 - 2))
def mX5_manReaches_L3_ok (mF : Int32) (mR : Int32) (tb : Nat → Int64) (kd : Int32) (ww : Int32) (wb : Int32) (dd : Int32) (i2 : Nat) (i1 : Nat) : Nat → Nat → Bool → Int32 → Bool
  | 0, i3, some3, sq3 => false
  | k3 + 1, i3, some3, sq3 =>
    if sq3 < 0 then
      true
    else
      if sq3 = ww then
        true
      else
        if sq3 = wb then
          true
        else
          mX5_manReaches_L3_ok mF mR tb kd ww wb dd i2 i1 k3 (i3 + 1) (mX5_manReaches_V4 tb kd ww wb dd some3 sq3) (mX5_manReaches_V5 mF mR kd sq3 i2 i1)
def mX5_manReaches_L3 (mF : Int32) (mR : Int32) (tb : Nat → Int64) (kd : Int32) (ww : Int32) (wb : Int32) (dd : Int32) (i2 : Nat) (i1 : Nat) : Nat → Nat → Bool → Int32 → Bool × Int32
  | 0, i3, some3, sq3 =>
    (some3, sq3)
  | k3 + 1, i3, some3, sq3 =>
    if sq3 < 0 then
      (some3, sq3)
    else
      if sq3 = ww then
        (some3, sq3)
      else
        if sq3 = wb then
          (some3, sq3)
        else
          mX5_manReaches_L3 mF mR tb kd ww wb dd i2 i1 k3 (i3 + 1) (mX5_manReaches_V4 tb kd ww wb dd some3 sq3) (mX5_manReaches_V5 mF mR kd sq3 i2 i1)
def mX5_manReaches_V1 (kd : Int32) (i2 : Nat) (i1 : Nat) : Bool :=
  if kd = (2 : Int32) then
    if (((nI i1 - 2) * (nI i1 - 2)) + ((nI i2 - 2) * (nI i2 - 2))) = (5 : Int32) then
      true
    else
      false
  else
    false
def mX5_manReaches_V3 (mF : Int32) (mR : Int32) (kd : Int32) (wm : Int32) (i2 : Nat) (i1 : Nat) : Int32 :=
  if (zI (mX5_manReaches_V1 kd i2 i1)) = 0 then
    if (zI (mX5_manReaches_V2 kd i2 i1)) = 0 then
      (-1 : Int32)
    else
      (mX5_step mF mR wm (nI i1 - 2) (nI i2 - 2))
  else
    (mX5_step mF mR wm (nI i1 - 2) (nI i2 - 2))
def mX5_manReaches_L2 (mF : Int32) (mR : Int32) (tb : Nat → Int64) (kd : Int32) (ww : Int32) (wm : Int32) (wb : Int32) (dd : Int32) (i1 : Nat) : Nat → Nat → Bool → Bool
  | 0, i2, some2 =>
    some2
  | k2 + 1, i2, some2 =>
    mX5_manReaches_L2 mF mR tb kd ww wm wb dd i1 k2 (i2 + 1) ((mX5_manReaches_L3 mF mR tb kd ww wb dd i2 i1 9 0 some2 (mX5_manReaches_V3 mF mR kd wm i2 i1)).1)
def mX5_manReaches_L1 (mF : Int32) (mR : Int32) (tb : Nat → Int64) (kd : Int32) (ww : Int32) (wm : Int32) (wb : Int32) (dd : Int32) : Nat → Nat → Bool → Bool
  | 0, i1, some1 =>
    some1
  | k1 + 1, i1, some1 =>
    mX5_manReaches_L1 mF mR tb kd ww wm wb dd k1 (i1 + 1) (mX5_manReaches_L2 mF mR tb kd ww wm wb dd i1 5 0 some1)
def mX5_manReaches_V6 (mF : Int32) (mR : Int32) (ww : Int32) (wm : Int32) (wb : Int32) : Bool :=
  if (mX5_step mF mR wm (0 : Int32) (1 : Int32)) < 0 then
    false
  else
    if (mX5_step mF mR wm (0 : Int32) (1 : Int32)) = ww then
      false
    else
      if (mX5_step mF mR wm (0 : Int32) (1 : Int32)) = wb then
        false
      else
        true
def mX5_manReaches_V8 (mF : Int32) (mR : Int32) (tb : Nat → Int64) (kd : Int32) (ww : Int32) (wm : Int32) (wb : Int32) (dd : Int32) : Bool :=
  if (zI (mX5_manReaches_V6 mF mR ww wm wb)) = 0 then
    false
  else
    if (zI (mX5_reaches tb kd ww (mX5_step mF mR wm (0 : Int32) (1 : Int32)) wb dd)) = 0 then
      false
    else
      true
def mX5_manReaches_V7 (mF : Int32) (mR : Int32) (ww : Int32) (wm : Int32) (wb : Int32) : Int32 :=
  if (zI (mX5_manReaches_V6 mF mR ww wm wb)) = 0 then
    (-1 : Int32)
  else
    if (wm / (8 : Int32)) = (1 : Int32) then
      (mX5_step mF mR (mX5_step mF mR wm (0 : Int32) (1 : Int32)) (0 : Int32) (1 : Int32))
    else
      (-1 : Int32)
def mX5_manReaches_V10 (mF : Int32) (mR : Int32) (tb : Nat → Int64) (kd : Int32) (ww : Int32) (wm : Int32) (wb : Int32) (dd : Int32) : Bool :=
  if (zI (mX5_manReaches_V6 mF mR ww wm wb)) = 0 then
    false
  else
    if (zI (mX5_reaches tb kd ww (mX5_step mF mR wm (0 : Int32) (1 : Int32)) wb dd)) = 0 then
      false
    else
      true
def mX5_manReaches_V9 (mF : Int32) (mR : Int32) (ww : Int32) (wm : Int32) (wb : Int32) : Int32 :=
  if (zI (mX5_manReaches_V6 mF mR ww wm wb)) = 0 then
    (-1 : Int32)
  else
    if (wm / (8 : Int32)) = (1 : Int32) then
      (mX5_step mF mR (mX5_step mF mR wm (0 : Int32) (1 : Int32)) (0 : Int32) (1 : Int32))
    else
      (-1 : Int32)
def mX5_manReaches_V11 (mF : Int32) (mR : Int32) (tb : Nat → Int64) (ww : Int32) (wm : Int32) (wb : Int32) (dd : Int32) : Bool :=
  if (zI (mX5_reaches tb (2 : Int32) ww (mX5_step mF mR wm (0 : Int32) (1 : Int32)) wb dd)) = 0 then
    false
  else
    true
def mX5_manReaches_V12 (mF : Int32) (mR : Int32) (tb : Nat → Int64) (ww : Int32) (wm : Int32) (wb : Int32) (dd : Int32) : Bool :=
  if (zI (mX5_manReaches_V11 mF mR tb ww wm wb dd)) = 0 then
    if (zI (mX5_reaches tb (3 : Int32) ww (mX5_step mF mR wm (0 : Int32) (1 : Int32)) wb dd)) = 0 then
      false
    else
      true
  else
    true
def mX5_manReaches_V13 (mF : Int32) (mR : Int32) (tb : Nat → Int64) (ww : Int32) (wm : Int32) (wb : Int32) (dd : Int32) : Bool :=
  if (zI (mX5_manReaches_V12 mF mR tb ww wm wb dd)) = 0 then
    if (zI (mX5_reaches tb (4 : Int32) ww (mX5_step mF mR wm (0 : Int32) (1 : Int32)) wb dd)) = 0 then
      false
    else
      true
  else
    true
def mX5_manReaches_V14 (mF : Int32) (mR : Int32) (tb : Nat → Int64) (ww : Int32) (wm : Int32) (wb : Int32) (dd : Int32) : Bool :=
  if (zI (mX5_manReaches_V13 mF mR tb ww wm wb dd)) = 0 then
    if (zI (mX5_reaches tb (5 : Int32) ww (mX5_step mF mR wm (0 : Int32) (1 : Int32)) wb dd)) = 0 then
      false
    else
      true
  else
    true
def mX5_manReaches (mF : Int32) (mR : Int32) (tb : Nat → Int64) (kd : Int32) (ww : Int32) (wm : Int32) (wb : Int32) (dd : Int32) : Bool :=
  if kd = (1 : Int32) then
    if (zI (mX5_manReaches_V6 mF mR ww wm wb)) = 0 then
      if (zI (mX5_manReaches_V8 mF mR tb kd ww wm wb dd)) = 0 then
        if (mX5_manReaches_V7 mF mR ww wm wb) < 0 then
          false
        else
          if (mR - (1 : Int32)) ≤ ((mX5_manReaches_V7 mF mR ww wm wb) / (8 : Int32)) then
            false
          else
            if (mX5_manReaches_V7 mF mR ww wm wb) = ww then
              false
            else
              if (mX5_manReaches_V7 mF mR ww wm wb) = wb then
                false
              else
                if (zI (mX5_reaches tb kd ww (mX5_manReaches_V7 mF mR ww wm wb) wb dd)) = 0 then
                  false
                else
                  true
      else
        true
    else
      if ((mX5_step mF mR wm (0 : Int32) (1 : Int32)) / (8 : Int32)) = (mR - (1 : Int32)) then
        (mX5_manReaches_V14 mF mR tb ww wm wb dd)
      else
        if (zI (mX5_manReaches_V10 mF mR tb kd ww wm wb dd)) = 0 then
          if (mX5_manReaches_V9 mF mR ww wm wb) < 0 then
            false
          else
            if (mR - (1 : Int32)) ≤ ((mX5_manReaches_V9 mF mR ww wm wb) / (8 : Int32)) then
              false
            else
              if (mX5_manReaches_V9 mF mR ww wm wb) = ww then
                false
              else
                if (mX5_manReaches_V9 mF mR ww wm wb) = wb then
                  false
                else
                  if (zI (mX5_reaches tb kd ww (mX5_manReaches_V9 mF mR ww wm wb) wb dd)) = 0 then
                    false
                  else
                    true
        else
          true
  else
    (mX5_manReaches_L1 mF mR tb kd ww wm wb dd 5 0 false)
theorem et_openV {mF mR ww wm wb : Int32} (h : ¬ zI (mX5_manReaches_V6 mF mR ww wm wb) = 0) : ¬ mX5_step mF mR wm 0 1 < 0 := by
  intro h2
  apply h
  rw [mX5_manReaches_V6, if_pos h2]
  rfl
theorem et_manV3 {mF mR kd wm : Int32} {i2 i1 : Nat} (hF : et_b8 mF) (hR : et_b8 mR) : mX5_manReaches_V3 mF mR kd wm i2 i1 = (-1 : Int32) ∨ et_r64 (mX5_manReaches_V3 mF mR kd wm i2 i1) := by
  unfold mX5_manReaches_V3
  split
  · split
    · exact Or.inl rfl
    · exact et_step_r hF hR
  · exact et_step_r hF hR
theorem et_manV5 {mF mR kd sq : Int32} {i2 i1 : Nat} (hF : et_b8 mF) (hR : et_b8 mR) : mX5_manReaches_V5 mF mR kd sq i2 i1 = (-1 : Int32) ∨ et_r64 (mX5_manReaches_V5 mF mR kd sq i2 i1) := by
  unfold mX5_manReaches_V5
  split
  · exact Or.inl rfl
  · exact et_step_r hF hR
theorem et_manV7 {mF mR ww wm wb : Int32} (hF : et_b8 mF) (hR : et_b8 mR) : mX5_manReaches_V7 mF mR ww wm wb = (-1 : Int32) ∨ et_r64 (mX5_manReaches_V7 mF mR ww wm wb) := by
  unfold mX5_manReaches_V7
  split
  · exact Or.inl rfl
  · split
    · exact et_step_r hF hR
    · exact Or.inl rfl
theorem et_manV9 {mF mR ww wm wb : Int32} (hF : et_b8 mF) (hR : et_b8 mR) : mX5_manReaches_V9 mF mR ww wm wb = (-1 : Int32) ∨ et_r64 (mX5_manReaches_V9 mF mR ww wm wb) := by
  unfold mX5_manReaches_V9
  split
  · exact Or.inl rfl
  · split
    · exact et_step_r hF hR
    · exact Or.inl rfl
theorem et_man_ok {mF mR kd ww wm wb dd : Int32} {tb : Nat → Int64} {i2 i1 : Nat} {so : Bool} (hF : et_b8 mF) (hR : et_b8 mR) (hi : i1 < 5) (hj : i2 < 5) : mX5_manReaches_L3_ok mF mR tb kd ww wb dd i2 i1 9 0 so (mX5_manReaches_V3 mF mR kd wm i2 i1) = true := by
  by_cases hV : zI (mX5_manReaches_V2 kd i2 i1) = 0
  · rw [mX5_manReaches_L3_ok]
    split
    · rfl
    split
    · rfl
    split
    · rfl
    · rw [mX5_manReaches_V5, if_pos hV, mX5_manReaches_L3_ok, if_pos (by decide : (-1 : Int32) < 0)]
  · have hg : ¬ zI (mX5_goesAlong kd (nI i1 - 2) (nI i2 - 2)) = 0 := by
      intro h
      apply hV
      unfold mX5_manReaches_V2
      split
      · rfl
      · first | rfl | (rw [if_pos h]; rfl)
    obtain ⟨μ, h7, hs⟩ := et_dirm hF hR (et_dir5 hi hj hg)
    have ok : ∀ (k i : Nat) (so : Bool) (sq : Int32), (sq = -1 ∨ ∃ j, j < 64 ∧ sq = nI j ∧ μ j + 1 < k) → 0 < k → mX5_manReaches_L3_ok mF mR tb kd ww wb dd i2 i1 k i so sq = true := by
      intro k
      induction k with
      | zero => intro i so sq _ h; exact absurd h (by omega)
      | succ k ih =>
        intro i so sq h _
        rw [mX5_manReaches_L3_ok]
        split
        · rfl
        split
        · rfl
        split
        · rfl
        · rename_i h3 _ _
          rcases h with h | ⟨j, hj, rfl, hm⟩
          · rw [h] at h3
            exact absurd (by decide) h3
          · rw [mX5_manReaches_V5, if_neg hV]
            rcases hs j hj with h | ⟨j', hj', h, hl⟩
            · exact ih _ _ _ (Or.inl h) (by omega)
            · exact ih _ _ _ (Or.inr ⟨j', hj', h, by omega⟩) (by omega)
    refine ok 9 0 _ _ ?_ (by omega)
    rcases et_manV3 (kd := kd) (wm := wm) (i2 := i2) (i1 := i1) hF hR with h | ⟨j, hj, h⟩
    · exact Or.inl h
    · exact Or.inr ⟨j, hj, h, by have := h7 j hj; omega⟩
set_option maxHeartbeats 4000000 in
set_option maxRecDepth 100000 in
theorem c_X5_manReaches (l : Launch) (g : et_G) (md : Nat) (r1 : Nat) (r2 : Nat) (r3 : Nat) (r4 : Nat) (mF : Int32) (mR : Int32) (th : Int32) (tb : Nat → Int64) (bu : Nat → Int32) (gr : Nat → Int32) (mt : Bool) (mk : Int32) (mw : Int32) (mm : Int32) (mb : Int32) (ms : Int32) (ml : Nat → Int32) (my : Int32) (kd : Int32) (ww : Int32) (wm : Int32) (wb : Int32) (dd : Int32) (hF : et_b8 mF) (hR : et_b8 mR) (hkd : et_kd kd) (hww : et_r64 ww) (hwb : et_r64 wb) : Met l yX5_manReaches (Cond.code yX5_manReaches cX5_manReaches 12 (some (.boolean)) :: W0) ({ frames := 3, cells := 0, slots := 0, locals := 75 } : Room) (et_Pc g ([(md, .inr (5, [.int th, .int mF, .int mR, .ref r1, .ref r2, .ref r3, .int (zI mt), .int mk, .int mw, .int mm, .int mb, .int ms, .ref r4, .int my])), (r1, .inl (gJ g, 327680, .inr (.inl tb))), (r2, .inl (gZ g, 6, .inl bu)), (r3, .inl (gI g, 6, .inl gr)), (r4, .inl (gI g, 64, .inl ml))]) [.ref md, .int kd, .int ww, .int wm, .int wb, .int dd]) (et_QP (some (.int (zI ((mX5_manReaches mF mR tb kd ww wm wb dd)))))) 0 0 et_no := by
  refine et_startP (by decide) rfl (Nat.le_of_ble_eq_true rfl) ?_
  intro p e s m args below meth c hx hb hr hts0 hown hlocks hml hP hC ls hl
  have hts : ∀ w ∈ W0, w.before args s = true := fun w h => hts0 w (List.mem_cons_of_mem _ h)
  have hown : s.vm.findClass RX5 = some m.cls := hown
  have hl : lv_has ls 12 [(0, .ref md), (1, .int kd), (2, .int ww), (3, .int wm), (4, .int wb), (5, .int dd)] := hl
  refine lv_iconst (v := (0 : Int32)) hx hb dX5_manReaches_0 (by decide) ?_
  refine lv_istore (lv' := [(6, .int (0 : Int32)), (0, .ref md), (1, .int kd), (2, .int ww), (3, .int wm), (4, .int wb), (5, .int dd)]) hx hb dX5_manReaches_1 hl (by decide) rfl (fun ls hl => ?_)
  refine lv_iload_n hx hb dX5_manReaches_3 rfl (lv_at hl 2 rfl) ?_
  refine lv_iconst (v := (1 : Int32)) hx hb dX5_manReaches_4 (by decide) ?_
  refine lv_icmp_ne (tgt := 219) hx hb dX5_manReaches_5 (by decide) (fun c_1 => ?_) (fun c_1 => ?_)
  ·
    refine lv_bipush (v := (-2 : Int32)) hx hb dX5_manReaches_219 (by decide) ?_
    refine lv_istore (lv' := [(7, .int (-2 : Int32)), (6, .int (0 : Int32)), (0, .ref md), (1, .int kd), (2, .int ww), (3, .int wm), (4, .int wb), (5, .int dd)]) hx hb dX5_manReaches_221 hl (by decide) rfl (fun ls hl => ?_)
    have hx1 : ∀ ls : Array Slot, lv_has ls 12 [(6, .int (zI (mX5_manReaches_L1 mF mR tb kd ww wm wb dd 5 0 false))), (0, .ref md), (1, .int kd), (2, .int ww), (3, .int wm), (4, .int wb), (5, .int dd)] → W p l e ({ frames := 3, cells := 0, slots := 0, locals := 75 } : Room) s m args below meth c s.heap [] 0 0 (MQ below (et_QP (some (.int (zI ((mX5_manReaches mF mR tb kd ww wm wb dd)))))) args s 0 0 et_no) (F0 m 395 ls []) := by
      intro ls hl
      refine lv_iload hx hb dX5_manReaches_395 (lv_at hl 0 rfl) ?_
      have hfin : (mX5_manReaches_L1 mF mR tb kd ww wm wb dd 5 0 false) = (mX5_manReaches mF mR tb kd ww wm wb dd) := (by rw [mX5_manReaches, if_neg c_1])
      exact et_zret hx hb hr hlocks dX5_manReaches_397 (congrArg zI (hfin))
    have hL1 : ∀ (k1 i1 : Nat) (some1 : Bool), i1 + k1 = 5 → mX5_manReaches_L1 mF mR tb kd ww wm wb dd k1 i1 some1 = (mX5_manReaches_L1 mF mR tb kd ww wm wb dd 5 0 false) → ∀ ls : Array Slot, lv_has ls 12 [(7, .int (nI i1 - 2)), (6, .int (zI some1)), (0, .ref md), (1, .int kd), (2, .int ww), (3, .int wm), (4, .int wb), (5, .int dd)] → W p l e ({ frames := 3, cells := 0, slots := 0, locals := 75 } : Room) s m args below meth c s.heap [] 0 0 (MQ below (et_QP (some (.int (zI ((mX5_manReaches mF mR tb kd ww wm wb dd)))))) args s 0 0 et_no) (F0 m 223 ls []) := by
      intro k1
      induction k1 with
      | zero =>
        intro i1 some1 hik  hm ls hl
        refine lv_iload hx hb dX5_manReaches_223 (lv_at hl 0 rfl) ?_
        refine lv_iconst (v := (3 : Int32)) hx hb dX5_manReaches_225 (by decide) ?_
        refine lv_icmp_ge (tgt := 395) hx hb dX5_manReaches_226 (by decide) (fun c_2 => ?_) (fun c_2 => ?_)
        rotate_left
        · exact absurd (et_fT5 (by omega)) c_2
        have hq1 : some1 = (mX5_manReaches_L1 mF mR tb kd ww wm wb dd 5 0 false) := (by rw [mX5_manReaches_L1] : mX5_manReaches_L1 mF mR tb kd ww wm wb dd 0 i1 some1 = some1).symm.trans hm
        exact hx1 ls (by rw [← hq1]; exact lv_sub hl [1, 2, 3, 4, 5, 6, 7] rfl)
      | succ k1 ih1 =>
        intro i1 some1 hik  hm ls hl
        refine lv_iload hx hb dX5_manReaches_223 (lv_at hl 0 rfl) ?_
        refine lv_iconst (v := (3 : Int32)) hx hb dX5_manReaches_225 (by decide) ?_
        refine lv_icmp_ge (tgt := 395) hx hb dX5_manReaches_226 (by decide) (fun c_3 => ?_) (fun c_3 => ?_)
        · exact absurd c_3 (et_fF5 (by omega))
        refine lv_bipush (v := (-2 : Int32)) hx hb dX5_manReaches_229 (by decide) ?_
        refine lv_istore (lv' := [(8, .int (-2 : Int32)), (7, .int (nI i1 - 2)), (6, .int (zI some1)), (0, .ref md), (1, .int kd), (2, .int ww), (3, .int wm), (4, .int wb), (5, .int dd)]) hx hb dX5_manReaches_231 hl (by decide) rfl (fun ls hl => ?_)
        have hx2 : ∀ ls : Array Slot, lv_has ls 12 [(6, .int (zI (mX5_manReaches_L2 mF mR tb kd ww wm wb dd i1 5 0 some1))), (7, .int (nI i1 - 2)), (0, .ref md), (1, .int kd), (2, .int ww), (3, .int wm), (4, .int wb), (5, .int dd)] → W p l e ({ frames := 3, cells := 0, slots := 0, locals := 75 } : Room) s m args below meth c s.heap [] 0 0 (MQ below (et_QP (some (.int (zI ((mX5_manReaches mF mR tb kd ww wm wb dd)))))) args s 0 0 et_no) (F0 m 389 ls []) := by
          intro ls hl
          refine lv_iinc (v := nI (i1 + 1) - 2) (lv' := [(7, .int (nI (i1 + 1) - 2)), (6, .int (zI (mX5_manReaches_L2 mF mR tb kd ww wm wb dd i1 5 0 some1))), (0, .ref md), (1, .int kd), (2, .int ww), (3, .int wm), (4, .int wb), (5, .int dd)]) hx hb dX5_manReaches_389 hl (k := 1) rfl (et_incM 2 i1) (by decide) rfl (fun ls hl => ?_)
          refine lv_goto (tgt := 223) hx hb dX5_manReaches_392 (by decide) ?_
          exact ih1 (i1 + 1) (mX5_manReaches_L2 mF mR tb kd ww wm wb dd i1 5 0 some1) (by omega) ((by rw [mX5_manReaches_L1] : mX5_manReaches_L1 mF mR tb kd ww wm wb dd (k1 + 1) i1 some1 = mX5_manReaches_L1 mF mR tb kd ww wm wb dd k1 (i1 + 1) (mX5_manReaches_L2 mF mR tb kd ww wm wb dd i1 5 0 some1)).symm.trans hm) ls (lv_sub hl [0, 1, 2, 3, 4, 5, 6, 7] rfl)
        have hL2 : ∀ (k2 i2 : Nat) (some2 : Bool), i2 + k2 = 5 → mX5_manReaches_L2 mF mR tb kd ww wm wb dd i1 k2 i2 some2 = (mX5_manReaches_L2 mF mR tb kd ww wm wb dd i1 5 0 some1) → ∀ ls : Array Slot, lv_has ls 12 [(8, .int (nI i2 - 2)), (6, .int (zI some2)), (7, .int (nI i1 - 2)), (0, .ref md), (1, .int kd), (2, .int ww), (3, .int wm), (4, .int wb), (5, .int dd)] → W p l e ({ frames := 3, cells := 0, slots := 0, locals := 75 } : Room) s m args below meth c s.heap [] 0 0 (MQ below (et_QP (some (.int (zI ((mX5_manReaches mF mR tb kd ww wm wb dd)))))) args s 0 0 et_no) (F0 m 233 ls []) := by
          intro k2
          induction k2 with
          | zero =>
            intro i2 some2 hik  hm ls hl
            refine lv_iload hx hb dX5_manReaches_233 (lv_at hl 0 rfl) ?_
            refine lv_iconst (v := (3 : Int32)) hx hb dX5_manReaches_235 (by decide) ?_
            refine lv_icmp_ge (tgt := 389) hx hb dX5_manReaches_236 (by decide) (fun c_4 => ?_) (fun c_4 => ?_)
            rotate_left
            · exact absurd (et_fT5 (by omega)) c_4
            have hq2 : some2 = (mX5_manReaches_L2 mF mR tb kd ww wm wb dd i1 5 0 some1) := (by rw [mX5_manReaches_L2] : mX5_manReaches_L2 mF mR tb kd ww wm wb dd i1 0 i2 some2 = some2).symm.trans hm
            exact hx2 ls (by rw [← hq2]; exact lv_sub hl [1, 2, 3, 4, 5, 6, 7, 8] rfl)
          | succ k2 ih2 =>
            intro i2 some2 hik  hm ls hl
            refine lv_iload hx hb dX5_manReaches_233 (lv_at hl 0 rfl) ?_
            refine lv_iconst (v := (3 : Int32)) hx hb dX5_manReaches_235 (by decide) ?_
            refine lv_icmp_ge (tgt := 389) hx hb dX5_manReaches_236 (by decide) (fun c_5 => ?_) (fun c_5 => ?_)
            · exact absurd c_5 (et_fF5 (by omega))
            have hj1 : ∀ ls : Array Slot, lv_has ls 12 [(8, .int (nI i2 - 2)), (6, .int (zI some2)), (7, .int (nI i1 - 2)), (0, .ref md), (1, .int kd), (2, .int ww), (3, .int wm), (4, .int wb), (5, .int dd)] → W p l e ({ frames := 3, cells := 0, slots := 0, locals := 75 } : Room) s m args below meth c s.heap [] 0 0 (MQ below (et_QP (some (.int (zI ((mX5_manReaches mF mR tb kd ww wm wb dd)))))) args s 0 0 et_no) (F0 m 264 ls [.int (zI (mX5_manReaches_V1 kd i2 i1))]) := by
              intro ls hl
              refine lv_istore (lv' := [(9, .int (zI (mX5_manReaches_V1 kd i2 i1))), (8, .int (nI i2 - 2)), (6, .int (zI some2)), (7, .int (nI i1 - 2)), (0, .ref md), (1, .int kd), (2, .int ww), (3, .int wm), (4, .int wb), (5, .int dd)]) hx hb dX5_manReaches_264 hl (by decide) rfl (fun ls hl => ?_)
              have hj2 : ∀ ls : Array Slot, lv_has ls 12 [(9, .int (zI (mX5_manReaches_V1 kd i2 i1))), (8, .int (nI i2 - 2)), (6, .int (zI some2)), (7, .int (nI i1 - 2)), (0, .ref md), (1, .int kd), (2, .int ww), (3, .int wm), (4, .int wb), (5, .int dd)] → W p l e ({ frames := 3, cells := 0, slots := 0, locals := 75 } : Room) s m args below meth c s.heap [] 0 0 (MQ below (et_QP (some (.int (zI ((mX5_manReaches mF mR tb kd ww wm wb dd)))))) args s 0 0 et_no) (F0 m 287 ls [.int (zI (mX5_manReaches_V2 kd i2 i1))]) := by
                intro ls hl
                refine lv_istore (lv' := [(10, .int (zI (mX5_manReaches_V2 kd i2 i1))), (9, .int (zI (mX5_manReaches_V1 kd i2 i1))), (8, .int (nI i2 - 2)), (6, .int (zI some2)), (7, .int (nI i1 - 2)), (0, .ref md), (1, .int kd), (2, .int ww), (3, .int wm), (4, .int wb), (5, .int dd)]) hx hb dX5_manReaches_287 hl (by decide) rfl (fun ls hl => ?_)
                have hj3 : ∀ ls : Array Slot, lv_has ls 12 [(10, .int (zI (mX5_manReaches_V2 kd i2 i1))), (9, .int (zI (mX5_manReaches_V1 kd i2 i1))), (8, .int (nI i2 - 2)), (6, .int (zI some2)), (7, .int (nI i1 - 2)), (0, .ref md), (1, .int kd), (2, .int ww), (3, .int wm), (4, .int wb), (5, .int dd)] → W p l e ({ frames := 3, cells := 0, slots := 0, locals := 75 } : Room) s m args below meth c s.heap [] 0 0 (MQ below (et_QP (some (.int (zI ((mX5_manReaches mF mR tb kd ww wm wb dd)))))) args s 0 0 et_no) (F0 m 312 ls [.int (mX5_manReaches_V3 mF mR kd wm i2 i1)]) := by
                  intro ls hl
                  refine lv_istore (lv' := [(11, .int (mX5_manReaches_V3 mF mR kd wm i2 i1)), (10, .int (zI (mX5_manReaches_V2 kd i2 i1))), (9, .int (zI (mX5_manReaches_V1 kd i2 i1))), (8, .int (nI i2 - 2)), (6, .int (zI some2)), (7, .int (nI i1 - 2)), (0, .ref md), (1, .int kd), (2, .int ww), (3, .int wm), (4, .int wb), (5, .int dd)]) hx hb dX5_manReaches_312 hl (by decide) rfl (fun ls hl => ?_)
                  have hx3 : ∀ ls : Array Slot, lv_has ls 12 [(6, .int (zI ((mX5_manReaches_L3 mF mR tb kd ww wb dd i2 i1 9 0 some2 (mX5_manReaches_V3 mF mR kd wm i2 i1)).1))), (11, .int ((mX5_manReaches_L3 mF mR tb kd ww wb dd i2 i1 9 0 some2 (mX5_manReaches_V3 mF mR kd wm i2 i1)).2)), (10, .int (zI (mX5_manReaches_V2 kd i2 i1))), (9, .int (zI (mX5_manReaches_V1 kd i2 i1))), (8, .int (nI i2 - 2)), (7, .int (nI i1 - 2)), (0, .ref md), (1, .int kd), (2, .int ww), (3, .int wm), (4, .int wb), (5, .int dd)] → W p l e ({ frames := 3, cells := 0, slots := 0, locals := 75 } : Room) s m args below meth c s.heap [] 0 0 (MQ below (et_QP (some (.int (zI ((mX5_manReaches mF mR tb kd ww wm wb dd)))))) args s 0 0 et_no) (F0 m 383 ls []) := by
                    intro ls hl
                    refine lv_iinc (v := nI (i2 + 1) - 2) (lv' := [(8, .int (nI (i2 + 1) - 2)), (6, .int (zI ((mX5_manReaches_L3 mF mR tb kd ww wb dd i2 i1 9 0 some2 (mX5_manReaches_V3 mF mR kd wm i2 i1)).1))), (11, .int ((mX5_manReaches_L3 mF mR tb kd ww wb dd i2 i1 9 0 some2 (mX5_manReaches_V3 mF mR kd wm i2 i1)).2)), (10, .int (zI (mX5_manReaches_V2 kd i2 i1))), (9, .int (zI (mX5_manReaches_V1 kd i2 i1))), (7, .int (nI i1 - 2)), (0, .ref md), (1, .int kd), (2, .int ww), (3, .int wm), (4, .int wb), (5, .int dd)]) hx hb dX5_manReaches_383 hl (k := 4) rfl (et_incM 2 i2) (by decide) rfl (fun ls hl => ?_)
                    refine lv_goto (tgt := 233) hx hb dX5_manReaches_386 (by decide) ?_
                    exact ih2 (i2 + 1) ((mX5_manReaches_L3 mF mR tb kd ww wb dd i2 i1 9 0 some2 (mX5_manReaches_V3 mF mR kd wm i2 i1)).1) (by omega) ((by rw [mX5_manReaches_L2] : mX5_manReaches_L2 mF mR tb kd ww wm wb dd i1 (k2 + 1) i2 some2 = mX5_manReaches_L2 mF mR tb kd ww wm wb dd i1 k2 (i2 + 1) ((mX5_manReaches_L3 mF mR tb kd ww wb dd i2 i1 9 0 some2 (mX5_manReaches_V3 mF mR kd wm i2 i1)).1)).symm.trans hm) ls (lv_sub hl [0, 1, 5, 6, 7, 8, 9, 10, 11] rfl)
                  have hL3 : ∀ (k3 i3 : Nat) (some3 : Bool) (sq3 : Int32), i3 + k3 = 9 → (mX5_manReaches_L3_ok mF mR tb kd ww wb dd i2 i1 k3 i3 some3 sq3 = true) → (sq3 = (-1 : Int32) ∨ et_r64 sq3) → mX5_manReaches_L3 mF mR tb kd ww wb dd i2 i1 k3 i3 some3 sq3 = (mX5_manReaches_L3 mF mR tb kd ww wb dd i2 i1 9 0 some2 (mX5_manReaches_V3 mF mR kd wm i2 i1)) → ∀ ls : Array Slot, lv_has ls 12 [(6, .int (zI some3)), (11, .int sq3), (10, .int (zI (mX5_manReaches_V2 kd i2 i1))), (9, .int (zI (mX5_manReaches_V1 kd i2 i1))), (8, .int (nI i2 - 2)), (7, .int (nI i1 - 2)), (0, .ref md), (1, .int kd), (2, .int ww), (3, .int wm), (4, .int wb), (5, .int dd)] → W p l e ({ frames := 3, cells := 0, slots := 0, locals := 75 } : Room) s m args below meth c s.heap [] 0 0 (MQ below (et_QP (some (.int (zI ((mX5_manReaches mF mR tb kd ww wm wb dd)))))) args s 0 0 et_no) (F0 m 314 ls []) := by
                    intro k3
                    induction k3 with
                    | zero =>
                      intro i3 some3 sq3 hik hv3_0 hv3_1 hm ls hl
                      exact absurd hv3_0 (by rw [mX5_manReaches_L3_ok]; decide)
                    | succ k3 ih3 =>
                      intro i3 some3 sq3 hik hv3_0 hv3_1 hm ls hl
                      refine lv_iload hx hb dX5_manReaches_314 (lv_at hl 1 rfl) ?_
                      refine lv_if_lt (tgt := 383) hx hb dX5_manReaches_316 (by decide) (fun c_6 => ?_) (fun c_6 => ?_)
                      ·
                        have hq3 : (some3, sq3) = (mX5_manReaches_L3 mF mR tb kd ww wb dd i2 i1 9 0 some2 (mX5_manReaches_V3 mF mR kd wm i2 i1)) := (by rw [mX5_manReaches_L3, if_pos c_6] : mX5_manReaches_L3 mF mR tb kd ww wb dd i2 i1 (k3 + 1) i3 some3 sq3 = (some3, sq3)).symm.trans hm
                        have hq3_0 : some3 = (mX5_manReaches_L3 mF mR tb kd ww wb dd i2 i1 9 0 some2 (mX5_manReaches_V3 mF mR kd wm i2 i1)).1 := congrArg (fun z => z.1) hq3
                        have hq3_1 : sq3 = (mX5_manReaches_L3 mF mR tb kd ww wb dd i2 i1 9 0 some2 (mX5_manReaches_V3 mF mR kd wm i2 i1)).2 := congrArg (fun z => z.2) hq3
                        exact hx3 ls (by rw [← hq3_0, ← hq3_1]; exact lv_sub hl [0, 1, 2, 3, 4, 5, 6, 7, 8, 9, 10, 11] rfl)
                      ·
                        refine lv_iload hx hb dX5_manReaches_319 (lv_at hl 1 rfl) ?_
                        refine lv_iload_n hx hb dX5_manReaches_321 rfl (lv_at hl 8 rfl) ?_
                        refine lv_icmp_eq (tgt := 383) hx hb dX5_manReaches_322 (by decide) (fun c_7 => ?_) (fun c_7 => ?_)
                        ·
                          have hq4 : (some3, sq3) = (mX5_manReaches_L3 mF mR tb kd ww wb dd i2 i1 9 0 some2 (mX5_manReaches_V3 mF mR kd wm i2 i1)) := (by rw [mX5_manReaches_L3, if_neg c_6, if_pos c_7] : mX5_manReaches_L3 mF mR tb kd ww wb dd i2 i1 (k3 + 1) i3 some3 sq3 = (some3, sq3)).symm.trans hm
                          have hq4_0 : some3 = (mX5_manReaches_L3 mF mR tb kd ww wb dd i2 i1 9 0 some2 (mX5_manReaches_V3 mF mR kd wm i2 i1)).1 := congrArg (fun z => z.1) hq4
                          have hq4_1 : sq3 = (mX5_manReaches_L3 mF mR tb kd ww wb dd i2 i1 9 0 some2 (mX5_manReaches_V3 mF mR kd wm i2 i1)).2 := congrArg (fun z => z.2) hq4
                          exact hx3 ls (by rw [← hq4_0, ← hq4_1]; exact lv_sub hl [0, 1, 2, 3, 4, 5, 6, 7, 8, 9, 10, 11] rfl)
                        ·
                          refine lv_iload hx hb dX5_manReaches_325 (lv_at hl 1 rfl) ?_
                          refine lv_iload hx hb dX5_manReaches_327 (lv_at hl 10 rfl) ?_
                          refine lv_icmp_eq (tgt := 383) hx hb dX5_manReaches_329 (by decide) (fun c_8 => ?_) (fun c_8 => ?_)
                          ·
                            have hq5 : (some3, sq3) = (mX5_manReaches_L3 mF mR tb kd ww wb dd i2 i1 9 0 some2 (mX5_manReaches_V3 mF mR kd wm i2 i1)) := (by rw [mX5_manReaches_L3, if_neg c_6, if_neg c_7, if_pos c_8] : mX5_manReaches_L3 mF mR tb kd ww wb dd i2 i1 (k3 + 1) i3 some3 sq3 = (some3, sq3)).symm.trans hm
                            have hq5_0 : some3 = (mX5_manReaches_L3 mF mR tb kd ww wb dd i2 i1 9 0 some2 (mX5_manReaches_V3 mF mR kd wm i2 i1)).1 := congrArg (fun z => z.1) hq5
                            have hq5_1 : sq3 = (mX5_manReaches_L3 mF mR tb kd ww wb dd i2 i1 9 0 some2 (mX5_manReaches_V3 mF mR kd wm i2 i1)).2 := congrArg (fun z => z.2) hq5
                            exact hx3 ls (by rw [← hq5_0, ← hq5_1]; exact lv_sub hl [0, 1, 2, 3, 4, 5, 6, 7, 8, 9, 10, 11] rfl)
                          ·
                            have hj4 : ∀ ls : Array Slot, lv_has ls 12 [(6, .int (zI some3)), (11, .int sq3), (10, .int (zI (mX5_manReaches_V2 kd i2 i1))), (9, .int (zI (mX5_manReaches_V1 kd i2 i1))), (8, .int (nI i2 - 2)), (7, .int (nI i1 - 2)), (0, .ref md), (1, .int kd), (2, .int ww), (3, .int wm), (4, .int wb), (5, .int dd)] → W p l e ({ frames := 3, cells := 0, slots := 0, locals := 75 } : Room) s m args below meth c s.heap [] 0 0 (MQ below (et_QP (some (.int (zI ((mX5_manReaches mF mR tb kd ww wm wb dd)))))) args s 0 0 et_no) (F0 m 357 ls [.int (zI (mX5_manReaches_V4 tb kd ww wb dd some3 sq3))]) := by
                              intro ls hl
                              refine lv_istore (lv' := [(6, .int (zI (mX5_manReaches_V4 tb kd ww wb dd some3 sq3))), (11, .int sq3), (10, .int (zI (mX5_manReaches_V2 kd i2 i1))), (9, .int (zI (mX5_manReaches_V1 kd i2 i1))), (8, .int (nI i2 - 2)), (7, .int (nI i1 - 2)), (0, .ref md), (1, .int kd), (2, .int ww), (3, .int wm), (4, .int wb), (5, .int dd)]) hx hb dX5_manReaches_357 hl (by decide) rfl (fun ls hl => ?_)
                              have hj5 : ∀ ls : Array Slot, lv_has ls 12 [(6, .int (zI (mX5_manReaches_V4 tb kd ww wb dd some3 sq3))), (11, .int sq3), (10, .int (zI (mX5_manReaches_V2 kd i2 i1))), (9, .int (zI (mX5_manReaches_V1 kd i2 i1))), (8, .int (nI i2 - 2)), (7, .int (nI i1 - 2)), (0, .ref md), (1, .int kd), (2, .int ww), (3, .int wm), (4, .int wb), (5, .int dd)] → W p l e ({ frames := 3, cells := 0, slots := 0, locals := 75 } : Room) s m args below meth c s.heap [] 0 0 (MQ below (et_QP (some (.int (zI ((mX5_manReaches mF mR tb kd ww wm wb dd)))))) args s 0 0 et_no) (F0 m 378 ls [.int (mX5_manReaches_V5 mF mR kd sq3 i2 i1)]) := by
                                intro ls hl
                                refine lv_istore (lv' := [(11, .int (mX5_manReaches_V5 mF mR kd sq3 i2 i1)), (6, .int (zI (mX5_manReaches_V4 tb kd ww wb dd some3 sq3))), (10, .int (zI (mX5_manReaches_V2 kd i2 i1))), (9, .int (zI (mX5_manReaches_V1 kd i2 i1))), (8, .int (nI i2 - 2)), (7, .int (nI i1 - 2)), (0, .ref md), (1, .int kd), (2, .int ww), (3, .int wm), (4, .int wb), (5, .int dd)]) hx hb dX5_manReaches_378 hl (by decide) rfl (fun ls hl => ?_)
                                refine lv_goto (tgt := 314) hx hb dX5_manReaches_380 (by decide) ?_
                                exact ih3 (i3 + 1) (mX5_manReaches_V4 tb kd ww wb dd some3 sq3) (mX5_manReaches_V5 mF mR kd sq3 i2 i1) (by omega) ((by rw [mX5_manReaches_L3_ok, if_neg c_6, if_neg c_7, if_neg c_8] : mX5_manReaches_L3_ok mF mR tb kd ww wb dd i2 i1 (k3 + 1) i3 some3 sq3 = mX5_manReaches_L3_ok mF mR tb kd ww wb dd i2 i1 k3 (i3 + 1) (mX5_manReaches_V4 tb kd ww wb dd some3 sq3) (mX5_manReaches_V5 mF mR kd sq3 i2 i1)).symm.trans hv3_0) (et_manV5 hF hR) ((by rw [mX5_manReaches_L3, if_neg c_6, if_neg c_7, if_neg c_8] : mX5_manReaches_L3 mF mR tb kd ww wb dd i2 i1 (k3 + 1) i3 some3 sq3 = mX5_manReaches_L3 mF mR tb kd ww wb dd i2 i1 k3 (i3 + 1) (mX5_manReaches_V4 tb kd ww wb dd some3 sq3) (mX5_manReaches_V5 mF mR kd sq3 i2 i1)).symm.trans hm) ls (lv_sub hl [1, 0, 2, 3, 4, 5, 6, 7, 8, 9, 10, 11] rfl)
                              refine lv_iload hx hb dX5_manReaches_359 (lv_at hl 2 rfl) ?_
                              refine lv_if_eq (tgt := 377) hx hb dX5_manReaches_361 (by decide) (fun c_9 => ?_) (fun c_9 => ?_)
                              ·
                                refine lv_iconst (v := (-1 : Int32)) hx hb dX5_manReaches_377 (by decide) ?_
                                have he6 : ((-1 : Int32) : Int32) = (mX5_manReaches_V5 mF mR kd sq3 i2 i1) := (by rw [mX5_manReaches_V5, if_pos c_9])
                                exact et_stki he6 (hj5 ls (lv_sub hl [0, 1, 2, 3, 4, 5, 6, 7, 8, 9, 10, 11] rfl))
                              ·
                                refine lv_aload_n hx hb dX5_manReaches_364 rfl (lv_at hl 6 rfl) ?_
                                refine lv_iload hx hb dX5_manReaches_365 (lv_at hl 1 rfl) ?_
                                refine lv_iload hx hb dX5_manReaches_367 (lv_at hl 5 rfl) ?_
                                refine lv_iload hx hb dX5_manReaches_369 (lv_at hl 4 rfl) ?_
                                refine et_callP1 (v := .int (mX5_step mF mR sq3 (nI i1 - 2) (nI i2 - 2))) (va_runV (As := [.int sq3, .int (nI i1 - 2), .int (nI i2 - 2)]) (rest := []) ⟨hx, hb, hml, hown, hts⟩ (c_X5_step l g md r1 r2 r3 r4 mF mR th tb bu gr mt mk mw mm mb ms ml my sq3 (nI i1 - 2) (nI i2 - 2)) (cwV 3 hts (W0_gV w_813 w_815 w_54 w_82 w_816) rfl rfl rfl (by decide +kernel) ⟨Nat.le_of_ble_eq_true rfl, Nat.le_of_ble_eq_true rfl⟩) (et_preV hP hC [0, 1, 2, 3, 4] rfl (ci := 5) (q0 := 0) rfl rfl) rfl rfl hl.1 rfl (lv_room (Nat.le_of_ble_eq_true rfl)) dX5_manReaches_371 ⟨Nat.le_of_ble_eq_true rfl, Nat.le_of_ble_eq_true rfl⟩) ?_
                                refine lv_goto (tgt := 378) hx hb dX5_manReaches_374 (by decide) ?_
                                have he7 : ((mX5_step mF mR sq3 (nI i1 - 2) (nI i2 - 2)) : Int32) = (mX5_manReaches_V5 mF mR kd sq3 i2 i1) := (by rw [mX5_manReaches_V5, if_neg c_9])
                                exact et_stki he7 (hj5 ls (lv_sub hl [0, 1, 2, 3, 4, 5, 6, 7, 8, 9, 10, 11] rfl))
                            refine lv_iload hx hb dX5_manReaches_332 (lv_at hl 0 rfl) ?_
                            refine lv_if_ne (tgt := 352) hx hb dX5_manReaches_334 (by decide) (fun c_10 => ?_) (fun c_10 => ?_)
                            ·
                              refine lv_iconst (v := (1 : Int32)) hx hb dX5_manReaches_352 (by decide) ?_
                              refine lv_goto (tgt := 357) hx hb dX5_manReaches_353 (by decide) ?_
                              have he8 : (true : Bool) = (mX5_manReaches_V4 tb kd ww wb dd some3 sq3) := (by rw [mX5_manReaches_V4, if_neg c_10])
                              exact et_stki (congrArg zI he8) (hj4 ls (lv_sub hl [0, 1, 2, 3, 4, 5, 6, 7, 8, 9, 10, 11] rfl))
                            ·
                              refine lv_aload_n hx hb dX5_manReaches_337 rfl (lv_at hl 6 rfl) ?_
                              refine lv_iload_n hx hb dX5_manReaches_338 rfl (lv_at hl 7 rfl) ?_
                              refine lv_iload_n hx hb dX5_manReaches_339 rfl (lv_at hl 8 rfl) ?_
                              refine lv_iload hx hb dX5_manReaches_340 (lv_at hl 1 rfl) ?_
                              refine lv_iload hx hb dX5_manReaches_342 (lv_at hl 10 rfl) ?_
                              refine lv_iload hx hb dX5_manReaches_344 (lv_at hl 11 rfl) ?_
                              refine et_callP1 (v := .int (zI (mX5_reaches tb kd ww sq3 wb dd))) (va_runV (As := [.int kd, .int ww, .int sq3, .int wb, .int dd]) (rest := []) ⟨hx, hb, hml, hown, hts⟩ (c_X5_reaches l g md r1 r2 r3 r4 mF mR th tb bu gr mt mk mw mm mb ms ml my kd ww sq3 wb dd (by assumption) (by assumption) (et_m1_r hv3_1 (by assumption)) (by assumption)) (cwV 5 hts (W0_gV w_858 w_860 w_64 w_82 w_861) rfl rfl rfl (by decide +kernel) ⟨Nat.le_of_ble_eq_true rfl, Nat.le_of_ble_eq_true rfl⟩) (et_preV hP hC [0, 1, 2, 3, 4] rfl (ci := 5) (q0 := 0) rfl rfl) rfl rfl hl.1 rfl (lv_room (Nat.le_of_ble_eq_true rfl)) dX5_manReaches_346 ⟨Nat.le_of_ble_eq_true rfl, Nat.le_of_ble_eq_true rfl⟩) ?_
                              refine lv_if_eq (tgt := 356) hx hb dX5_manReaches_349 (by decide) (fun c_11 => ?_) (fun c_11 => ?_)
                              ·
                                refine lv_iconst (v := (0 : Int32)) hx hb dX5_manReaches_356 (by decide) ?_
                                have he9 : (false : Bool) = (mX5_manReaches_V4 tb kd ww wb dd some3 sq3) := (by rw [mX5_manReaches_V4, if_pos c_10, if_pos c_11])
                                exact et_stki (congrArg zI he9) (hj4 ls (lv_sub hl [0, 1, 2, 3, 4, 5, 6, 7, 8, 9, 10, 11] rfl))
                              ·
                                refine lv_iconst (v := (1 : Int32)) hx hb dX5_manReaches_352 (by decide) ?_
                                refine lv_goto (tgt := 357) hx hb dX5_manReaches_353 (by decide) ?_
                                have he10 : (true : Bool) = (mX5_manReaches_V4 tb kd ww wb dd some3 sq3) := (by rw [mX5_manReaches_V4, if_pos c_10, if_neg c_11])
                                exact et_stki (congrArg zI he10) (hj4 ls (lv_sub hl [0, 1, 2, 3, 4, 5, 6, 7, 8, 9, 10, 11] rfl))
                  exact hL3 9 0 some2 (mX5_manReaches_V3 mF mR kd wm i2 i1) (by omega) (et_man_ok hF hR (by omega) (by omega)) (et_manV3 hF hR) rfl ls (lv_sub hl [4, 0, 1, 2, 3, 5, 6, 7, 8, 9, 10, 11] rfl)
                refine lv_iload hx hb dX5_manReaches_289 (lv_at hl 1 rfl) ?_
                refine lv_if_ne (tgt := 299) hx hb dX5_manReaches_291 (by decide) (fun c_12 => ?_) (fun c_12 => ?_)
                ·
                  refine lv_aload_n hx hb dX5_manReaches_299 rfl (lv_at hl 5 rfl) ?_
                  refine lv_iload_n hx hb dX5_manReaches_300 rfl (lv_at hl 8 rfl) ?_
                  refine lv_iload hx hb dX5_manReaches_301 (lv_at hl 4 rfl) ?_
                  refine lv_iload hx hb dX5_manReaches_303 (lv_at hl 2 rfl) ?_
                  refine et_callP1 (v := .int (mX5_step mF mR wm (nI i1 - 2) (nI i2 - 2))) (va_runV (As := [.int wm, .int (nI i1 - 2), .int (nI i2 - 2)]) (rest := []) ⟨hx, hb, hml, hown, hts⟩ (c_X5_step l g md r1 r2 r3 r4 mF mR th tb bu gr mt mk mw mm mb ms ml my wm (nI i1 - 2) (nI i2 - 2)) (cwV 3 hts (W0_gV w_813 w_815 w_54 w_82 w_816) rfl rfl rfl (by decide +kernel) ⟨Nat.le_of_ble_eq_true rfl, Nat.le_of_ble_eq_true rfl⟩) (et_preV hP hC [0, 1, 2, 3, 4] rfl (ci := 5) (q0 := 0) rfl rfl) rfl rfl hl.1 rfl (lv_room (Nat.le_of_ble_eq_true rfl)) dX5_manReaches_305 ⟨Nat.le_of_ble_eq_true rfl, Nat.le_of_ble_eq_true rfl⟩) ?_
                  refine lv_goto (tgt := 312) hx hb dX5_manReaches_308 (by decide) ?_
                  have he11 : ((mX5_step mF mR wm (nI i1 - 2) (nI i2 - 2)) : Int32) = (mX5_manReaches_V3 mF mR kd wm i2 i1) := (by rw [mX5_manReaches_V3, if_neg c_12])
                  exact et_stki he11 (hj3 ls (lv_sub hl [0, 1, 2, 3, 4, 5, 6, 7, 8, 9, 10] rfl))
                ·
                  refine lv_iload hx hb dX5_manReaches_294 (lv_at hl 0 rfl) ?_
                  refine lv_if_eq (tgt := 311) hx hb dX5_manReaches_296 (by decide) (fun c_13 => ?_) (fun c_13 => ?_)
                  ·
                    refine lv_iconst (v := (-1 : Int32)) hx hb dX5_manReaches_311 (by decide) ?_
                    have he12 : ((-1 : Int32) : Int32) = (mX5_manReaches_V3 mF mR kd wm i2 i1) := (by rw [mX5_manReaches_V3, if_pos c_12, if_pos c_13])
                    exact et_stki he12 (hj3 ls (lv_sub hl [0, 1, 2, 3, 4, 5, 6, 7, 8, 9, 10] rfl))
                  ·
                    refine lv_aload_n hx hb dX5_manReaches_299 rfl (lv_at hl 5 rfl) ?_
                    refine lv_iload_n hx hb dX5_manReaches_300 rfl (lv_at hl 8 rfl) ?_
                    refine lv_iload hx hb dX5_manReaches_301 (lv_at hl 4 rfl) ?_
                    refine lv_iload hx hb dX5_manReaches_303 (lv_at hl 2 rfl) ?_
                    refine et_callP1 (v := .int (mX5_step mF mR wm (nI i1 - 2) (nI i2 - 2))) (va_runV (As := [.int wm, .int (nI i1 - 2), .int (nI i2 - 2)]) (rest := []) ⟨hx, hb, hml, hown, hts⟩ (c_X5_step l g md r1 r2 r3 r4 mF mR th tb bu gr mt mk mw mm mb ms ml my wm (nI i1 - 2) (nI i2 - 2)) (cwV 3 hts (W0_gV w_813 w_815 w_54 w_82 w_816) rfl rfl rfl (by decide +kernel) ⟨Nat.le_of_ble_eq_true rfl, Nat.le_of_ble_eq_true rfl⟩) (et_preV hP hC [0, 1, 2, 3, 4] rfl (ci := 5) (q0 := 0) rfl rfl) rfl rfl hl.1 rfl (lv_room (Nat.le_of_ble_eq_true rfl)) dX5_manReaches_305 ⟨Nat.le_of_ble_eq_true rfl, Nat.le_of_ble_eq_true rfl⟩) ?_
                    refine lv_goto (tgt := 312) hx hb dX5_manReaches_308 (by decide) ?_
                    have he13 : ((mX5_step mF mR wm (nI i1 - 2) (nI i2 - 2)) : Int32) = (mX5_manReaches_V3 mF mR kd wm i2 i1) := (by rw [mX5_manReaches_V3, if_pos c_12, if_neg c_13])
                    exact et_stki he13 (hj3 ls (lv_sub hl [0, 1, 2, 3, 4, 5, 6, 7, 8, 9, 10] rfl))
              refine lv_iload_n hx hb dX5_manReaches_266 rfl (lv_at hl 5 rfl) ?_
              refine lv_iconst (v := (2 : Int32)) hx hb dX5_manReaches_267 (by decide) ?_
              refine lv_icmp_le (tgt := 286) hx hb dX5_manReaches_268 (by decide) (fun c_14 => ?_) (fun c_14 => ?_)
              ·
                refine lv_iconst (v := (0 : Int32)) hx hb dX5_manReaches_286 (by decide) ?_
                have he14 : (false : Bool) = (mX5_manReaches_V2 kd i2 i1) := (by rw [mX5_manReaches_V2, if_pos c_14])
                exact et_stki (congrArg zI he14) (hj2 ls (lv_sub hl [0, 1, 2, 3, 4, 5, 6, 7, 8, 9] rfl))
              ·
                refine lv_iload_n hx hb dX5_manReaches_271 rfl (lv_at hl 5 rfl) ?_
                refine lv_iload hx hb dX5_manReaches_272 (lv_at hl 3 rfl) ?_
                refine lv_iload hx hb dX5_manReaches_274 (lv_at hl 1 rfl) ?_
                refine et_callP1 (v := .int (zI (mX5_goesAlong kd (nI i1 - 2) (nI i2 - 2)))) (va_runS (As := [.int kd, .int (nI i1 - 2), .int (nI i2 - 2)]) (rest := []) ⟨hx, hb, hml, hown, hts⟩ (c_X5_goesAlong l g kd (nI i1 - 2) (nI i2 - 2)) (va_cwS 3 hts (W0_gS w_810 w_811 w_82 w_812) rfl rfl rfl (by decide +kernel) ⟨Nat.le_of_ble_eq_true rfl, Nat.le_of_ble_eq_true rfl⟩) (et_preS hP hC [] rfl) rfl rfl hl.1 rfl (lv_room (Nat.le_of_ble_eq_true rfl)) dX5_manReaches_276 ⟨Nat.le_of_ble_eq_true rfl, Nat.le_of_ble_eq_true rfl⟩) ?_
                refine lv_if_eq (tgt := 286) hx hb dX5_manReaches_279 (by decide) (fun c_15 => ?_) (fun c_15 => ?_)
                ·
                  refine lv_iconst (v := (0 : Int32)) hx hb dX5_manReaches_286 (by decide) ?_
                  have he15 : (false : Bool) = (mX5_manReaches_V2 kd i2 i1) := (by rw [mX5_manReaches_V2, if_neg c_14, if_pos c_15])
                  exact et_stki (congrArg zI he15) (hj2 ls (lv_sub hl [0, 1, 2, 3, 4, 5, 6, 7, 8, 9] rfl))
                ·
                  refine lv_iconst (v := (1 : Int32)) hx hb dX5_manReaches_282 (by decide) ?_
                  refine lv_goto (tgt := 287) hx hb dX5_manReaches_283 (by decide) ?_
                  have he16 : (true : Bool) = (mX5_manReaches_V2 kd i2 i1) := (by rw [mX5_manReaches_V2, if_neg c_14, if_neg c_15])
                  exact et_stki (congrArg zI he16) (hj2 ls (lv_sub hl [0, 1, 2, 3, 4, 5, 6, 7, 8, 9] rfl))
            refine lv_iload_n hx hb dX5_manReaches_239 rfl (lv_at hl 4 rfl) ?_
            refine lv_iconst (v := (2 : Int32)) hx hb dX5_manReaches_240 (by decide) ?_
            refine lv_icmp_ne (tgt := 263) hx hb dX5_manReaches_241 (by decide) (fun c_16 => ?_) (fun c_16 => ?_)
            ·
              refine lv_iconst (v := (0 : Int32)) hx hb dX5_manReaches_263 (by decide) ?_
              have he17 : (false : Bool) = (mX5_manReaches_V1 kd i2 i1) := (by rw [mX5_manReaches_V1, if_neg c_16])
              exact et_stki (congrArg zI he17) (hj1 ls (lv_sub hl [0, 1, 2, 3, 4, 5, 6, 7, 8] rfl))
            ·
              refine lv_iload hx hb dX5_manReaches_244 (lv_at hl 2 rfl) ?_
              refine lv_iload hx hb dX5_manReaches_246 (lv_at hl 2 rfl) ?_
              refine lv_imul hx hb dX5_manReaches_248 ?_
              refine lv_iload hx hb dX5_manReaches_249 (lv_at hl 0 rfl) ?_
              refine lv_iload hx hb dX5_manReaches_251 (lv_at hl 0 rfl) ?_
              refine lv_imul hx hb dX5_manReaches_253 ?_
              refine lv_iadd hx hb dX5_manReaches_254 ?_
              refine lv_iconst (v := (5 : Int32)) hx hb dX5_manReaches_255 (by decide) ?_
              refine lv_icmp_ne (tgt := 263) hx hb dX5_manReaches_256 (by decide) (fun c_17 => ?_) (fun c_17 => ?_)
              ·
                refine lv_iconst (v := (0 : Int32)) hx hb dX5_manReaches_263 (by decide) ?_
                have he18 : (false : Bool) = (mX5_manReaches_V1 kd i2 i1) := (by rw [mX5_manReaches_V1, if_pos c_16, if_neg c_17])
                exact et_stki (congrArg zI he18) (hj1 ls (lv_sub hl [0, 1, 2, 3, 4, 5, 6, 7, 8] rfl))
              ·
                refine lv_iconst (v := (1 : Int32)) hx hb dX5_manReaches_259 (by decide) ?_
                refine lv_goto (tgt := 264) hx hb dX5_manReaches_260 (by decide) ?_
                have he19 : (true : Bool) = (mX5_manReaches_V1 kd i2 i1) := (by rw [mX5_manReaches_V1, if_pos c_16, if_pos c_17])
                exact et_stki (congrArg zI he19) (hj1 ls (lv_sub hl [0, 1, 2, 3, 4, 5, 6, 7, 8] rfl))
        exact hL2 5 0 some1 (by omega) rfl ls (by rw [show (nI 0 - 2 : Int32) = (-2 : Int32) from (by decide)]; exact lv_sub hl [0, 2, 1, 3, 4, 5, 6, 7, 8] rfl)
    exact hL1 5 0 false (by omega) rfl ls (by rw [show (nI 0 - 2 : Int32) = (-2 : Int32) from (by decide)]; exact lv_sub hl [0, 1, 2, 3, 4, 5, 6, 7] rfl)
  ·
    refine lv_aload_n hx hb dX5_manReaches_8 rfl (lv_at hl 1 rfl) ?_
    refine lv_iload_n hx hb dX5_manReaches_9 rfl (lv_at hl 4 rfl) ?_
    refine lv_iconst (v := (0 : Int32)) hx hb dX5_manReaches_10 (by decide) ?_
    refine lv_iconst (v := (1 : Int32)) hx hb dX5_manReaches_11 (by decide) ?_
    refine et_callP1 (v := .int (mX5_step mF mR wm (0 : Int32) (1 : Int32))) (va_runV (As := [.int wm, .int (0 : Int32), .int (1 : Int32)]) (rest := []) ⟨hx, hb, hml, hown, hts⟩ (c_X5_step l g md r1 r2 r3 r4 mF mR th tb bu gr mt mk mw mm mb ms ml my wm (0 : Int32) (1 : Int32)) (cwV 3 hts (W0_gV w_813 w_815 w_54 w_82 w_816) rfl rfl rfl (by decide +kernel) ⟨Nat.le_of_ble_eq_true rfl, Nat.le_of_ble_eq_true rfl⟩) (et_preV hP hC [0, 1, 2, 3, 4] rfl (ci := 5) (q0 := 0) rfl rfl) rfl rfl hl.1 rfl (lv_room (Nat.le_of_ble_eq_true rfl)) dX5_manReaches_12 ⟨Nat.le_of_ble_eq_true rfl, Nat.le_of_ble_eq_true rfl⟩) ?_
    refine lv_istore (lv' := [(7, .int (mX5_step mF mR wm (0 : Int32) (1 : Int32))), (6, .int (0 : Int32)), (0, .ref md), (1, .int kd), (2, .int ww), (3, .int wm), (4, .int wb), (5, .int dd)]) hx hb dX5_manReaches_15 hl (by decide) rfl (fun ls hl => ?_)
    have hj6 : ∀ ls : Array Slot, lv_has ls 12 [(7, .int (mX5_step mF mR wm (0 : Int32) (1 : Int32))), (6, .int (0 : Int32)), (0, .ref md), (1, .int kd), (2, .int ww), (3, .int wm), (4, .int wb), (5, .int dd)] → W p l e ({ frames := 3, cells := 0, slots := 0, locals := 75 } : Room) s m args below meth c s.heap [] 0 0 (MQ below (et_QP (some (.int (zI ((mX5_manReaches mF mR tb kd ww wm wb dd)))))) args s 0 0 et_no) (F0 m 40 ls [.int (zI (mX5_manReaches_V6 mF mR ww wm wb))]) := by
      intro ls hl
      refine lv_istore (lv' := [(8, .int (zI (mX5_manReaches_V6 mF mR ww wm wb))), (7, .int (mX5_step mF mR wm (0 : Int32) (1 : Int32))), (6, .int (0 : Int32)), (0, .ref md), (1, .int kd), (2, .int ww), (3, .int wm), (4, .int wb), (5, .int dd)]) hx hb dX5_manReaches_40 hl (by decide) rfl (fun ls hl => ?_)
      refine lv_iload hx hb dX5_manReaches_42 (lv_at hl 0 rfl) ?_
      refine lv_if_eq (tgt := 107) hx hb dX5_manReaches_44 (by decide) (fun c_18 => ?_) (fun c_18 => ?_)
      ·
        have hj7 : ∀ ls : Array Slot, lv_has ls 12 [(8, .int (zI (mX5_manReaches_V6 mF mR ww wm wb))), (7, .int (mX5_step mF mR wm (0 : Int32) (1 : Int32))), (6, .int (0 : Int32)), (0, .ref md), (1, .int kd), (2, .int ww), (3, .int wm), (4, .int wb), (5, .int dd)] → W p l e ({ frames := 3, cells := 0, slots := 0, locals := 75 } : Room) s m args below meth c s.heap [] 0 0 (MQ below (et_QP (some (.int (zI ((mX5_manReaches mF mR tb kd ww wm wb dd)))))) args s 0 0 et_no) (F0 m 132 ls [.int (mX5_manReaches_V7 mF mR ww wm wb)]) := by
          intro ls hl
          refine lv_istore (lv' := [(9, .int (mX5_manReaches_V7 mF mR ww wm wb)), (8, .int (zI (mX5_manReaches_V6 mF mR ww wm wb))), (7, .int (mX5_step mF mR wm (0 : Int32) (1 : Int32))), (6, .int (0 : Int32)), (0, .ref md), (1, .int kd), (2, .int ww), (3, .int wm), (4, .int wb), (5, .int dd)]) hx hb dX5_manReaches_132 hl (by decide) rfl (fun ls hl => ?_)
          have hj8 : ∀ ls : Array Slot, lv_has ls 12 [(9, .int (mX5_manReaches_V7 mF mR ww wm wb)), (8, .int (zI (mX5_manReaches_V6 mF mR ww wm wb))), (7, .int (mX5_step mF mR wm (0 : Int32) (1 : Int32))), (6, .int (0 : Int32)), (0, .ref md), (1, .int kd), (2, .int ww), (3, .int wm), (4, .int wb), (5, .int dd)] → W p l e ({ frames := 3, cells := 0, slots := 0, locals := 75 } : Room) s m args below meth c s.heap [] 0 0 (MQ below (et_QP (some (.int (zI ((mX5_manReaches mF mR tb kd ww wm wb dd)))))) args s 0 0 et_no) (F0 m 159 ls [.int (zI (mX5_manReaches_V8 mF mR tb kd ww wm wb dd))]) := by
            intro ls hl
            refine lv_istore (lv' := [(6, .int (zI (mX5_manReaches_V8 mF mR tb kd ww wm wb dd))), (9, .int (mX5_manReaches_V7 mF mR ww wm wb)), (8, .int (zI (mX5_manReaches_V6 mF mR ww wm wb))), (7, .int (mX5_step mF mR wm (0 : Int32) (1 : Int32))), (0, .ref md), (1, .int kd), (2, .int ww), (3, .int wm), (4, .int wb), (5, .int dd)]) hx hb dX5_manReaches_159 hl (by decide) rfl (fun ls hl => ?_)
            refine lv_iload hx hb dX5_manReaches_161 (lv_at hl 0 rfl) ?_
            refine lv_if_ne (tgt := 213) hx hb dX5_manReaches_163 (by decide) (fun c_19 => ?_) (fun c_19 => ?_)
            ·
              refine lv_iconst (v := (1 : Int32)) hx hb dX5_manReaches_213 (by decide) ?_
              refine lv_goto (tgt := 218) hx hb dX5_manReaches_214 (by decide) ?_
              have hfin : true = (mX5_manReaches mF mR tb kd ww wm wb dd) := (by rw [mX5_manReaches, if_pos c_1, if_pos c_18, if_neg c_19])
              exact et_zret hx hb hr hlocks dX5_manReaches_218 (congrArg zI (hfin))
            ·
              refine lv_iload hx hb dX5_manReaches_166 (lv_at hl 1 rfl) ?_
              refine lv_if_lt (tgt := 217) hx hb dX5_manReaches_168 (by decide) (fun c_20 => ?_) (fun c_20 => ?_)
              ·
                refine lv_iconst (v := (0 : Int32)) hx hb dX5_manReaches_217 (by decide) ?_
                have hfin : false = (mX5_manReaches mF mR tb kd ww wm wb dd) := (by rw [mX5_manReaches, if_pos c_1, if_pos c_18, if_pos c_19, if_pos c_20])
                exact et_zret hx hb hr hlocks dX5_manReaches_218 (congrArg zI (hfin))
              ·
                refine lv_iload hx hb dX5_manReaches_171 (lv_at hl 1 rfl) ?_
                refine lv_bipush (v := (8 : Int32)) hx hb dX5_manReaches_173 (by decide) ?_
                refine lv_idiv hx hb dX5_manReaches_175 (by decide) ?_
                refine lv_aload_n hx hb dX5_manReaches_176 rfl (lv_at hl 4 rfl) ?_
                refine va_get (D := gD g) (ci := 5) (v := .int mR) (C := RX5) (T := TX5) (N := 14) hx hb hts inW_X5 hown hC.1 hP 0 rfl rfl 2 (by decide) (hts _ w_735) (fun _ h9 => h9) rfl dX5_manReaches_177 ?_
                refine lv_iconst (v := (1 : Int32)) hx hb dX5_manReaches_180 (by decide) ?_
                refine lv_isub hx hb dX5_manReaches_181 ?_
                refine lv_icmp_ge (tgt := 217) hx hb dX5_manReaches_182 (by decide) (fun c_21 => ?_) (fun c_21 => ?_)
                ·
                  refine lv_iconst (v := (0 : Int32)) hx hb dX5_manReaches_217 (by decide) ?_
                  have hfin : false = (mX5_manReaches mF mR tb kd ww wm wb dd) := (by rw [mX5_manReaches, if_pos c_1, if_pos c_18, if_pos c_19, if_neg c_20, if_pos c_21])
                  exact et_zret hx hb hr hlocks dX5_manReaches_218 (congrArg zI (hfin))
                ·
                  refine lv_iload hx hb dX5_manReaches_185 (lv_at hl 1 rfl) ?_
                  refine lv_iload_n hx hb dX5_manReaches_187 rfl (lv_at hl 6 rfl) ?_
                  refine lv_icmp_eq (tgt := 217) hx hb dX5_manReaches_188 (by decide) (fun c_22 => ?_) (fun c_22 => ?_)
                  ·
                    refine lv_iconst (v := (0 : Int32)) hx hb dX5_manReaches_217 (by decide) ?_
                    have hfin : false = (mX5_manReaches mF mR tb kd ww wm wb dd) := (by rw [mX5_manReaches, if_pos c_1, if_pos c_18, if_pos c_19, if_neg c_20, if_neg c_21, if_pos c_22])
                    exact et_zret hx hb hr hlocks dX5_manReaches_218 (congrArg zI (hfin))
                  ·
                    refine lv_iload hx hb dX5_manReaches_191 (lv_at hl 1 rfl) ?_
                    refine lv_iload hx hb dX5_manReaches_193 (lv_at hl 8 rfl) ?_
                    refine lv_icmp_eq (tgt := 217) hx hb dX5_manReaches_195 (by decide) (fun c_23 => ?_) (fun c_23 => ?_)
                    ·
                      refine lv_iconst (v := (0 : Int32)) hx hb dX5_manReaches_217 (by decide) ?_
                      have hfin : false = (mX5_manReaches mF mR tb kd ww wm wb dd) := (by rw [mX5_manReaches, if_pos c_1, if_pos c_18, if_pos c_19, if_neg c_20, if_neg c_21, if_neg c_22, if_pos c_23])
                      exact et_zret hx hb hr hlocks dX5_manReaches_218 (congrArg zI (hfin))
                    ·
                      refine lv_aload_n hx hb dX5_manReaches_198 rfl (lv_at hl 4 rfl) ?_
                      refine lv_iload_n hx hb dX5_manReaches_199 rfl (lv_at hl 5 rfl) ?_
                      refine lv_iload_n hx hb dX5_manReaches_200 rfl (lv_at hl 6 rfl) ?_
                      refine lv_iload hx hb dX5_manReaches_201 (lv_at hl 1 rfl) ?_
                      refine lv_iload hx hb dX5_manReaches_203 (lv_at hl 8 rfl) ?_
                      refine lv_iload hx hb dX5_manReaches_205 (lv_at hl 9 rfl) ?_
                      refine et_callP1 (v := .int (zI (mX5_reaches tb kd ww (mX5_manReaches_V7 mF mR ww wm wb) wb dd))) (va_runV (As := [.int kd, .int ww, .int (mX5_manReaches_V7 mF mR ww wm wb), .int wb, .int dd]) (rest := []) ⟨hx, hb, hml, hown, hts⟩ (c_X5_reaches l g md r1 r2 r3 r4 mF mR th tb bu gr mt mk mw mm mb ms ml my kd ww (mX5_manReaches_V7 mF mR ww wm wb) wb dd (by assumption) (by assumption) (et_m1_r (by first | exact et_manV7 hF hR | exact et_manV9 hF hR) (by assumption)) (by assumption)) (cwV 5 hts (W0_gV w_858 w_860 w_64 w_82 w_861) rfl rfl rfl (by decide +kernel) ⟨Nat.le_of_ble_eq_true rfl, Nat.le_of_ble_eq_true rfl⟩) (et_preV hP hC [0, 1, 2, 3, 4] rfl (ci := 5) (q0 := 0) rfl rfl) rfl rfl hl.1 rfl (lv_room (Nat.le_of_ble_eq_true rfl)) dX5_manReaches_207 ⟨Nat.le_of_ble_eq_true rfl, Nat.le_of_ble_eq_true rfl⟩) ?_
                      refine lv_if_eq (tgt := 217) hx hb dX5_manReaches_210 (by decide) (fun c_24 => ?_) (fun c_24 => ?_)
                      ·
                        refine lv_iconst (v := (0 : Int32)) hx hb dX5_manReaches_217 (by decide) ?_
                        have hfin : false = (mX5_manReaches mF mR tb kd ww wm wb dd) := (by rw [mX5_manReaches, if_pos c_1, if_pos c_18, if_pos c_19, if_neg c_20, if_neg c_21, if_neg c_22, if_neg c_23, if_pos c_24])
                        exact et_zret hx hb hr hlocks dX5_manReaches_218 (congrArg zI (hfin))
                      ·
                        refine lv_iconst (v := (1 : Int32)) hx hb dX5_manReaches_213 (by decide) ?_
                        refine lv_goto (tgt := 218) hx hb dX5_manReaches_214 (by decide) ?_
                        have hfin : true = (mX5_manReaches mF mR tb kd ww wm wb dd) := (by rw [mX5_manReaches, if_pos c_1, if_pos c_18, if_pos c_19, if_neg c_20, if_neg c_21, if_neg c_22, if_neg c_23, if_neg c_24])
                        exact et_zret hx hb hr hlocks dX5_manReaches_218 (congrArg zI (hfin))
          refine lv_iload hx hb dX5_manReaches_134 (lv_at hl 1 rfl) ?_
          refine lv_if_eq (tgt := 158) hx hb dX5_manReaches_136 (by decide) (fun c_25 => ?_) (fun c_25 => ?_)
          ·
            refine lv_iconst (v := (0 : Int32)) hx hb dX5_manReaches_158 (by decide) ?_
            have he20 : (false : Bool) = (mX5_manReaches_V8 mF mR tb kd ww wm wb dd) := (by rw [mX5_manReaches_V8, if_pos c_25])
            exact et_stki (congrArg zI he20) (hj8 ls (lv_sub hl [0, 1, 2, 3, 4, 5, 6, 7, 8, 9] rfl))
          ·
            refine lv_aload_n hx hb dX5_manReaches_139 rfl (lv_at hl 4 rfl) ?_
            refine lv_iload_n hx hb dX5_manReaches_140 rfl (lv_at hl 5 rfl) ?_
            refine lv_iload_n hx hb dX5_manReaches_141 rfl (lv_at hl 6 rfl) ?_
            refine lv_iload hx hb dX5_manReaches_142 (lv_at hl 2 rfl) ?_
            refine lv_iload hx hb dX5_manReaches_144 (lv_at hl 8 rfl) ?_
            refine lv_iload hx hb dX5_manReaches_146 (lv_at hl 9 rfl) ?_
            refine et_callP1 (v := .int (zI (mX5_reaches tb kd ww (mX5_step mF mR wm (0 : Int32) (1 : Int32)) wb dd))) (va_runV (As := [.int kd, .int ww, .int (mX5_step mF mR wm (0 : Int32) (1 : Int32)), .int wb, .int dd]) (rest := []) ⟨hx, hb, hml, hown, hts⟩ (c_X5_reaches l g md r1 r2 r3 r4 mF mR th tb bu gr mt mk mw mm mb ms ml my kd ww (mX5_step mF mR wm (0 : Int32) (1 : Int32)) wb dd (by assumption) (by assumption) (et_m1_r (et_step_r hF hR) (et_openV (by assumption))) (by assumption)) (cwV 5 hts (W0_gV w_858 w_860 w_64 w_82 w_861) rfl rfl rfl (by decide +kernel) ⟨Nat.le_of_ble_eq_true rfl, Nat.le_of_ble_eq_true rfl⟩) (et_preV hP hC [0, 1, 2, 3, 4] rfl (ci := 5) (q0 := 0) rfl rfl) rfl rfl hl.1 rfl (lv_room (Nat.le_of_ble_eq_true rfl)) dX5_manReaches_148 ⟨Nat.le_of_ble_eq_true rfl, Nat.le_of_ble_eq_true rfl⟩) ?_
            refine lv_if_eq (tgt := 158) hx hb dX5_manReaches_151 (by decide) (fun c_26 => ?_) (fun c_26 => ?_)
            ·
              refine lv_iconst (v := (0 : Int32)) hx hb dX5_manReaches_158 (by decide) ?_
              have he21 : (false : Bool) = (mX5_manReaches_V8 mF mR tb kd ww wm wb dd) := (by rw [mX5_manReaches_V8, if_neg c_25, if_pos c_26])
              exact et_stki (congrArg zI he21) (hj8 ls (lv_sub hl [0, 1, 2, 3, 4, 5, 6, 7, 8, 9] rfl))
            ·
              refine lv_iconst (v := (1 : Int32)) hx hb dX5_manReaches_154 (by decide) ?_
              refine lv_goto (tgt := 159) hx hb dX5_manReaches_155 (by decide) ?_
              have he22 : (true : Bool) = (mX5_manReaches_V8 mF mR tb kd ww wm wb dd) := (by rw [mX5_manReaches_V8, if_neg c_25, if_neg c_26])
              exact et_stki (congrArg zI he22) (hj8 ls (lv_sub hl [0, 1, 2, 3, 4, 5, 6, 7, 8, 9] rfl))
        refine lv_iload hx hb dX5_manReaches_107 (lv_at hl 0 rfl) ?_
        refine lv_if_eq (tgt := 131) hx hb dX5_manReaches_109 (by decide) (fun c_27 => ?_) (fun c_27 => ?_)
        ·
          refine lv_iconst (v := (-1 : Int32)) hx hb dX5_manReaches_131 (by decide) ?_
          have he23 : ((-1 : Int32) : Int32) = (mX5_manReaches_V7 mF mR ww wm wb) := (by rw [mX5_manReaches_V7, if_pos c_27])
          exact et_stki he23 (hj7 ls (lv_sub hl [0, 1, 2, 3, 4, 5, 6, 7, 8] rfl))
        ·
          refine lv_iload_n hx hb dX5_manReaches_112 rfl (lv_at hl 6 rfl) ?_
          refine lv_bipush (v := (8 : Int32)) hx hb dX5_manReaches_113 (by decide) ?_
          refine lv_idiv hx hb dX5_manReaches_115 (by decide) ?_
          refine lv_iconst (v := (1 : Int32)) hx hb dX5_manReaches_116 (by decide) ?_
          refine lv_icmp_ne (tgt := 131) hx hb dX5_manReaches_117 (by decide) (fun c_28 => ?_) (fun c_28 => ?_)
          ·
            refine lv_iconst (v := (-1 : Int32)) hx hb dX5_manReaches_131 (by decide) ?_
            have he24 : ((-1 : Int32) : Int32) = (mX5_manReaches_V7 mF mR ww wm wb) := (by rw [mX5_manReaches_V7, if_neg c_27, if_neg c_28])
            exact et_stki he24 (hj7 ls (lv_sub hl [0, 1, 2, 3, 4, 5, 6, 7, 8] rfl))
          ·
            refine lv_aload_n hx hb dX5_manReaches_120 rfl (lv_at hl 3 rfl) ?_
            refine lv_iload hx hb dX5_manReaches_121 (lv_at hl 1 rfl) ?_
            refine lv_iconst (v := (0 : Int32)) hx hb dX5_manReaches_123 (by decide) ?_
            refine lv_iconst (v := (1 : Int32)) hx hb dX5_manReaches_124 (by decide) ?_
            refine et_callP1 (v := .int (mX5_step mF mR (mX5_step mF mR wm (0 : Int32) (1 : Int32)) (0 : Int32) (1 : Int32))) (va_runV (As := [.int (mX5_step mF mR wm (0 : Int32) (1 : Int32)), .int (0 : Int32), .int (1 : Int32)]) (rest := []) ⟨hx, hb, hml, hown, hts⟩ (c_X5_step l g md r1 r2 r3 r4 mF mR th tb bu gr mt mk mw mm mb ms ml my (mX5_step mF mR wm (0 : Int32) (1 : Int32)) (0 : Int32) (1 : Int32)) (cwV 3 hts (W0_gV w_813 w_815 w_54 w_82 w_816) rfl rfl rfl (by decide +kernel) ⟨Nat.le_of_ble_eq_true rfl, Nat.le_of_ble_eq_true rfl⟩) (et_preV hP hC [0, 1, 2, 3, 4] rfl (ci := 5) (q0 := 0) rfl rfl) rfl rfl hl.1 rfl (lv_room (Nat.le_of_ble_eq_true rfl)) dX5_manReaches_125 ⟨Nat.le_of_ble_eq_true rfl, Nat.le_of_ble_eq_true rfl⟩) ?_
            refine lv_goto (tgt := 132) hx hb dX5_manReaches_128 (by decide) ?_
            have he25 : ((mX5_step mF mR (mX5_step mF mR wm (0 : Int32) (1 : Int32)) (0 : Int32) (1 : Int32)) : Int32) = (mX5_manReaches_V7 mF mR ww wm wb) := (by rw [mX5_manReaches_V7, if_neg c_27, if_pos c_28])
            exact et_stki he25 (hj7 ls (lv_sub hl [0, 1, 2, 3, 4, 5, 6, 7, 8] rfl))
      ·
        refine lv_iload hx hb dX5_manReaches_47 (lv_at hl 1 rfl) ?_
        refine lv_bipush (v := (8 : Int32)) hx hb dX5_manReaches_49 (by decide) ?_
        refine lv_idiv hx hb dX5_manReaches_51 (by decide) ?_
        refine lv_aload_n hx hb dX5_manReaches_52 rfl (lv_at hl 3 rfl) ?_
        refine va_get (D := gD g) (ci := 5) (v := .int mR) (C := RX5) (T := TX5) (N := 14) hx hb hts inW_X5 hown hC.1 hP 0 rfl rfl 2 (by decide) (hts _ w_735) (fun _ h9 => h9) rfl dX5_manReaches_53 ?_
        refine lv_iconst (v := (1 : Int32)) hx hb dX5_manReaches_56 (by decide) ?_
        refine lv_isub hx hb dX5_manReaches_57 ?_
        refine lv_icmp_ne (tgt := 107) hx hb dX5_manReaches_58 (by decide) (fun c_29 => ?_) (fun c_29 => ?_)
        ·
          have hj9 : ∀ ls : Array Slot, lv_has ls 12 [(8, .int (zI (mX5_manReaches_V6 mF mR ww wm wb))), (7, .int (mX5_step mF mR wm (0 : Int32) (1 : Int32))), (6, .int (0 : Int32)), (0, .ref md), (1, .int kd), (2, .int ww), (3, .int wm), (4, .int wb), (5, .int dd)] → W p l e ({ frames := 3, cells := 0, slots := 0, locals := 75 } : Room) s m args below meth c s.heap [] 0 0 (MQ below (et_QP (some (.int (zI ((mX5_manReaches mF mR tb kd ww wm wb dd)))))) args s 0 0 et_no) (F0 m 132 ls [.int (mX5_manReaches_V9 mF mR ww wm wb)]) := by
            intro ls hl
            refine lv_istore (lv' := [(9, .int (mX5_manReaches_V9 mF mR ww wm wb)), (8, .int (zI (mX5_manReaches_V6 mF mR ww wm wb))), (7, .int (mX5_step mF mR wm (0 : Int32) (1 : Int32))), (6, .int (0 : Int32)), (0, .ref md), (1, .int kd), (2, .int ww), (3, .int wm), (4, .int wb), (5, .int dd)]) hx hb dX5_manReaches_132 hl (by decide) rfl (fun ls hl => ?_)
            have hj10 : ∀ ls : Array Slot, lv_has ls 12 [(9, .int (mX5_manReaches_V9 mF mR ww wm wb)), (8, .int (zI (mX5_manReaches_V6 mF mR ww wm wb))), (7, .int (mX5_step mF mR wm (0 : Int32) (1 : Int32))), (6, .int (0 : Int32)), (0, .ref md), (1, .int kd), (2, .int ww), (3, .int wm), (4, .int wb), (5, .int dd)] → W p l e ({ frames := 3, cells := 0, slots := 0, locals := 75 } : Room) s m args below meth c s.heap [] 0 0 (MQ below (et_QP (some (.int (zI ((mX5_manReaches mF mR tb kd ww wm wb dd)))))) args s 0 0 et_no) (F0 m 159 ls [.int (zI (mX5_manReaches_V10 mF mR tb kd ww wm wb dd))]) := by
              intro ls hl
              refine lv_istore (lv' := [(6, .int (zI (mX5_manReaches_V10 mF mR tb kd ww wm wb dd))), (9, .int (mX5_manReaches_V9 mF mR ww wm wb)), (8, .int (zI (mX5_manReaches_V6 mF mR ww wm wb))), (7, .int (mX5_step mF mR wm (0 : Int32) (1 : Int32))), (0, .ref md), (1, .int kd), (2, .int ww), (3, .int wm), (4, .int wb), (5, .int dd)]) hx hb dX5_manReaches_159 hl (by decide) rfl (fun ls hl => ?_)
              refine lv_iload hx hb dX5_manReaches_161 (lv_at hl 0 rfl) ?_
              refine lv_if_ne (tgt := 213) hx hb dX5_manReaches_163 (by decide) (fun c_30 => ?_) (fun c_30 => ?_)
              ·
                refine lv_iconst (v := (1 : Int32)) hx hb dX5_manReaches_213 (by decide) ?_
                refine lv_goto (tgt := 218) hx hb dX5_manReaches_214 (by decide) ?_
                have hfin : true = (mX5_manReaches mF mR tb kd ww wm wb dd) := (by rw [mX5_manReaches, if_pos c_1, if_neg c_18, if_neg c_29, if_neg c_30])
                exact et_zret hx hb hr hlocks dX5_manReaches_218 (congrArg zI (hfin))
              ·
                refine lv_iload hx hb dX5_manReaches_166 (lv_at hl 1 rfl) ?_
                refine lv_if_lt (tgt := 217) hx hb dX5_manReaches_168 (by decide) (fun c_31 => ?_) (fun c_31 => ?_)
                ·
                  refine lv_iconst (v := (0 : Int32)) hx hb dX5_manReaches_217 (by decide) ?_
                  have hfin : false = (mX5_manReaches mF mR tb kd ww wm wb dd) := (by rw [mX5_manReaches, if_pos c_1, if_neg c_18, if_neg c_29, if_pos c_30, if_pos c_31])
                  exact et_zret hx hb hr hlocks dX5_manReaches_218 (congrArg zI (hfin))
                ·
                  refine lv_iload hx hb dX5_manReaches_171 (lv_at hl 1 rfl) ?_
                  refine lv_bipush (v := (8 : Int32)) hx hb dX5_manReaches_173 (by decide) ?_
                  refine lv_idiv hx hb dX5_manReaches_175 (by decide) ?_
                  refine lv_aload_n hx hb dX5_manReaches_176 rfl (lv_at hl 4 rfl) ?_
                  refine va_get (D := gD g) (ci := 5) (v := .int mR) (C := RX5) (T := TX5) (N := 14) hx hb hts inW_X5 hown hC.1 hP 0 rfl rfl 2 (by decide) (hts _ w_735) (fun _ h9 => h9) rfl dX5_manReaches_177 ?_
                  refine lv_iconst (v := (1 : Int32)) hx hb dX5_manReaches_180 (by decide) ?_
                  refine lv_isub hx hb dX5_manReaches_181 ?_
                  refine lv_icmp_ge (tgt := 217) hx hb dX5_manReaches_182 (by decide) (fun c_32 => ?_) (fun c_32 => ?_)
                  ·
                    refine lv_iconst (v := (0 : Int32)) hx hb dX5_manReaches_217 (by decide) ?_
                    have hfin : false = (mX5_manReaches mF mR tb kd ww wm wb dd) := (by rw [mX5_manReaches, if_pos c_1, if_neg c_18, if_neg c_29, if_pos c_30, if_neg c_31, if_pos c_32])
                    exact et_zret hx hb hr hlocks dX5_manReaches_218 (congrArg zI (hfin))
                  ·
                    refine lv_iload hx hb dX5_manReaches_185 (lv_at hl 1 rfl) ?_
                    refine lv_iload_n hx hb dX5_manReaches_187 rfl (lv_at hl 6 rfl) ?_
                    refine lv_icmp_eq (tgt := 217) hx hb dX5_manReaches_188 (by decide) (fun c_33 => ?_) (fun c_33 => ?_)
                    ·
                      refine lv_iconst (v := (0 : Int32)) hx hb dX5_manReaches_217 (by decide) ?_
                      have hfin : false = (mX5_manReaches mF mR tb kd ww wm wb dd) := (by rw [mX5_manReaches, if_pos c_1, if_neg c_18, if_neg c_29, if_pos c_30, if_neg c_31, if_neg c_32, if_pos c_33])
                      exact et_zret hx hb hr hlocks dX5_manReaches_218 (congrArg zI (hfin))
                    ·
                      refine lv_iload hx hb dX5_manReaches_191 (lv_at hl 1 rfl) ?_
                      refine lv_iload hx hb dX5_manReaches_193 (lv_at hl 8 rfl) ?_
                      refine lv_icmp_eq (tgt := 217) hx hb dX5_manReaches_195 (by decide) (fun c_34 => ?_) (fun c_34 => ?_)
                      ·
                        refine lv_iconst (v := (0 : Int32)) hx hb dX5_manReaches_217 (by decide) ?_
                        have hfin : false = (mX5_manReaches mF mR tb kd ww wm wb dd) := (by rw [mX5_manReaches, if_pos c_1, if_neg c_18, if_neg c_29, if_pos c_30, if_neg c_31, if_neg c_32, if_neg c_33, if_pos c_34])
                        exact et_zret hx hb hr hlocks dX5_manReaches_218 (congrArg zI (hfin))
                      ·
                        refine lv_aload_n hx hb dX5_manReaches_198 rfl (lv_at hl 4 rfl) ?_
                        refine lv_iload_n hx hb dX5_manReaches_199 rfl (lv_at hl 5 rfl) ?_
                        refine lv_iload_n hx hb dX5_manReaches_200 rfl (lv_at hl 6 rfl) ?_
                        refine lv_iload hx hb dX5_manReaches_201 (lv_at hl 1 rfl) ?_
                        refine lv_iload hx hb dX5_manReaches_203 (lv_at hl 8 rfl) ?_
                        refine lv_iload hx hb dX5_manReaches_205 (lv_at hl 9 rfl) ?_
                        refine et_callP1 (v := .int (zI (mX5_reaches tb kd ww (mX5_manReaches_V9 mF mR ww wm wb) wb dd))) (va_runV (As := [.int kd, .int ww, .int (mX5_manReaches_V9 mF mR ww wm wb), .int wb, .int dd]) (rest := []) ⟨hx, hb, hml, hown, hts⟩ (c_X5_reaches l g md r1 r2 r3 r4 mF mR th tb bu gr mt mk mw mm mb ms ml my kd ww (mX5_manReaches_V9 mF mR ww wm wb) wb dd (by assumption) (by assumption) (et_m1_r (by first | exact et_manV7 hF hR | exact et_manV9 hF hR) (by assumption)) (by assumption)) (cwV 5 hts (W0_gV w_858 w_860 w_64 w_82 w_861) rfl rfl rfl (by decide +kernel) ⟨Nat.le_of_ble_eq_true rfl, Nat.le_of_ble_eq_true rfl⟩) (et_preV hP hC [0, 1, 2, 3, 4] rfl (ci := 5) (q0 := 0) rfl rfl) rfl rfl hl.1 rfl (lv_room (Nat.le_of_ble_eq_true rfl)) dX5_manReaches_207 ⟨Nat.le_of_ble_eq_true rfl, Nat.le_of_ble_eq_true rfl⟩) ?_
                        refine lv_if_eq (tgt := 217) hx hb dX5_manReaches_210 (by decide) (fun c_35 => ?_) (fun c_35 => ?_)
                        ·
                          refine lv_iconst (v := (0 : Int32)) hx hb dX5_manReaches_217 (by decide) ?_
                          have hfin : false = (mX5_manReaches mF mR tb kd ww wm wb dd) := (by rw [mX5_manReaches, if_pos c_1, if_neg c_18, if_neg c_29, if_pos c_30, if_neg c_31, if_neg c_32, if_neg c_33, if_neg c_34, if_pos c_35])
                          exact et_zret hx hb hr hlocks dX5_manReaches_218 (congrArg zI (hfin))
                        ·
                          refine lv_iconst (v := (1 : Int32)) hx hb dX5_manReaches_213 (by decide) ?_
                          refine lv_goto (tgt := 218) hx hb dX5_manReaches_214 (by decide) ?_
                          have hfin : true = (mX5_manReaches mF mR tb kd ww wm wb dd) := (by rw [mX5_manReaches, if_pos c_1, if_neg c_18, if_neg c_29, if_pos c_30, if_neg c_31, if_neg c_32, if_neg c_33, if_neg c_34, if_neg c_35])
                          exact et_zret hx hb hr hlocks dX5_manReaches_218 (congrArg zI (hfin))
            refine lv_iload hx hb dX5_manReaches_134 (lv_at hl 1 rfl) ?_
            refine lv_if_eq (tgt := 158) hx hb dX5_manReaches_136 (by decide) (fun c_36 => ?_) (fun c_36 => ?_)
            ·
              refine lv_iconst (v := (0 : Int32)) hx hb dX5_manReaches_158 (by decide) ?_
              have he26 : (false : Bool) = (mX5_manReaches_V10 mF mR tb kd ww wm wb dd) := (by rw [mX5_manReaches_V10, if_pos c_36])
              exact et_stki (congrArg zI he26) (hj10 ls (lv_sub hl [0, 1, 2, 3, 4, 5, 6, 7, 8, 9] rfl))
            ·
              refine lv_aload_n hx hb dX5_manReaches_139 rfl (lv_at hl 4 rfl) ?_
              refine lv_iload_n hx hb dX5_manReaches_140 rfl (lv_at hl 5 rfl) ?_
              refine lv_iload_n hx hb dX5_manReaches_141 rfl (lv_at hl 6 rfl) ?_
              refine lv_iload hx hb dX5_manReaches_142 (lv_at hl 2 rfl) ?_
              refine lv_iload hx hb dX5_manReaches_144 (lv_at hl 8 rfl) ?_
              refine lv_iload hx hb dX5_manReaches_146 (lv_at hl 9 rfl) ?_
              refine et_callP1 (v := .int (zI (mX5_reaches tb kd ww (mX5_step mF mR wm (0 : Int32) (1 : Int32)) wb dd))) (va_runV (As := [.int kd, .int ww, .int (mX5_step mF mR wm (0 : Int32) (1 : Int32)), .int wb, .int dd]) (rest := []) ⟨hx, hb, hml, hown, hts⟩ (c_X5_reaches l g md r1 r2 r3 r4 mF mR th tb bu gr mt mk mw mm mb ms ml my kd ww (mX5_step mF mR wm (0 : Int32) (1 : Int32)) wb dd (by assumption) (by assumption) (et_m1_r (et_step_r hF hR) (et_openV (by assumption))) (by assumption)) (cwV 5 hts (W0_gV w_858 w_860 w_64 w_82 w_861) rfl rfl rfl (by decide +kernel) ⟨Nat.le_of_ble_eq_true rfl, Nat.le_of_ble_eq_true rfl⟩) (et_preV hP hC [0, 1, 2, 3, 4] rfl (ci := 5) (q0 := 0) rfl rfl) rfl rfl hl.1 rfl (lv_room (Nat.le_of_ble_eq_true rfl)) dX5_manReaches_148 ⟨Nat.le_of_ble_eq_true rfl, Nat.le_of_ble_eq_true rfl⟩) ?_
              refine lv_if_eq (tgt := 158) hx hb dX5_manReaches_151 (by decide) (fun c_37 => ?_) (fun c_37 => ?_)
              ·
                refine lv_iconst (v := (0 : Int32)) hx hb dX5_manReaches_158 (by decide) ?_
                have he27 : (false : Bool) = (mX5_manReaches_V10 mF mR tb kd ww wm wb dd) := (by rw [mX5_manReaches_V10, if_neg c_36, if_pos c_37])
                exact et_stki (congrArg zI he27) (hj10 ls (lv_sub hl [0, 1, 2, 3, 4, 5, 6, 7, 8, 9] rfl))
              ·
                refine lv_iconst (v := (1 : Int32)) hx hb dX5_manReaches_154 (by decide) ?_
                refine lv_goto (tgt := 159) hx hb dX5_manReaches_155 (by decide) ?_
                have he28 : (true : Bool) = (mX5_manReaches_V10 mF mR tb kd ww wm wb dd) := (by rw [mX5_manReaches_V10, if_neg c_36, if_neg c_37])
                exact et_stki (congrArg zI he28) (hj10 ls (lv_sub hl [0, 1, 2, 3, 4, 5, 6, 7, 8, 9] rfl))
          refine lv_iload hx hb dX5_manReaches_107 (lv_at hl 0 rfl) ?_
          refine lv_if_eq (tgt := 131) hx hb dX5_manReaches_109 (by decide) (fun c_38 => ?_) (fun c_38 => ?_)
          ·
            refine lv_iconst (v := (-1 : Int32)) hx hb dX5_manReaches_131 (by decide) ?_
            have he29 : ((-1 : Int32) : Int32) = (mX5_manReaches_V9 mF mR ww wm wb) := (by rw [mX5_manReaches_V9, if_pos c_38])
            exact et_stki he29 (hj9 ls (lv_sub hl [0, 1, 2, 3, 4, 5, 6, 7, 8] rfl))
          ·
            refine lv_iload_n hx hb dX5_manReaches_112 rfl (lv_at hl 6 rfl) ?_
            refine lv_bipush (v := (8 : Int32)) hx hb dX5_manReaches_113 (by decide) ?_
            refine lv_idiv hx hb dX5_manReaches_115 (by decide) ?_
            refine lv_iconst (v := (1 : Int32)) hx hb dX5_manReaches_116 (by decide) ?_
            refine lv_icmp_ne (tgt := 131) hx hb dX5_manReaches_117 (by decide) (fun c_39 => ?_) (fun c_39 => ?_)
            ·
              refine lv_iconst (v := (-1 : Int32)) hx hb dX5_manReaches_131 (by decide) ?_
              have he30 : ((-1 : Int32) : Int32) = (mX5_manReaches_V9 mF mR ww wm wb) := (by rw [mX5_manReaches_V9, if_neg c_38, if_neg c_39])
              exact et_stki he30 (hj9 ls (lv_sub hl [0, 1, 2, 3, 4, 5, 6, 7, 8] rfl))
            ·
              refine lv_aload_n hx hb dX5_manReaches_120 rfl (lv_at hl 3 rfl) ?_
              refine lv_iload hx hb dX5_manReaches_121 (lv_at hl 1 rfl) ?_
              refine lv_iconst (v := (0 : Int32)) hx hb dX5_manReaches_123 (by decide) ?_
              refine lv_iconst (v := (1 : Int32)) hx hb dX5_manReaches_124 (by decide) ?_
              refine et_callP1 (v := .int (mX5_step mF mR (mX5_step mF mR wm (0 : Int32) (1 : Int32)) (0 : Int32) (1 : Int32))) (va_runV (As := [.int (mX5_step mF mR wm (0 : Int32) (1 : Int32)), .int (0 : Int32), .int (1 : Int32)]) (rest := []) ⟨hx, hb, hml, hown, hts⟩ (c_X5_step l g md r1 r2 r3 r4 mF mR th tb bu gr mt mk mw mm mb ms ml my (mX5_step mF mR wm (0 : Int32) (1 : Int32)) (0 : Int32) (1 : Int32)) (cwV 3 hts (W0_gV w_813 w_815 w_54 w_82 w_816) rfl rfl rfl (by decide +kernel) ⟨Nat.le_of_ble_eq_true rfl, Nat.le_of_ble_eq_true rfl⟩) (et_preV hP hC [0, 1, 2, 3, 4] rfl (ci := 5) (q0 := 0) rfl rfl) rfl rfl hl.1 rfl (lv_room (Nat.le_of_ble_eq_true rfl)) dX5_manReaches_125 ⟨Nat.le_of_ble_eq_true rfl, Nat.le_of_ble_eq_true rfl⟩) ?_
              refine lv_goto (tgt := 132) hx hb dX5_manReaches_128 (by decide) ?_
              have he31 : ((mX5_step mF mR (mX5_step mF mR wm (0 : Int32) (1 : Int32)) (0 : Int32) (1 : Int32)) : Int32) = (mX5_manReaches_V9 mF mR ww wm wb) := (by rw [mX5_manReaches_V9, if_neg c_38, if_pos c_39])
              exact et_stki he31 (hj9 ls (lv_sub hl [0, 1, 2, 3, 4, 5, 6, 7, 8] rfl))
        ·
          refine lv_iconst (v := (2 : Int32)) hx hb dX5_manReaches_61 (by decide) ?_
          refine lv_istore (lv' := [(9, .int (2 : Int32)), (8, .int (zI (mX5_manReaches_V6 mF mR ww wm wb))), (7, .int (mX5_step mF mR wm (0 : Int32) (1 : Int32))), (6, .int (0 : Int32)), (0, .ref md), (1, .int kd), (2, .int ww), (3, .int wm), (4, .int wb), (5, .int dd)]) hx hb dX5_manReaches_62 hl (by decide) rfl (fun ls hl => ?_)
          refine lv_iload hx hb dX5_manReaches_64 (lv_at hl 0 rfl) ?_
          refine lv_iconst (v := (5 : Int32)) hx hb dX5_manReaches_66 (by decide) ?_
          refine lv_icmp_gt (tgt := 104) hx hb dX5_manReaches_67 (by decide) (fun c_40 => ?_) (fun c_40 => ?_)
          · exact absurd c_40 (by decide)
          have hj11 : ∀ ls : Array Slot, lv_has ls 12 [(9, .int (2 : Int32)), (8, .int (zI (mX5_manReaches_V6 mF mR ww wm wb))), (7, .int (mX5_step mF mR wm (0 : Int32) (1 : Int32))), (6, .int (0 : Int32)), (0, .ref md), (1, .int kd), (2, .int ww), (3, .int wm), (4, .int wb), (5, .int dd)] → W p l e ({ frames := 3, cells := 0, slots := 0, locals := 75 } : Room) s m args below meth c s.heap [] 0 0 (MQ below (et_QP (some (.int (zI ((mX5_manReaches mF mR tb kd ww wm wb dd)))))) args s 0 0 et_no) (F0 m 96 ls [.int (zI (mX5_manReaches_V11 mF mR tb ww wm wb dd))]) := by
            intro ls hl
            refine lv_istore (lv' := [(6, .int (zI (mX5_manReaches_V11 mF mR tb ww wm wb dd))), (9, .int (2 : Int32)), (8, .int (zI (mX5_manReaches_V6 mF mR ww wm wb))), (7, .int (mX5_step mF mR wm (0 : Int32) (1 : Int32))), (0, .ref md), (1, .int kd), (2, .int ww), (3, .int wm), (4, .int wb), (5, .int dd)]) hx hb dX5_manReaches_96 hl (by decide) rfl (fun ls hl => ?_)
            refine lv_iinc (v := (3 : Int32)) (lv' := [(9, .int (3 : Int32)), (6, .int (zI (mX5_manReaches_V11 mF mR tb ww wm wb dd))), (8, .int (zI (mX5_manReaches_V6 mF mR ww wm wb))), (7, .int (mX5_step mF mR wm (0 : Int32) (1 : Int32))), (0, .ref md), (1, .int kd), (2, .int ww), (3, .int wm), (4, .int wb), (5, .int dd)]) hx hb dX5_manReaches_98 hl (k := 1) rfl (by decide) (by decide) rfl (fun ls hl => ?_)
            refine lv_goto (tgt := 64) hx hb dX5_manReaches_101 (by decide) ?_
            refine lv_iload hx hb dX5_manReaches_64 (lv_at hl 0 rfl) ?_
            refine lv_iconst (v := (5 : Int32)) hx hb dX5_manReaches_66 (by decide) ?_
            refine lv_icmp_gt (tgt := 104) hx hb dX5_manReaches_67 (by decide) (fun c_41 => ?_) (fun c_41 => ?_)
            · exact absurd c_41 (by decide)
            have hj12 : ∀ ls : Array Slot, lv_has ls 12 [(9, .int (3 : Int32)), (6, .int (zI (mX5_manReaches_V11 mF mR tb ww wm wb dd))), (8, .int (zI (mX5_manReaches_V6 mF mR ww wm wb))), (7, .int (mX5_step mF mR wm (0 : Int32) (1 : Int32))), (0, .ref md), (1, .int kd), (2, .int ww), (3, .int wm), (4, .int wb), (5, .int dd)] → W p l e ({ frames := 3, cells := 0, slots := 0, locals := 75 } : Room) s m args below meth c s.heap [] 0 0 (MQ below (et_QP (some (.int (zI ((mX5_manReaches mF mR tb kd ww wm wb dd)))))) args s 0 0 et_no) (F0 m 96 ls [.int (zI (mX5_manReaches_V12 mF mR tb ww wm wb dd))]) := by
              intro ls hl
              refine lv_istore (lv' := [(6, .int (zI (mX5_manReaches_V12 mF mR tb ww wm wb dd))), (9, .int (3 : Int32)), (8, .int (zI (mX5_manReaches_V6 mF mR ww wm wb))), (7, .int (mX5_step mF mR wm (0 : Int32) (1 : Int32))), (0, .ref md), (1, .int kd), (2, .int ww), (3, .int wm), (4, .int wb), (5, .int dd)]) hx hb dX5_manReaches_96 hl (by decide) rfl (fun ls hl => ?_)
              refine lv_iinc (v := (4 : Int32)) (lv' := [(9, .int (4 : Int32)), (6, .int (zI (mX5_manReaches_V12 mF mR tb ww wm wb dd))), (8, .int (zI (mX5_manReaches_V6 mF mR ww wm wb))), (7, .int (mX5_step mF mR wm (0 : Int32) (1 : Int32))), (0, .ref md), (1, .int kd), (2, .int ww), (3, .int wm), (4, .int wb), (5, .int dd)]) hx hb dX5_manReaches_98 hl (k := 1) rfl (by decide) (by decide) rfl (fun ls hl => ?_)
              refine lv_goto (tgt := 64) hx hb dX5_manReaches_101 (by decide) ?_
              refine lv_iload hx hb dX5_manReaches_64 (lv_at hl 0 rfl) ?_
              refine lv_iconst (v := (5 : Int32)) hx hb dX5_manReaches_66 (by decide) ?_
              refine lv_icmp_gt (tgt := 104) hx hb dX5_manReaches_67 (by decide) (fun c_42 => ?_) (fun c_42 => ?_)
              · exact absurd c_42 (by decide)
              have hj13 : ∀ ls : Array Slot, lv_has ls 12 [(9, .int (4 : Int32)), (6, .int (zI (mX5_manReaches_V12 mF mR tb ww wm wb dd))), (8, .int (zI (mX5_manReaches_V6 mF mR ww wm wb))), (7, .int (mX5_step mF mR wm (0 : Int32) (1 : Int32))), (0, .ref md), (1, .int kd), (2, .int ww), (3, .int wm), (4, .int wb), (5, .int dd)] → W p l e ({ frames := 3, cells := 0, slots := 0, locals := 75 } : Room) s m args below meth c s.heap [] 0 0 (MQ below (et_QP (some (.int (zI ((mX5_manReaches mF mR tb kd ww wm wb dd)))))) args s 0 0 et_no) (F0 m 96 ls [.int (zI (mX5_manReaches_V13 mF mR tb ww wm wb dd))]) := by
                intro ls hl
                refine lv_istore (lv' := [(6, .int (zI (mX5_manReaches_V13 mF mR tb ww wm wb dd))), (9, .int (4 : Int32)), (8, .int (zI (mX5_manReaches_V6 mF mR ww wm wb))), (7, .int (mX5_step mF mR wm (0 : Int32) (1 : Int32))), (0, .ref md), (1, .int kd), (2, .int ww), (3, .int wm), (4, .int wb), (5, .int dd)]) hx hb dX5_manReaches_96 hl (by decide) rfl (fun ls hl => ?_)
                refine lv_iinc (v := (5 : Int32)) (lv' := [(9, .int (5 : Int32)), (6, .int (zI (mX5_manReaches_V13 mF mR tb ww wm wb dd))), (8, .int (zI (mX5_manReaches_V6 mF mR ww wm wb))), (7, .int (mX5_step mF mR wm (0 : Int32) (1 : Int32))), (0, .ref md), (1, .int kd), (2, .int ww), (3, .int wm), (4, .int wb), (5, .int dd)]) hx hb dX5_manReaches_98 hl (k := 1) rfl (by decide) (by decide) rfl (fun ls hl => ?_)
                refine lv_goto (tgt := 64) hx hb dX5_manReaches_101 (by decide) ?_
                refine lv_iload hx hb dX5_manReaches_64 (lv_at hl 0 rfl) ?_
                refine lv_iconst (v := (5 : Int32)) hx hb dX5_manReaches_66 (by decide) ?_
                refine lv_icmp_gt (tgt := 104) hx hb dX5_manReaches_67 (by decide) (fun c_43 => ?_) (fun c_43 => ?_)
                · exact absurd c_43 (by decide)
                have hj14 : ∀ ls : Array Slot, lv_has ls 12 [(9, .int (5 : Int32)), (6, .int (zI (mX5_manReaches_V13 mF mR tb ww wm wb dd))), (8, .int (zI (mX5_manReaches_V6 mF mR ww wm wb))), (7, .int (mX5_step mF mR wm (0 : Int32) (1 : Int32))), (0, .ref md), (1, .int kd), (2, .int ww), (3, .int wm), (4, .int wb), (5, .int dd)] → W p l e ({ frames := 3, cells := 0, slots := 0, locals := 75 } : Room) s m args below meth c s.heap [] 0 0 (MQ below (et_QP (some (.int (zI ((mX5_manReaches mF mR tb kd ww wm wb dd)))))) args s 0 0 et_no) (F0 m 96 ls [.int (zI (mX5_manReaches_V14 mF mR tb ww wm wb dd))]) := by
                  intro ls hl
                  refine lv_istore (lv' := [(6, .int (zI (mX5_manReaches_V14 mF mR tb ww wm wb dd))), (9, .int (5 : Int32)), (8, .int (zI (mX5_manReaches_V6 mF mR ww wm wb))), (7, .int (mX5_step mF mR wm (0 : Int32) (1 : Int32))), (0, .ref md), (1, .int kd), (2, .int ww), (3, .int wm), (4, .int wb), (5, .int dd)]) hx hb dX5_manReaches_96 hl (by decide) rfl (fun ls hl => ?_)
                  refine lv_iinc (v := (6 : Int32)) (lv' := [(9, .int (6 : Int32)), (6, .int (zI (mX5_manReaches_V14 mF mR tb ww wm wb dd))), (8, .int (zI (mX5_manReaches_V6 mF mR ww wm wb))), (7, .int (mX5_step mF mR wm (0 : Int32) (1 : Int32))), (0, .ref md), (1, .int kd), (2, .int ww), (3, .int wm), (4, .int wb), (5, .int dd)]) hx hb dX5_manReaches_98 hl (k := 1) rfl (by decide) (by decide) rfl (fun ls hl => ?_)
                  refine lv_goto (tgt := 64) hx hb dX5_manReaches_101 (by decide) ?_
                  refine lv_iload hx hb dX5_manReaches_64 (lv_at hl 0 rfl) ?_
                  refine lv_iconst (v := (5 : Int32)) hx hb dX5_manReaches_66 (by decide) ?_
                  refine lv_icmp_gt (tgt := 104) hx hb dX5_manReaches_67 (by decide) (fun c_44 => ?_) (fun c_44 => ?_)
                  rotate_left
                  · exact absurd c_44 (by decide)
                  refine lv_iload hx hb dX5_manReaches_104 (lv_at hl 1 rfl) ?_
                  have hfin : (mX5_manReaches_V14 mF mR tb ww wm wb dd) = (mX5_manReaches mF mR tb kd ww wm wb dd) := (by rw [mX5_manReaches, if_pos c_1, if_neg c_18, if_pos c_29])
                  exact et_zret hx hb hr hlocks dX5_manReaches_106 (congrArg zI (hfin))
                refine lv_iload hx hb dX5_manReaches_70 (lv_at hl 1 rfl) ?_
                refine lv_if_ne (tgt := 91) hx hb dX5_manReaches_72 (by decide) (fun c_45 => ?_) (fun c_45 => ?_)
                ·
                  refine lv_iconst (v := (1 : Int32)) hx hb dX5_manReaches_91 (by decide) ?_
                  refine lv_goto (tgt := 96) hx hb dX5_manReaches_92 (by decide) ?_
                  have he32 : (true : Bool) = (mX5_manReaches_V14 mF mR tb ww wm wb dd) := (by rw [mX5_manReaches_V14, if_neg c_45])
                  exact et_stki (congrArg zI he32) (hj14 ls (lv_sub hl [0, 1, 2, 3, 4, 5, 6, 7, 8, 9] rfl))
                ·
                  refine lv_aload_n hx hb dX5_manReaches_75 rfl (lv_at hl 4 rfl) ?_
                  refine lv_iload hx hb dX5_manReaches_76 (lv_at hl 0 rfl) ?_
                  refine lv_iload_n hx hb dX5_manReaches_78 rfl (lv_at hl 6 rfl) ?_
                  refine lv_iload hx hb dX5_manReaches_79 (lv_at hl 3 rfl) ?_
                  refine lv_iload hx hb dX5_manReaches_81 (lv_at hl 8 rfl) ?_
                  refine lv_iload hx hb dX5_manReaches_83 (lv_at hl 9 rfl) ?_
                  refine et_callP1 (v := .int (zI (mX5_reaches tb (5 : Int32) ww (mX5_step mF mR wm (0 : Int32) (1 : Int32)) wb dd))) (va_runV (As := [.int (5 : Int32), .int ww, .int (mX5_step mF mR wm (0 : Int32) (1 : Int32)), .int wb, .int dd]) (rest := []) ⟨hx, hb, hml, hown, hts⟩ (c_X5_reaches l g md r1 r2 r3 r4 mF mR th tb bu gr mt mk mw mm mb ms ml my (5 : Int32) ww (mX5_step mF mR wm (0 : Int32) (1 : Int32)) wb dd (et_kdl (by decide)) (by assumption) (et_m1_r (et_step_r hF hR) (et_openV (by assumption))) (by assumption)) (cwV 5 hts (W0_gV w_858 w_860 w_64 w_82 w_861) rfl rfl rfl (by decide +kernel) ⟨Nat.le_of_ble_eq_true rfl, Nat.le_of_ble_eq_true rfl⟩) (et_preV hP hC [0, 1, 2, 3, 4] rfl (ci := 5) (q0 := 0) rfl rfl) rfl rfl hl.1 rfl (lv_room (Nat.le_of_ble_eq_true rfl)) dX5_manReaches_85 ⟨Nat.le_of_ble_eq_true rfl, Nat.le_of_ble_eq_true rfl⟩) ?_
                  refine lv_if_eq (tgt := 95) hx hb dX5_manReaches_88 (by decide) (fun c_46 => ?_) (fun c_46 => ?_)
                  ·
                    refine lv_iconst (v := (0 : Int32)) hx hb dX5_manReaches_95 (by decide) ?_
                    have he33 : (false : Bool) = (mX5_manReaches_V14 mF mR tb ww wm wb dd) := (by rw [mX5_manReaches_V14, if_pos c_45, if_pos c_46])
                    exact et_stki (congrArg zI he33) (hj14 ls (lv_sub hl [0, 1, 2, 3, 4, 5, 6, 7, 8, 9] rfl))
                  ·
                    refine lv_iconst (v := (1 : Int32)) hx hb dX5_manReaches_91 (by decide) ?_
                    refine lv_goto (tgt := 96) hx hb dX5_manReaches_92 (by decide) ?_
                    have he34 : (true : Bool) = (mX5_manReaches_V14 mF mR tb ww wm wb dd) := (by rw [mX5_manReaches_V14, if_pos c_45, if_neg c_46])
                    exact et_stki (congrArg zI he34) (hj14 ls (lv_sub hl [0, 1, 2, 3, 4, 5, 6, 7, 8, 9] rfl))
              refine lv_iload hx hb dX5_manReaches_70 (lv_at hl 1 rfl) ?_
              refine lv_if_ne (tgt := 91) hx hb dX5_manReaches_72 (by decide) (fun c_47 => ?_) (fun c_47 => ?_)
              ·
                refine lv_iconst (v := (1 : Int32)) hx hb dX5_manReaches_91 (by decide) ?_
                refine lv_goto (tgt := 96) hx hb dX5_manReaches_92 (by decide) ?_
                have he35 : (true : Bool) = (mX5_manReaches_V13 mF mR tb ww wm wb dd) := (by rw [mX5_manReaches_V13, if_neg c_47])
                exact et_stki (congrArg zI he35) (hj13 ls (lv_sub hl [0, 1, 2, 3, 4, 5, 6, 7, 8, 9] rfl))
              ·
                refine lv_aload_n hx hb dX5_manReaches_75 rfl (lv_at hl 4 rfl) ?_
                refine lv_iload hx hb dX5_manReaches_76 (lv_at hl 0 rfl) ?_
                refine lv_iload_n hx hb dX5_manReaches_78 rfl (lv_at hl 6 rfl) ?_
                refine lv_iload hx hb dX5_manReaches_79 (lv_at hl 3 rfl) ?_
                refine lv_iload hx hb dX5_manReaches_81 (lv_at hl 8 rfl) ?_
                refine lv_iload hx hb dX5_manReaches_83 (lv_at hl 9 rfl) ?_
                refine et_callP1 (v := .int (zI (mX5_reaches tb (4 : Int32) ww (mX5_step mF mR wm (0 : Int32) (1 : Int32)) wb dd))) (va_runV (As := [.int (4 : Int32), .int ww, .int (mX5_step mF mR wm (0 : Int32) (1 : Int32)), .int wb, .int dd]) (rest := []) ⟨hx, hb, hml, hown, hts⟩ (c_X5_reaches l g md r1 r2 r3 r4 mF mR th tb bu gr mt mk mw mm mb ms ml my (4 : Int32) ww (mX5_step mF mR wm (0 : Int32) (1 : Int32)) wb dd (et_kdl (by decide)) (by assumption) (et_m1_r (et_step_r hF hR) (et_openV (by assumption))) (by assumption)) (cwV 5 hts (W0_gV w_858 w_860 w_64 w_82 w_861) rfl rfl rfl (by decide +kernel) ⟨Nat.le_of_ble_eq_true rfl, Nat.le_of_ble_eq_true rfl⟩) (et_preV hP hC [0, 1, 2, 3, 4] rfl (ci := 5) (q0 := 0) rfl rfl) rfl rfl hl.1 rfl (lv_room (Nat.le_of_ble_eq_true rfl)) dX5_manReaches_85 ⟨Nat.le_of_ble_eq_true rfl, Nat.le_of_ble_eq_true rfl⟩) ?_
                refine lv_if_eq (tgt := 95) hx hb dX5_manReaches_88 (by decide) (fun c_48 => ?_) (fun c_48 => ?_)
                ·
                  refine lv_iconst (v := (0 : Int32)) hx hb dX5_manReaches_95 (by decide) ?_
                  have he36 : (false : Bool) = (mX5_manReaches_V13 mF mR tb ww wm wb dd) := (by rw [mX5_manReaches_V13, if_pos c_47, if_pos c_48])
                  exact et_stki (congrArg zI he36) (hj13 ls (lv_sub hl [0, 1, 2, 3, 4, 5, 6, 7, 8, 9] rfl))
                ·
                  refine lv_iconst (v := (1 : Int32)) hx hb dX5_manReaches_91 (by decide) ?_
                  refine lv_goto (tgt := 96) hx hb dX5_manReaches_92 (by decide) ?_
                  have he37 : (true : Bool) = (mX5_manReaches_V13 mF mR tb ww wm wb dd) := (by rw [mX5_manReaches_V13, if_pos c_47, if_neg c_48])
                  exact et_stki (congrArg zI he37) (hj13 ls (lv_sub hl [0, 1, 2, 3, 4, 5, 6, 7, 8, 9] rfl))
            refine lv_iload hx hb dX5_manReaches_70 (lv_at hl 1 rfl) ?_
            refine lv_if_ne (tgt := 91) hx hb dX5_manReaches_72 (by decide) (fun c_49 => ?_) (fun c_49 => ?_)
            ·
              refine lv_iconst (v := (1 : Int32)) hx hb dX5_manReaches_91 (by decide) ?_
              refine lv_goto (tgt := 96) hx hb dX5_manReaches_92 (by decide) ?_
              have he38 : (true : Bool) = (mX5_manReaches_V12 mF mR tb ww wm wb dd) := (by rw [mX5_manReaches_V12, if_neg c_49])
              exact et_stki (congrArg zI he38) (hj12 ls (lv_sub hl [0, 1, 2, 3, 4, 5, 6, 7, 8, 9] rfl))
            ·
              refine lv_aload_n hx hb dX5_manReaches_75 rfl (lv_at hl 4 rfl) ?_
              refine lv_iload hx hb dX5_manReaches_76 (lv_at hl 0 rfl) ?_
              refine lv_iload_n hx hb dX5_manReaches_78 rfl (lv_at hl 6 rfl) ?_
              refine lv_iload hx hb dX5_manReaches_79 (lv_at hl 3 rfl) ?_
              refine lv_iload hx hb dX5_manReaches_81 (lv_at hl 8 rfl) ?_
              refine lv_iload hx hb dX5_manReaches_83 (lv_at hl 9 rfl) ?_
              refine et_callP1 (v := .int (zI (mX5_reaches tb (3 : Int32) ww (mX5_step mF mR wm (0 : Int32) (1 : Int32)) wb dd))) (va_runV (As := [.int (3 : Int32), .int ww, .int (mX5_step mF mR wm (0 : Int32) (1 : Int32)), .int wb, .int dd]) (rest := []) ⟨hx, hb, hml, hown, hts⟩ (c_X5_reaches l g md r1 r2 r3 r4 mF mR th tb bu gr mt mk mw mm mb ms ml my (3 : Int32) ww (mX5_step mF mR wm (0 : Int32) (1 : Int32)) wb dd (et_kdl (by decide)) (by assumption) (et_m1_r (et_step_r hF hR) (et_openV (by assumption))) (by assumption)) (cwV 5 hts (W0_gV w_858 w_860 w_64 w_82 w_861) rfl rfl rfl (by decide +kernel) ⟨Nat.le_of_ble_eq_true rfl, Nat.le_of_ble_eq_true rfl⟩) (et_preV hP hC [0, 1, 2, 3, 4] rfl (ci := 5) (q0 := 0) rfl rfl) rfl rfl hl.1 rfl (lv_room (Nat.le_of_ble_eq_true rfl)) dX5_manReaches_85 ⟨Nat.le_of_ble_eq_true rfl, Nat.le_of_ble_eq_true rfl⟩) ?_
              refine lv_if_eq (tgt := 95) hx hb dX5_manReaches_88 (by decide) (fun c_50 => ?_) (fun c_50 => ?_)
              ·
                refine lv_iconst (v := (0 : Int32)) hx hb dX5_manReaches_95 (by decide) ?_
                have he39 : (false : Bool) = (mX5_manReaches_V12 mF mR tb ww wm wb dd) := (by rw [mX5_manReaches_V12, if_pos c_49, if_pos c_50])
                exact et_stki (congrArg zI he39) (hj12 ls (lv_sub hl [0, 1, 2, 3, 4, 5, 6, 7, 8, 9] rfl))
              ·
                refine lv_iconst (v := (1 : Int32)) hx hb dX5_manReaches_91 (by decide) ?_
                refine lv_goto (tgt := 96) hx hb dX5_manReaches_92 (by decide) ?_
                have he40 : (true : Bool) = (mX5_manReaches_V12 mF mR tb ww wm wb dd) := (by rw [mX5_manReaches_V12, if_pos c_49, if_neg c_50])
                exact et_stki (congrArg zI he40) (hj12 ls (lv_sub hl [0, 1, 2, 3, 4, 5, 6, 7, 8, 9] rfl))
          refine lv_iload hx hb dX5_manReaches_70 (lv_at hl 3 rfl) ?_
          refine lv_if_ne (tgt := 91) hx hb dX5_manReaches_72 (by decide) (fun c_51 => ?_) (fun c_51 => ?_)
          · exact absurd c_51 (by decide)
          refine lv_aload_n hx hb dX5_manReaches_75 rfl (lv_at hl 4 rfl) ?_
          refine lv_iload hx hb dX5_manReaches_76 (lv_at hl 0 rfl) ?_
          refine lv_iload_n hx hb dX5_manReaches_78 rfl (lv_at hl 6 rfl) ?_
          refine lv_iload hx hb dX5_manReaches_79 (lv_at hl 2 rfl) ?_
          refine lv_iload hx hb dX5_manReaches_81 (lv_at hl 8 rfl) ?_
          refine lv_iload hx hb dX5_manReaches_83 (lv_at hl 9 rfl) ?_
          refine et_callP1 (v := .int (zI (mX5_reaches tb (2 : Int32) ww (mX5_step mF mR wm (0 : Int32) (1 : Int32)) wb dd))) (va_runV (As := [.int (2 : Int32), .int ww, .int (mX5_step mF mR wm (0 : Int32) (1 : Int32)), .int wb, .int dd]) (rest := []) ⟨hx, hb, hml, hown, hts⟩ (c_X5_reaches l g md r1 r2 r3 r4 mF mR th tb bu gr mt mk mw mm mb ms ml my (2 : Int32) ww (mX5_step mF mR wm (0 : Int32) (1 : Int32)) wb dd (et_kdl (by decide)) (by assumption) (et_m1_r (et_step_r hF hR) (et_openV (by assumption))) (by assumption)) (cwV 5 hts (W0_gV w_858 w_860 w_64 w_82 w_861) rfl rfl rfl (by decide +kernel) ⟨Nat.le_of_ble_eq_true rfl, Nat.le_of_ble_eq_true rfl⟩) (et_preV hP hC [0, 1, 2, 3, 4] rfl (ci := 5) (q0 := 0) rfl rfl) rfl rfl hl.1 rfl (lv_room (Nat.le_of_ble_eq_true rfl)) dX5_manReaches_85 ⟨Nat.le_of_ble_eq_true rfl, Nat.le_of_ble_eq_true rfl⟩) ?_
          refine lv_if_eq (tgt := 95) hx hb dX5_manReaches_88 (by decide) (fun c_52 => ?_) (fun c_52 => ?_)
          ·
            refine lv_iconst (v := (0 : Int32)) hx hb dX5_manReaches_95 (by decide) ?_
            have he41 : (false : Bool) = (mX5_manReaches_V11 mF mR tb ww wm wb dd) := (by rw [mX5_manReaches_V11, if_pos c_52])
            exact et_stki (congrArg zI he41) (hj11 ls (lv_sub hl [0, 1, 2, 3, 4, 5, 6, 7, 8, 9] rfl))
          ·
            refine lv_iconst (v := (1 : Int32)) hx hb dX5_manReaches_91 (by decide) ?_
            refine lv_goto (tgt := 96) hx hb dX5_manReaches_92 (by decide) ?_
            have he42 : (true : Bool) = (mX5_manReaches_V11 mF mR tb ww wm wb dd) := (by rw [mX5_manReaches_V11, if_neg c_52])
            exact et_stki (congrArg zI he42) (hj11 ls (lv_sub hl [0, 1, 2, 3, 4, 5, 6, 7, 8, 9] rfl))
    refine lv_iload hx hb dX5_manReaches_17 (lv_at hl 0 rfl) ?_
    refine lv_if_lt (tgt := 39) hx hb dX5_manReaches_19 (by decide) (fun c_53 => ?_) (fun c_53 => ?_)
    ·
      refine lv_iconst (v := (0 : Int32)) hx hb dX5_manReaches_39 (by decide) ?_
      have he43 : (false : Bool) = (mX5_manReaches_V6 mF mR ww wm wb) := (by rw [mX5_manReaches_V6, if_pos c_53])
      exact et_stki (congrArg zI he43) (hj6 ls (lv_sub hl [0, 1, 2, 3, 4, 5, 6, 7] rfl))
    ·
      refine lv_iload hx hb dX5_manReaches_22 (lv_at hl 0 rfl) ?_
      refine lv_iload_n hx hb dX5_manReaches_24 rfl (lv_at hl 4 rfl) ?_
      refine lv_icmp_eq (tgt := 39) hx hb dX5_manReaches_25 (by decide) (fun c_54 => ?_) (fun c_54 => ?_)
      ·
        refine lv_iconst (v := (0 : Int32)) hx hb dX5_manReaches_39 (by decide) ?_
        have he44 : (false : Bool) = (mX5_manReaches_V6 mF mR ww wm wb) := (by rw [mX5_manReaches_V6, if_neg c_53, if_pos c_54])
        exact et_stki (congrArg zI he44) (hj6 ls (lv_sub hl [0, 1, 2, 3, 4, 5, 6, 7] rfl))
      ·
        refine lv_iload hx hb dX5_manReaches_28 (lv_at hl 0 rfl) ?_
        refine lv_iload hx hb dX5_manReaches_30 (lv_at hl 6 rfl) ?_
        refine lv_icmp_eq (tgt := 39) hx hb dX5_manReaches_32 (by decide) (fun c_55 => ?_) (fun c_55 => ?_)
        ·
          refine lv_iconst (v := (0 : Int32)) hx hb dX5_manReaches_39 (by decide) ?_
          have he45 : (false : Bool) = (mX5_manReaches_V6 mF mR ww wm wb) := (by rw [mX5_manReaches_V6, if_neg c_53, if_neg c_54, if_pos c_55])
          exact et_stki (congrArg zI he45) (hj6 ls (lv_sub hl [0, 1, 2, 3, 4, 5, 6, 7] rfl))
        ·
          refine lv_iconst (v := (1 : Int32)) hx hb dX5_manReaches_35 (by decide) ?_
          refine lv_goto (tgt := 40) hx hb dX5_manReaches_36 (by decide) ?_
          have he46 : (true : Bool) = (mX5_manReaches_V6 mF mR ww wm wb) := (by rw [mX5_manReaches_V6, if_neg c_53, if_neg c_54, if_neg c_55])
          exact et_stki (congrArg zI he46) (hj6 ls (lv_sub hl [0, 1, 2, 3, 4, 5, 6, 7] rfl))

def mX5_pass_V1 (dd : Int32) : Int32 :=
  if (dd - dd / (2 : Int32) * (2 : Int32)) = (1 : Int32) then
    (0 : Int32)
  else
    (1 : Int32)
def mX5_pass_V3 (dd : Int32) : Bool :=
  if dd = 0 then
    true
  else
    false
def mX5_pass_V2 (mF : Int32) (mR : Int32) (kd : Int32) (dd : Int32) (i3 : Nat) (tb3 : Nat → Int64) (i2 : Nat) (i1 : Nat) : Bool :=
  if (mX5_pass_V1 dd) = (1 : Int32) then
    (mX5_isLost mF mR tb3 kd (nI i1) (nI i2) (nI i3) (mX5_pass_V3 dd))
  else
    if (zI (mX5_kingReaches mF mR tb3 kd (nI i1) (nI i2) (nI i3) (dd - (1 : Int32)))) = 0 then
      if (zI (mX5_manReaches mF mR tb3 kd (nI i1) (nI i2) (nI i3) (dd - (1 : Int32)))) = 0 then
        false
      else
        true
    else
      true
def mX5_pass_L3 (mF : Int32) (mR : Int32) (kd : Int32) (dd : Int32) (i2 : Nat) (i1 : Nat) : Nat → Nat → Bool → (Nat → Int64) → Bool × (Nat → Int64)
  | 0, i3, some3, tb3 =>
    (some3, tb3)
  | k3 + 1, i3, some3, tb3 =>
    if (zI (mX5_isSquare mF mR (nI i2))) = 0 then
      (some3, tb3)
    else
      if (nI i2) = (nI i1) then
        (some3, tb3)
      else
        if (zI (mX5_isPosition mF mR kd (nI i1) (nI i2) (nI i3) (mX5_pass_V1 dd))) = 0 then
          mX5_pass_L3 mF mR kd dd i2 i1 k3 (i3 + 1) some3 tb3
        else
          if 0 ≤ (mX5_known tb3 kd (mX5_pass_V1 dd) (nI i1) (nI i2) (nI i3)) then
            mX5_pass_L3 mF mR kd dd i2 i1 k3 (i3 + 1) some3 tb3
          else
            if (zI (mX5_pass_V2 mF mR kd dd i3 tb3 i2 i1)) = 0 then
              mX5_pass_L3 mF mR kd dd i2 i1 k3 (i3 + 1) some3 tb3
            else
              mX5_pass_L3 mF mR kd dd i2 i1 k3 (i3 + 1) true (mX5_note tb3 kd (mX5_pass_V1 dd) (nI i1) (nI i2) (nI i3) dd)
def mX5_pass_L2 (mF : Int32) (mR : Int32) (kd : Int32) (dd : Int32) (i1 : Nat) : Nat → Nat → Bool → (Nat → Int64) → Bool × (Nat → Int64)
  | 0, i2, some2, tb2 =>
    (some2, tb2)
  | k2 + 1, i2, some2, tb2 =>
    if (zI (mX5_isSquare mF mR (nI i1))) = 0 then
      (some2, tb2)
    else
      mX5_pass_L2 mF mR kd dd i1 k2 (i2 + 1) ((mX5_pass_L3 mF mR kd dd i2 i1 64 0 some2 tb2).1) ((mX5_pass_L3 mF mR kd dd i2 i1 64 0 some2 tb2).2)
def mX5_pass_L1 (mF : Int32) (mR : Int32) (kd : Int32) (dd : Int32) : Nat → Nat → Bool → (Nat → Int64) → Bool × (Nat → Int64)
  | 0, i1, some1, tb1 =>
    (some1, tb1)
  | k1 + 1, i1, some1, tb1 =>
    mX5_pass_L1 mF mR kd dd k1 (i1 + 1) ((mX5_pass_L2 mF mR kd dd i1 64 0 some1 tb1).1) ((mX5_pass_L2 mF mR kd dd i1 64 0 some1 tb1).2)
def mX5_pass (mF : Int32) (mR : Int32) (tb : Nat → Int64) (kd : Int32) (dd : Int32) : Bool × (Nat → Int64) :=
  (((mX5_pass_L1 mF mR kd dd 64 0 false tb).1), (mX5_pass_L1 mF mR kd dd 64 0 false tb).2)
theorem et_passV {dd : Int32} : et_sd (mX5_pass_V1 dd) := by
  unfold mX5_pass_V1
  split
  · exact Or.inl rfl
  · exact Or.inr rfl
set_option maxHeartbeats 4000000 in
set_option maxRecDepth 100000 in
theorem c_X5_pass (l : Launch) (g : et_G) (md : Nat) (r1 : Nat) (r2 : Nat) (r3 : Nat) (r4 : Nat) (mF : Int32) (mR : Int32) (th : Int32) (tb : Nat → Int64) (bu : Nat → Int32) (gr : Nat → Int32) (mt : Bool) (mk : Int32) (mw : Int32) (mm : Int32) (mb : Int32) (ms : Int32) (ml : Nat → Int32) (my : Int32) (kd : Int32) (dd : Int32) (hF : et_b8 mF) (hR : et_b8 mR) (hkd : et_kd kd) : Met l yX5_pass (Cond.code yX5_pass cX5_pass 9 (some (.boolean)) :: W0) ({ frames := 4, cells := 0, slots := 0, locals := 109 } : Room) (et_PcW g ([(md, .inr (5, [.int th, .int mF, .int mR, .ref r1, .ref r2, .ref r3, .int (zI mt), .int mk, .int mw, .int mm, .int mb, .int ms, .ref r4, .int my])), (r1, .inl (gJ g, 327680, .inr (.inl tb))), (r2, .inl (gZ g, 6, .inl bu)), (r3, .inl (gI g, 6, .inl gr)), (r4, .inl (gI g, 64, .inl ml))]) [.ref md, .int kd, .int dd]) (et_QW g ([(md, .inr (5, [.int th, .int mF, .int mR, .ref r1, .ref r2, .ref r3, .int (zI mt), .int mk, .int mw, .int mm, .int mb, .int ms, .ref r4, .int my])), (r1, .inl (gJ g, 327680, .inr (.inl tb))), (r2, .inl (gZ g, 6, .inl bu)), (r3, .inl (gI g, 6, .inl gr)), (r4, .inl (gI g, 64, .inl ml))]) ([(md, .inr (5, [.int th, .int mF, .int mR, .ref r1, .ref r2, .ref r3, .int (zI mt), .int mk, .int mw, .int mm, .int mb, .int ms, .ref r4, .int my])), (r1, .inl (gJ g, 327680, .inr (.inl ((mX5_pass mF mR tb kd dd).2)))), (r2, .inl (gZ g, 6, .inl bu)), (r3, .inl (gI g, 6, .inl gr)), (r4, .inl (gI g, 64, .inl ml))]) (some (.int (zI ((mX5_pass mF mR tb kd dd).1))))) 0 0 (et_ad ([(md, .inr (5, [.int th, .int mF, .int mR, .ref r1, .ref r2, .ref r3, .int (zI mt), .int mk, .int mw, .int mm, .int mb, .int ms, .ref r4, .int my])), (r1, .inl (gJ g, 327680, .inr (.inl tb))), (r2, .inl (gZ g, 6, .inl bu)), (r3, .inl (gI g, 6, .inl gr)), (r4, .inl (gI g, 64, .inl ml))])) := by
  refine et_startW (by decide) rfl (Nat.le_of_ble_eq_true rfl) ?_
  intro p e s m args below meth c hx hb hr hts0 hown hlocks hml hP hC hD hS ls hl
  have hts : ∀ w ∈ W0, w.before args s = true := fun w h => hts0 w (List.mem_cons_of_mem _ h)
  have hown : s.vm.findClass RX5 = some m.cls := hown
  have hl : lv_has ls 9 [(0, .ref md), (1, .int kd), (2, .int dd)] := hl
  have hj1 : ∀ ls : Array Slot, lv_has ls 9 [(0, .ref md), (1, .int kd), (2, .int dd)] → W p l e ({ frames := 4, cells := 0, slots := 0, locals := 109 } : Room) s m args below meth c s.heap [] 0 0 (MQ below (et_QW g ([(md, .inr (5, [.int th, .int mF, .int mR, .ref r1, .ref r2, .ref r3, .int (zI mt), .int mk, .int mw, .int mm, .int mb, .int ms, .ref r4, .int my])), (r1, .inl (gJ g, 327680, .inr (.inl tb))), (r2, .inl (gZ g, 6, .inl bu)), (r3, .inl (gI g, 6, .inl gr)), (r4, .inl (gI g, 64, .inl ml))]) ([(md, .inr (5, [.int th, .int mF, .int mR, .ref r1, .ref r2, .ref r3, .int (zI mt), .int mk, .int mw, .int mm, .int mb, .int ms, .ref r4, .int my])), (r1, .inl (gJ g, 327680, .inr (.inl ((mX5_pass mF mR tb kd dd).2)))), (r2, .inl (gZ g, 6, .inl bu)), (r3, .inl (gI g, 6, .inl gr)), (r4, .inl (gI g, 64, .inl ml))]) (some (.int (zI ((mX5_pass mF mR tb kd dd).1))))) args s 0 0 (et_ad ([(md, .inr (5, [.int th, .int mF, .int mR, .ref r1, .ref r2, .ref r3, .int (zI mt), .int mk, .int mw, .int mm, .int mb, .int ms, .ref r4, .int my])), (r1, .inl (gJ g, 327680, .inr (.inl tb))), (r2, .inl (gZ g, 6, .inl bu)), (r3, .inl (gI g, 6, .inl gr)), (r4, .inl (gI g, 64, .inl ml))]))) (F0 m 12 ls [.int (mX5_pass_V1 dd)]) := by
    intro ls hl
    refine lv_istore_n (lv' := [(3, .int (mX5_pass_V1 dd)), (0, .ref md), (1, .int kd), (2, .int dd)]) hx hb dX5_pass_12 rfl hl (by decide) rfl (fun ls hl => ?_)
    refine lv_iconst (v := (0 : Int32)) hx hb dX5_pass_13 (by decide) ?_
    refine lv_istore (lv' := [(4, .int (0 : Int32)), (3, .int (mX5_pass_V1 dd)), (0, .ref md), (1, .int kd), (2, .int dd)]) hx hb dX5_pass_14 hl (by decide) rfl (fun ls hl => ?_)
    refine lv_iconst (v := (0 : Int32)) hx hb dX5_pass_16 (by decide) ?_
    refine lv_istore (lv' := [(5, .int (0 : Int32)), (4, .int (0 : Int32)), (3, .int (mX5_pass_V1 dd)), (0, .ref md), (1, .int kd), (2, .int dd)]) hx hb dX5_pass_17 hl (by decide) rfl (fun ls hl => ?_)
    have hx1 : ∀ (H : Heap) (locs : List Loc), va_P (gD g) vwCl ([(md, .inr (5, [.int th, .int mF, .int mR, .ref r1, .ref r2, .ref r3, .int (zI mt), .int mk, .int mw, .int mm, .int mb, .int ms, .ref r4, .int my])), (r1, .inl (gJ g, 327680, .inr (.inl ((mX5_pass_L1 mF mR kd dd 64 0 false tb).2)))), (r2, .inl (gZ g, 6, .inl bu)), (r3, .inl (gI g, 6, .inl gr)), (r4, .inl (gI g, 64, .inl ml))]) H → va_D (et_ad ([(md, .inr (5, [.int th, .int mF, .int mR, .ref r1, .ref r2, .ref r3, .int (zI mt), .int mk, .int mw, .int mm, .int mb, .int ms, .ref r4, .int my])), (r1, .inl (gJ g, 327680, .inr (.inl tb))), (r2, .inl (gZ g, 6, .inl bu)), (r3, .inl (gI g, 6, .inl gr)), (r4, .inl (gI g, 64, .inl ml))])) ([(md, .inr (5, [.int th, .int mF, .int mR, .ref r1, .ref r2, .ref r3, .int (zI mt), .int mk, .int mw, .int mm, .int mb, .int ms, .ref r4, .int my])), (r1, .inl (gJ g, 327680, .inr (.inl ((mX5_pass_L1 mF mR kd dd 64 0 false tb).2)))), (r2, .inl (gZ g, 6, .inl bu)), (r3, .inl (gI g, 6, .inl gr)), (r4, .inl (gI g, 64, .inl ml))]) → va_S (et_ad ([(md, .inr (5, [.int th, .int mF, .int mR, .ref r1, .ref r2, .ref r3, .int (zI mt), .int mk, .int mw, .int mm, .int mb, .int ms, .ref r4, .int my])), (r1, .inl (gJ g, 327680, .inr (.inl tb))), (r2, .inl (gZ g, 6, .inl bu)), (r3, .inl (gI g, 6, .inl gr)), (r4, .inl (gI g, 64, .inl ml))])) s.heap H locs → ∀ ls : Array Slot, lv_has ls 9 [(4, .int (zI ((mX5_pass_L1 mF mR kd dd 64 0 false tb).1))), (3, .int (mX5_pass_V1 dd)), (0, .ref md), (1, .int kd), (2, .int dd)] → W p l e ({ frames := 4, cells := 0, slots := 0, locals := 109 } : Room) s m args below meth c H locs 0 0 (MQ below (et_QW g ([(md, .inr (5, [.int th, .int mF, .int mR, .ref r1, .ref r2, .ref r3, .int (zI mt), .int mk, .int mw, .int mm, .int mb, .int ms, .ref r4, .int my])), (r1, .inl (gJ g, 327680, .inr (.inl tb))), (r2, .inl (gZ g, 6, .inl bu)), (r3, .inl (gI g, 6, .inl gr)), (r4, .inl (gI g, 64, .inl ml))]) ([(md, .inr (5, [.int th, .int mF, .int mR, .ref r1, .ref r2, .ref r3, .int (zI mt), .int mk, .int mw, .int mm, .int mb, .int ms, .ref r4, .int my])), (r1, .inl (gJ g, 327680, .inr (.inl ((mX5_pass mF mR tb kd dd).2)))), (r2, .inl (gZ g, 6, .inl bu)), (r3, .inl (gI g, 6, .inl gr)), (r4, .inl (gI g, 64, .inl ml))]) (some (.int (zI ((mX5_pass mF mR tb kd dd).1))))) args s 0 0 (et_ad ([(md, .inr (5, [.int th, .int mF, .int mR, .ref r1, .ref r2, .ref r3, .int (zI mt), .int mk, .int mw, .int mm, .int mb, .int ms, .ref r4, .int my])), (r1, .inl (gJ g, 327680, .inr (.inl tb))), (r2, .inl (gZ g, 6, .inl bu)), (r3, .inl (gI g, 6, .inl gr)), (r4, .inl (gI g, 64, .inl ml))]))) (F0 m 209 ls []) := by
      intro H locs hP hD hS ls hl
      refine lv_iload hx hb dX5_pass_209 (lv_at hl 0 rfl) ?_
      have hfin : (((mX5_pass_L1 mF mR kd dd 64 0 false tb).1), (mX5_pass_L1 mF mR kd dd 64 0 false tb).2) = (mX5_pass mF mR tb kd dd) := (by rw [mX5_pass])
      exact et_zretW hx hb hr hlocks dX5_pass_211 hP hS (by rw [← hfin]) (congrArg zI (congrArg Prod.fst hfin))
    have hL1 : ∀ (k1 i1 : Nat) (some1 : Bool) (tb1 : Nat → Int64), i1 + k1 = 64 → mX5_pass_L1 mF mR kd dd k1 i1 some1 tb1 = (mX5_pass_L1 mF mR kd dd 64 0 false tb) → ∀ (H : Heap) (locs : List Loc), va_P (gD g) vwCl ([(md, .inr (5, [.int th, .int mF, .int mR, .ref r1, .ref r2, .ref r3, .int (zI mt), .int mk, .int mw, .int mm, .int mb, .int ms, .ref r4, .int my])), (r1, .inl (gJ g, 327680, .inr (.inl tb1))), (r2, .inl (gZ g, 6, .inl bu)), (r3, .inl (gI g, 6, .inl gr)), (r4, .inl (gI g, 64, .inl ml))]) H → va_D (et_ad ([(md, .inr (5, [.int th, .int mF, .int mR, .ref r1, .ref r2, .ref r3, .int (zI mt), .int mk, .int mw, .int mm, .int mb, .int ms, .ref r4, .int my])), (r1, .inl (gJ g, 327680, .inr (.inl tb))), (r2, .inl (gZ g, 6, .inl bu)), (r3, .inl (gI g, 6, .inl gr)), (r4, .inl (gI g, 64, .inl ml))])) ([(md, .inr (5, [.int th, .int mF, .int mR, .ref r1, .ref r2, .ref r3, .int (zI mt), .int mk, .int mw, .int mm, .int mb, .int ms, .ref r4, .int my])), (r1, .inl (gJ g, 327680, .inr (.inl tb1))), (r2, .inl (gZ g, 6, .inl bu)), (r3, .inl (gI g, 6, .inl gr)), (r4, .inl (gI g, 64, .inl ml))]) → va_S (et_ad ([(md, .inr (5, [.int th, .int mF, .int mR, .ref r1, .ref r2, .ref r3, .int (zI mt), .int mk, .int mw, .int mm, .int mb, .int ms, .ref r4, .int my])), (r1, .inl (gJ g, 327680, .inr (.inl tb))), (r2, .inl (gZ g, 6, .inl bu)), (r3, .inl (gI g, 6, .inl gr)), (r4, .inl (gI g, 64, .inl ml))])) s.heap H locs → ∀ ls : Array Slot, lv_has ls 9 [(5, .int (nI i1)), (4, .int (zI some1)), (3, .int (mX5_pass_V1 dd)), (0, .ref md), (1, .int kd), (2, .int dd)] → W p l e ({ frames := 4, cells := 0, slots := 0, locals := 109 } : Room) s m args below meth c H locs 0 0 (MQ below (et_QW g ([(md, .inr (5, [.int th, .int mF, .int mR, .ref r1, .ref r2, .ref r3, .int (zI mt), .int mk, .int mw, .int mm, .int mb, .int ms, .ref r4, .int my])), (r1, .inl (gJ g, 327680, .inr (.inl tb))), (r2, .inl (gZ g, 6, .inl bu)), (r3, .inl (gI g, 6, .inl gr)), (r4, .inl (gI g, 64, .inl ml))]) ([(md, .inr (5, [.int th, .int mF, .int mR, .ref r1, .ref r2, .ref r3, .int (zI mt), .int mk, .int mw, .int mm, .int mb, .int ms, .ref r4, .int my])), (r1, .inl (gJ g, 327680, .inr (.inl ((mX5_pass mF mR tb kd dd).2)))), (r2, .inl (gZ g, 6, .inl bu)), (r3, .inl (gI g, 6, .inl gr)), (r4, .inl (gI g, 64, .inl ml))]) (some (.int (zI ((mX5_pass mF mR tb kd dd).1))))) args s 0 0 (et_ad ([(md, .inr (5, [.int th, .int mF, .int mR, .ref r1, .ref r2, .ref r3, .int (zI mt), .int mk, .int mw, .int mm, .int mb, .int ms, .ref r4, .int my])), (r1, .inl (gJ g, 327680, .inr (.inl tb))), (r2, .inl (gZ g, 6, .inl bu)), (r3, .inl (gI g, 6, .inl gr)), (r4, .inl (gI g, 64, .inl ml))]))) (F0 m 19 ls []) := by
      intro k1
      induction k1 with
      | zero =>
        intro i1 some1 tb1 hik  hm H locs hP hD hS ls hl
        refine lv_iload hx hb dX5_pass_19 (lv_at hl 0 rfl) ?_
        refine lv_bipush (v := (64 : Int32)) hx hb dX5_pass_21 (by decide) ?_
        refine lv_icmp_ge (tgt := 209) hx hb dX5_pass_23 (by decide) (fun c_1 => ?_) (fun c_1 => ?_)
        rotate_left
        · exact absurd (et_le (a := 64) (b := i1) (by omega) (by omega)) c_1
        have hq1 : (some1, tb1) = (mX5_pass_L1 mF mR kd dd 64 0 false tb) := (by rw [mX5_pass_L1] : mX5_pass_L1 mF mR kd dd 0 i1 some1 tb1 = (some1, tb1)).symm.trans hm
        have hq1_0 : some1 = (mX5_pass_L1 mF mR kd dd 64 0 false tb).1 := congrArg (fun z => z.1) hq1
        have hq1_1 : tb1 = (mX5_pass_L1 mF mR kd dd 64 0 false tb).2 := congrArg (fun z => z.2) hq1
        exact hx1 _ _ (by rw [← hq1_1]; exact hP) (by rw [← hq1_1]; exact hD) hS ls (by rw [← hq1_0]; exact lv_sub hl [1, 2, 3, 4, 5] rfl)
      | succ k1 ih1 =>
        intro i1 some1 tb1 hik  hm H locs hP hD hS ls hl
        refine lv_iload hx hb dX5_pass_19 (lv_at hl 0 rfl) ?_
        refine lv_bipush (v := (64 : Int32)) hx hb dX5_pass_21 (by decide) ?_
        refine lv_icmp_ge (tgt := 209) hx hb dX5_pass_23 (by decide) (fun c_2 => ?_) (fun c_2 => ?_)
        · exact absurd c_2 (et_ge (a := i1) (b := 64) (by omega) (by omega))
        refine lv_iconst (v := (0 : Int32)) hx hb dX5_pass_26 (by decide) ?_
        refine lv_istore (lv' := [(6, .int (0 : Int32)), (5, .int (nI i1)), (4, .int (zI some1)), (3, .int (mX5_pass_V1 dd)), (0, .ref md), (1, .int kd), (2, .int dd)]) hx hb dX5_pass_27 hl (by decide) rfl (fun ls hl => ?_)
        have hx2 : ∀ (H : Heap) (locs : List Loc), va_P (gD g) vwCl ([(md, .inr (5, [.int th, .int mF, .int mR, .ref r1, .ref r2, .ref r3, .int (zI mt), .int mk, .int mw, .int mm, .int mb, .int ms, .ref r4, .int my])), (r1, .inl (gJ g, 327680, .inr (.inl ((mX5_pass_L2 mF mR kd dd i1 64 0 some1 tb1).2)))), (r2, .inl (gZ g, 6, .inl bu)), (r3, .inl (gI g, 6, .inl gr)), (r4, .inl (gI g, 64, .inl ml))]) H → va_D (et_ad ([(md, .inr (5, [.int th, .int mF, .int mR, .ref r1, .ref r2, .ref r3, .int (zI mt), .int mk, .int mw, .int mm, .int mb, .int ms, .ref r4, .int my])), (r1, .inl (gJ g, 327680, .inr (.inl tb))), (r2, .inl (gZ g, 6, .inl bu)), (r3, .inl (gI g, 6, .inl gr)), (r4, .inl (gI g, 64, .inl ml))])) ([(md, .inr (5, [.int th, .int mF, .int mR, .ref r1, .ref r2, .ref r3, .int (zI mt), .int mk, .int mw, .int mm, .int mb, .int ms, .ref r4, .int my])), (r1, .inl (gJ g, 327680, .inr (.inl ((mX5_pass_L2 mF mR kd dd i1 64 0 some1 tb1).2)))), (r2, .inl (gZ g, 6, .inl bu)), (r3, .inl (gI g, 6, .inl gr)), (r4, .inl (gI g, 64, .inl ml))]) → va_S (et_ad ([(md, .inr (5, [.int th, .int mF, .int mR, .ref r1, .ref r2, .ref r3, .int (zI mt), .int mk, .int mw, .int mm, .int mb, .int ms, .ref r4, .int my])), (r1, .inl (gJ g, 327680, .inr (.inl tb))), (r2, .inl (gZ g, 6, .inl bu)), (r3, .inl (gI g, 6, .inl gr)), (r4, .inl (gI g, 64, .inl ml))])) s.heap H locs → ∀ ls : Array Slot, lv_has ls 9 [(4, .int (zI ((mX5_pass_L2 mF mR kd dd i1 64 0 some1 tb1).1))), (5, .int (nI i1)), (3, .int (mX5_pass_V1 dd)), (0, .ref md), (1, .int kd), (2, .int dd)] → W p l e ({ frames := 4, cells := 0, slots := 0, locals := 109 } : Room) s m args below meth c H locs 0 0 (MQ below (et_QW g ([(md, .inr (5, [.int th, .int mF, .int mR, .ref r1, .ref r2, .ref r3, .int (zI mt), .int mk, .int mw, .int mm, .int mb, .int ms, .ref r4, .int my])), (r1, .inl (gJ g, 327680, .inr (.inl tb))), (r2, .inl (gZ g, 6, .inl bu)), (r3, .inl (gI g, 6, .inl gr)), (r4, .inl (gI g, 64, .inl ml))]) ([(md, .inr (5, [.int th, .int mF, .int mR, .ref r1, .ref r2, .ref r3, .int (zI mt), .int mk, .int mw, .int mm, .int mb, .int ms, .ref r4, .int my])), (r1, .inl (gJ g, 327680, .inr (.inl ((mX5_pass mF mR tb kd dd).2)))), (r2, .inl (gZ g, 6, .inl bu)), (r3, .inl (gI g, 6, .inl gr)), (r4, .inl (gI g, 64, .inl ml))]) (some (.int (zI ((mX5_pass mF mR tb kd dd).1))))) args s 0 0 (et_ad ([(md, .inr (5, [.int th, .int mF, .int mR, .ref r1, .ref r2, .ref r3, .int (zI mt), .int mk, .int mw, .int mm, .int mb, .int ms, .ref r4, .int my])), (r1, .inl (gJ g, 327680, .inr (.inl tb))), (r2, .inl (gZ g, 6, .inl bu)), (r3, .inl (gI g, 6, .inl gr)), (r4, .inl (gI g, 64, .inl ml))]))) (F0 m 203 ls []) := by
          intro H locs hP hD hS ls hl
          refine lv_iinc (v := nI (i1 + 1)) (lv' := [(5, .int (nI (i1 + 1))), (4, .int (zI ((mX5_pass_L2 mF mR kd dd i1 64 0 some1 tb1).1))), (3, .int (mX5_pass_V1 dd)), (0, .ref md), (1, .int kd), (2, .int dd)]) hx hb dX5_pass_203 hl (k := 1) rfl (et_inc i1) (by decide) rfl (fun ls hl => ?_)
          refine lv_goto (tgt := 19) hx hb dX5_pass_206 (by decide) ?_
          exact ih1 (i1 + 1) ((mX5_pass_L2 mF mR kd dd i1 64 0 some1 tb1).1) ((mX5_pass_L2 mF mR kd dd i1 64 0 some1 tb1).2) (by omega) ((by rw [mX5_pass_L1] : mX5_pass_L1 mF mR kd dd (k1 + 1) i1 some1 tb1 = mX5_pass_L1 mF mR kd dd k1 (i1 + 1) ((mX5_pass_L2 mF mR kd dd i1 64 0 some1 tb1).1) ((mX5_pass_L2 mF mR kd dd i1 64 0 some1 tb1).2)).symm.trans hm) _ _ hP hD hS ls (lv_sub hl [0, 1, 2, 3, 4, 5] rfl)
        have hL2 : ∀ (k2 i2 : Nat) (some2 : Bool) (tb2 : Nat → Int64), i2 + k2 = 64 → mX5_pass_L2 mF mR kd dd i1 k2 i2 some2 tb2 = (mX5_pass_L2 mF mR kd dd i1 64 0 some1 tb1) → ∀ (H : Heap) (locs : List Loc), va_P (gD g) vwCl ([(md, .inr (5, [.int th, .int mF, .int mR, .ref r1, .ref r2, .ref r3, .int (zI mt), .int mk, .int mw, .int mm, .int mb, .int ms, .ref r4, .int my])), (r1, .inl (gJ g, 327680, .inr (.inl tb2))), (r2, .inl (gZ g, 6, .inl bu)), (r3, .inl (gI g, 6, .inl gr)), (r4, .inl (gI g, 64, .inl ml))]) H → va_D (et_ad ([(md, .inr (5, [.int th, .int mF, .int mR, .ref r1, .ref r2, .ref r3, .int (zI mt), .int mk, .int mw, .int mm, .int mb, .int ms, .ref r4, .int my])), (r1, .inl (gJ g, 327680, .inr (.inl tb))), (r2, .inl (gZ g, 6, .inl bu)), (r3, .inl (gI g, 6, .inl gr)), (r4, .inl (gI g, 64, .inl ml))])) ([(md, .inr (5, [.int th, .int mF, .int mR, .ref r1, .ref r2, .ref r3, .int (zI mt), .int mk, .int mw, .int mm, .int mb, .int ms, .ref r4, .int my])), (r1, .inl (gJ g, 327680, .inr (.inl tb2))), (r2, .inl (gZ g, 6, .inl bu)), (r3, .inl (gI g, 6, .inl gr)), (r4, .inl (gI g, 64, .inl ml))]) → va_S (et_ad ([(md, .inr (5, [.int th, .int mF, .int mR, .ref r1, .ref r2, .ref r3, .int (zI mt), .int mk, .int mw, .int mm, .int mb, .int ms, .ref r4, .int my])), (r1, .inl (gJ g, 327680, .inr (.inl tb))), (r2, .inl (gZ g, 6, .inl bu)), (r3, .inl (gI g, 6, .inl gr)), (r4, .inl (gI g, 64, .inl ml))])) s.heap H locs → ∀ ls : Array Slot, lv_has ls 9 [(6, .int (nI i2)), (4, .int (zI some2)), (5, .int (nI i1)), (3, .int (mX5_pass_V1 dd)), (0, .ref md), (1, .int kd), (2, .int dd)] → W p l e ({ frames := 4, cells := 0, slots := 0, locals := 109 } : Room) s m args below meth c H locs 0 0 (MQ below (et_QW g ([(md, .inr (5, [.int th, .int mF, .int mR, .ref r1, .ref r2, .ref r3, .int (zI mt), .int mk, .int mw, .int mm, .int mb, .int ms, .ref r4, .int my])), (r1, .inl (gJ g, 327680, .inr (.inl tb))), (r2, .inl (gZ g, 6, .inl bu)), (r3, .inl (gI g, 6, .inl gr)), (r4, .inl (gI g, 64, .inl ml))]) ([(md, .inr (5, [.int th, .int mF, .int mR, .ref r1, .ref r2, .ref r3, .int (zI mt), .int mk, .int mw, .int mm, .int mb, .int ms, .ref r4, .int my])), (r1, .inl (gJ g, 327680, .inr (.inl ((mX5_pass mF mR tb kd dd).2)))), (r2, .inl (gZ g, 6, .inl bu)), (r3, .inl (gI g, 6, .inl gr)), (r4, .inl (gI g, 64, .inl ml))]) (some (.int (zI ((mX5_pass mF mR tb kd dd).1))))) args s 0 0 (et_ad ([(md, .inr (5, [.int th, .int mF, .int mR, .ref r1, .ref r2, .ref r3, .int (zI mt), .int mk, .int mw, .int mm, .int mb, .int ms, .ref r4, .int my])), (r1, .inl (gJ g, 327680, .inr (.inl tb))), (r2, .inl (gZ g, 6, .inl bu)), (r3, .inl (gI g, 6, .inl gr)), (r4, .inl (gI g, 64, .inl ml))]))) (F0 m 29 ls []) := by
          intro k2
          induction k2 with
          | zero =>
            intro i2 some2 tb2 hik  hm H locs hP hD hS ls hl
            refine lv_iload hx hb dX5_pass_29 (lv_at hl 0 rfl) ?_
            refine lv_bipush (v := (64 : Int32)) hx hb dX5_pass_31 (by decide) ?_
            refine lv_icmp_ge (tgt := 203) hx hb dX5_pass_33 (by decide) (fun c_3 => ?_) (fun c_3 => ?_)
            rotate_left
            · exact absurd (et_le (a := 64) (b := i2) (by omega) (by omega)) c_3
            have hq2 : (some2, tb2) = (mX5_pass_L2 mF mR kd dd i1 64 0 some1 tb1) := (by rw [mX5_pass_L2] : mX5_pass_L2 mF mR kd dd i1 0 i2 some2 tb2 = (some2, tb2)).symm.trans hm
            have hq2_0 : some2 = (mX5_pass_L2 mF mR kd dd i1 64 0 some1 tb1).1 := congrArg (fun z => z.1) hq2
            have hq2_1 : tb2 = (mX5_pass_L2 mF mR kd dd i1 64 0 some1 tb1).2 := congrArg (fun z => z.2) hq2
            exact hx2 _ _ (by rw [← hq2_1]; exact hP) (by rw [← hq2_1]; exact hD) hS ls (by rw [← hq2_0]; exact lv_sub hl [1, 2, 3, 4, 5, 6] rfl)
          | succ k2 ih2 =>
            intro i2 some2 tb2 hik  hm H locs hP hD hS ls hl
            refine lv_iload hx hb dX5_pass_29 (lv_at hl 0 rfl) ?_
            refine lv_bipush (v := (64 : Int32)) hx hb dX5_pass_31 (by decide) ?_
            refine lv_icmp_ge (tgt := 203) hx hb dX5_pass_33 (by decide) (fun c_4 => ?_) (fun c_4 => ?_)
            · exact absurd c_4 (et_ge (a := i2) (b := 64) (by omega) (by omega))
            refine lv_aload_n hx hb dX5_pass_36 rfl (lv_at hl 4 rfl) ?_
            refine lv_iload hx hb dX5_pass_37 (lv_at hl 2 rfl) ?_
            refine et_callP1 (v := .int (zI (mX5_isSquare mF mR (nI i1)))) (va_runV (As := [.int (nI i1)]) (rest := []) ⟨hx, hb, hml, hown, hts⟩ (c_X5_isSquare l g md r1 r2 r3 r4 mF mR th tb2 bu gr mt mk mw mm mb ms ml my (nI i1)) (cwV 1 hts (W0_gV w_796 w_798 w_52 w_82 w_799) rfl rfl rfl (by decide +kernel) ⟨Nat.le_of_ble_eq_true rfl, Nat.le_of_ble_eq_true rfl⟩) (et_preV hP hC [0, 1, 2, 3, 4] rfl (ci := 5) (q0 := 0) rfl rfl) rfl rfl hl.1 rfl (lv_room (Nat.le_of_ble_eq_true rfl)) dX5_pass_39 ⟨Nat.le_of_ble_eq_true rfl, Nat.le_of_ble_eq_true rfl⟩) ?_
            refine lv_if_eq (tgt := 203) hx hb dX5_pass_42 (by decide) (fun c_5 => ?_) (fun c_5 => ?_)
            ·
              have hq3 : (some2, tb2) = (mX5_pass_L2 mF mR kd dd i1 64 0 some1 tb1) := (by rw [mX5_pass_L2, if_pos c_5] : mX5_pass_L2 mF mR kd dd i1 (k2 + 1) i2 some2 tb2 = (some2, tb2)).symm.trans hm
              have hq3_0 : some2 = (mX5_pass_L2 mF mR kd dd i1 64 0 some1 tb1).1 := congrArg (fun z => z.1) hq3
              have hq3_1 : tb2 = (mX5_pass_L2 mF mR kd dd i1 64 0 some1 tb1).2 := congrArg (fun z => z.2) hq3
              exact hx2 _ _ (by rw [← hq3_1]; exact hP) (by rw [← hq3_1]; exact hD) hS ls (by rw [← hq3_0]; exact lv_sub hl [1, 2, 3, 4, 5, 6] rfl)
            ·
              refine lv_iconst (v := (0 : Int32)) hx hb dX5_pass_45 (by decide) ?_
              refine lv_istore (lv' := [(7, .int (0 : Int32)), (6, .int (nI i2)), (4, .int (zI some2)), (5, .int (nI i1)), (3, .int (mX5_pass_V1 dd)), (0, .ref md), (1, .int kd), (2, .int dd)]) hx hb dX5_pass_46 hl (by decide) rfl (fun ls hl => ?_)
              have hx3 : ∀ (H : Heap) (locs : List Loc), va_P (gD g) vwCl ([(md, .inr (5, [.int th, .int mF, .int mR, .ref r1, .ref r2, .ref r3, .int (zI mt), .int mk, .int mw, .int mm, .int mb, .int ms, .ref r4, .int my])), (r1, .inl (gJ g, 327680, .inr (.inl ((mX5_pass_L3 mF mR kd dd i2 i1 64 0 some2 tb2).2)))), (r2, .inl (gZ g, 6, .inl bu)), (r3, .inl (gI g, 6, .inl gr)), (r4, .inl (gI g, 64, .inl ml))]) H → va_D (et_ad ([(md, .inr (5, [.int th, .int mF, .int mR, .ref r1, .ref r2, .ref r3, .int (zI mt), .int mk, .int mw, .int mm, .int mb, .int ms, .ref r4, .int my])), (r1, .inl (gJ g, 327680, .inr (.inl tb))), (r2, .inl (gZ g, 6, .inl bu)), (r3, .inl (gI g, 6, .inl gr)), (r4, .inl (gI g, 64, .inl ml))])) ([(md, .inr (5, [.int th, .int mF, .int mR, .ref r1, .ref r2, .ref r3, .int (zI mt), .int mk, .int mw, .int mm, .int mb, .int ms, .ref r4, .int my])), (r1, .inl (gJ g, 327680, .inr (.inl ((mX5_pass_L3 mF mR kd dd i2 i1 64 0 some2 tb2).2)))), (r2, .inl (gZ g, 6, .inl bu)), (r3, .inl (gI g, 6, .inl gr)), (r4, .inl (gI g, 64, .inl ml))]) → va_S (et_ad ([(md, .inr (5, [.int th, .int mF, .int mR, .ref r1, .ref r2, .ref r3, .int (zI mt), .int mk, .int mw, .int mm, .int mb, .int ms, .ref r4, .int my])), (r1, .inl (gJ g, 327680, .inr (.inl tb))), (r2, .inl (gZ g, 6, .inl bu)), (r3, .inl (gI g, 6, .inl gr)), (r4, .inl (gI g, 64, .inl ml))])) s.heap H locs → ∀ ls : Array Slot, lv_has ls 9 [(4, .int (zI ((mX5_pass_L3 mF mR kd dd i2 i1 64 0 some2 tb2).1))), (6, .int (nI i2)), (5, .int (nI i1)), (3, .int (mX5_pass_V1 dd)), (0, .ref md), (1, .int kd), (2, .int dd)] → W p l e ({ frames := 4, cells := 0, slots := 0, locals := 109 } : Room) s m args below meth c H locs 0 0 (MQ below (et_QW g ([(md, .inr (5, [.int th, .int mF, .int mR, .ref r1, .ref r2, .ref r3, .int (zI mt), .int mk, .int mw, .int mm, .int mb, .int ms, .ref r4, .int my])), (r1, .inl (gJ g, 327680, .inr (.inl tb))), (r2, .inl (gZ g, 6, .inl bu)), (r3, .inl (gI g, 6, .inl gr)), (r4, .inl (gI g, 64, .inl ml))]) ([(md, .inr (5, [.int th, .int mF, .int mR, .ref r1, .ref r2, .ref r3, .int (zI mt), .int mk, .int mw, .int mm, .int mb, .int ms, .ref r4, .int my])), (r1, .inl (gJ g, 327680, .inr (.inl ((mX5_pass mF mR tb kd dd).2)))), (r2, .inl (gZ g, 6, .inl bu)), (r3, .inl (gI g, 6, .inl gr)), (r4, .inl (gI g, 64, .inl ml))]) (some (.int (zI ((mX5_pass mF mR tb kd dd).1))))) args s 0 0 (et_ad ([(md, .inr (5, [.int th, .int mF, .int mR, .ref r1, .ref r2, .ref r3, .int (zI mt), .int mk, .int mw, .int mm, .int mb, .int ms, .ref r4, .int my])), (r1, .inl (gJ g, 327680, .inr (.inl tb))), (r2, .inl (gZ g, 6, .inl bu)), (r3, .inl (gI g, 6, .inl gr)), (r4, .inl (gI g, 64, .inl ml))]))) (F0 m 197 ls []) := by
                intro H locs hP hD hS ls hl
                refine lv_iinc (v := nI (i2 + 1)) (lv' := [(6, .int (nI (i2 + 1))), (4, .int (zI ((mX5_pass_L3 mF mR kd dd i2 i1 64 0 some2 tb2).1))), (5, .int (nI i1)), (3, .int (mX5_pass_V1 dd)), (0, .ref md), (1, .int kd), (2, .int dd)]) hx hb dX5_pass_197 hl (k := 1) rfl (et_inc i2) (by decide) rfl (fun ls hl => ?_)
                refine lv_goto (tgt := 29) hx hb dX5_pass_200 (by decide) ?_
                exact ih2 (i2 + 1) ((mX5_pass_L3 mF mR kd dd i2 i1 64 0 some2 tb2).1) ((mX5_pass_L3 mF mR kd dd i2 i1 64 0 some2 tb2).2) (by omega) ((by rw [mX5_pass_L2, if_neg c_5] : mX5_pass_L2 mF mR kd dd i1 (k2 + 1) i2 some2 tb2 = mX5_pass_L2 mF mR kd dd i1 k2 (i2 + 1) ((mX5_pass_L3 mF mR kd dd i2 i1 64 0 some2 tb2).1) ((mX5_pass_L3 mF mR kd dd i2 i1 64 0 some2 tb2).2)).symm.trans hm) _ _ hP hD hS ls (lv_sub hl [0, 1, 2, 3, 4, 5, 6] rfl)
              have hL3 : ∀ (k3 i3 : Nat) (some3 : Bool) (tb3 : Nat → Int64), i3 + k3 = 64 → mX5_pass_L3 mF mR kd dd i2 i1 k3 i3 some3 tb3 = (mX5_pass_L3 mF mR kd dd i2 i1 64 0 some2 tb2) → ∀ (H : Heap) (locs : List Loc), va_P (gD g) vwCl ([(md, .inr (5, [.int th, .int mF, .int mR, .ref r1, .ref r2, .ref r3, .int (zI mt), .int mk, .int mw, .int mm, .int mb, .int ms, .ref r4, .int my])), (r1, .inl (gJ g, 327680, .inr (.inl tb3))), (r2, .inl (gZ g, 6, .inl bu)), (r3, .inl (gI g, 6, .inl gr)), (r4, .inl (gI g, 64, .inl ml))]) H → va_D (et_ad ([(md, .inr (5, [.int th, .int mF, .int mR, .ref r1, .ref r2, .ref r3, .int (zI mt), .int mk, .int mw, .int mm, .int mb, .int ms, .ref r4, .int my])), (r1, .inl (gJ g, 327680, .inr (.inl tb))), (r2, .inl (gZ g, 6, .inl bu)), (r3, .inl (gI g, 6, .inl gr)), (r4, .inl (gI g, 64, .inl ml))])) ([(md, .inr (5, [.int th, .int mF, .int mR, .ref r1, .ref r2, .ref r3, .int (zI mt), .int mk, .int mw, .int mm, .int mb, .int ms, .ref r4, .int my])), (r1, .inl (gJ g, 327680, .inr (.inl tb3))), (r2, .inl (gZ g, 6, .inl bu)), (r3, .inl (gI g, 6, .inl gr)), (r4, .inl (gI g, 64, .inl ml))]) → va_S (et_ad ([(md, .inr (5, [.int th, .int mF, .int mR, .ref r1, .ref r2, .ref r3, .int (zI mt), .int mk, .int mw, .int mm, .int mb, .int ms, .ref r4, .int my])), (r1, .inl (gJ g, 327680, .inr (.inl tb))), (r2, .inl (gZ g, 6, .inl bu)), (r3, .inl (gI g, 6, .inl gr)), (r4, .inl (gI g, 64, .inl ml))])) s.heap H locs → ∀ ls : Array Slot, lv_has ls 9 [(7, .int (nI i3)), (4, .int (zI some3)), (6, .int (nI i2)), (5, .int (nI i1)), (3, .int (mX5_pass_V1 dd)), (0, .ref md), (1, .int kd), (2, .int dd)] → W p l e ({ frames := 4, cells := 0, slots := 0, locals := 109 } : Room) s m args below meth c H locs 0 0 (MQ below (et_QW g ([(md, .inr (5, [.int th, .int mF, .int mR, .ref r1, .ref r2, .ref r3, .int (zI mt), .int mk, .int mw, .int mm, .int mb, .int ms, .ref r4, .int my])), (r1, .inl (gJ g, 327680, .inr (.inl tb))), (r2, .inl (gZ g, 6, .inl bu)), (r3, .inl (gI g, 6, .inl gr)), (r4, .inl (gI g, 64, .inl ml))]) ([(md, .inr (5, [.int th, .int mF, .int mR, .ref r1, .ref r2, .ref r3, .int (zI mt), .int mk, .int mw, .int mm, .int mb, .int ms, .ref r4, .int my])), (r1, .inl (gJ g, 327680, .inr (.inl ((mX5_pass mF mR tb kd dd).2)))), (r2, .inl (gZ g, 6, .inl bu)), (r3, .inl (gI g, 6, .inl gr)), (r4, .inl (gI g, 64, .inl ml))]) (some (.int (zI ((mX5_pass mF mR tb kd dd).1))))) args s 0 0 (et_ad ([(md, .inr (5, [.int th, .int mF, .int mR, .ref r1, .ref r2, .ref r3, .int (zI mt), .int mk, .int mw, .int mm, .int mb, .int ms, .ref r4, .int my])), (r1, .inl (gJ g, 327680, .inr (.inl tb))), (r2, .inl (gZ g, 6, .inl bu)), (r3, .inl (gI g, 6, .inl gr)), (r4, .inl (gI g, 64, .inl ml))]))) (F0 m 48 ls []) := by
                intro k3
                induction k3 with
                | zero =>
                  intro i3 some3 tb3 hik  hm H locs hP hD hS ls hl
                  refine lv_iload hx hb dX5_pass_48 (lv_at hl 0 rfl) ?_
                  refine lv_bipush (v := (64 : Int32)) hx hb dX5_pass_50 (by decide) ?_
                  refine lv_icmp_ge (tgt := 197) hx hb dX5_pass_52 (by decide) (fun c_6 => ?_) (fun c_6 => ?_)
                  rotate_left
                  · exact absurd (et_le (a := 64) (b := i3) (by omega) (by omega)) c_6
                  have hq4 : (some3, tb3) = (mX5_pass_L3 mF mR kd dd i2 i1 64 0 some2 tb2) := (by rw [mX5_pass_L3] : mX5_pass_L3 mF mR kd dd i2 i1 0 i3 some3 tb3 = (some3, tb3)).symm.trans hm
                  have hq4_0 : some3 = (mX5_pass_L3 mF mR kd dd i2 i1 64 0 some2 tb2).1 := congrArg (fun z => z.1) hq4
                  have hq4_1 : tb3 = (mX5_pass_L3 mF mR kd dd i2 i1 64 0 some2 tb2).2 := congrArg (fun z => z.2) hq4
                  exact hx3 _ _ (by rw [← hq4_1]; exact hP) (by rw [← hq4_1]; exact hD) hS ls (by rw [← hq4_0]; exact lv_sub hl [1, 2, 3, 4, 5, 6, 7] rfl)
                | succ k3 ih3 =>
                  intro i3 some3 tb3 hik  hm H locs hP hD hS ls hl
                  refine lv_iload hx hb dX5_pass_48 (lv_at hl 0 rfl) ?_
                  refine lv_bipush (v := (64 : Int32)) hx hb dX5_pass_50 (by decide) ?_
                  refine lv_icmp_ge (tgt := 197) hx hb dX5_pass_52 (by decide) (fun c_7 => ?_) (fun c_7 => ?_)
                  · exact absurd c_7 (et_ge (a := i3) (b := 64) (by omega) (by omega))
                  refine lv_aload_n hx hb dX5_pass_55 rfl (lv_at hl 5 rfl) ?_
                  refine lv_iload hx hb dX5_pass_56 (lv_at hl 2 rfl) ?_
                  refine et_callP1 (v := .int (zI (mX5_isSquare mF mR (nI i2)))) (va_runV (As := [.int (nI i2)]) (rest := []) ⟨hx, hb, hml, hown, hts⟩ (c_X5_isSquare l g md r1 r2 r3 r4 mF mR th tb3 bu gr mt mk mw mm mb ms ml my (nI i2)) (cwV 1 hts (W0_gV w_796 w_798 w_52 w_82 w_799) rfl rfl rfl (by decide +kernel) ⟨Nat.le_of_ble_eq_true rfl, Nat.le_of_ble_eq_true rfl⟩) (et_preV hP hC [0, 1, 2, 3, 4] rfl (ci := 5) (q0 := 0) rfl rfl) rfl rfl hl.1 rfl (lv_room (Nat.le_of_ble_eq_true rfl)) dX5_pass_58 ⟨Nat.le_of_ble_eq_true rfl, Nat.le_of_ble_eq_true rfl⟩) ?_
                  refine lv_if_eq (tgt := 197) hx hb dX5_pass_61 (by decide) (fun c_8 => ?_) (fun c_8 => ?_)
                  ·
                    have hq5 : (some3, tb3) = (mX5_pass_L3 mF mR kd dd i2 i1 64 0 some2 tb2) := (by rw [mX5_pass_L3, if_pos c_8] : mX5_pass_L3 mF mR kd dd i2 i1 (k3 + 1) i3 some3 tb3 = (some3, tb3)).symm.trans hm
                    have hq5_0 : some3 = (mX5_pass_L3 mF mR kd dd i2 i1 64 0 some2 tb2).1 := congrArg (fun z => z.1) hq5
                    have hq5_1 : tb3 = (mX5_pass_L3 mF mR kd dd i2 i1 64 0 some2 tb2).2 := congrArg (fun z => z.2) hq5
                    exact hx3 _ _ (by rw [← hq5_1]; exact hP) (by rw [← hq5_1]; exact hD) hS ls (by rw [← hq5_0]; exact lv_sub hl [1, 2, 3, 4, 5, 6, 7] rfl)
                  ·
                    refine lv_iload hx hb dX5_pass_64 (lv_at hl 2 rfl) ?_
                    refine lv_iload hx hb dX5_pass_66 (lv_at hl 3 rfl) ?_
                    refine lv_icmp_eq (tgt := 197) hx hb dX5_pass_68 (by decide) (fun c_9 => ?_) (fun c_9 => ?_)
                    ·
                      have hq6 : (some3, tb3) = (mX5_pass_L3 mF mR kd dd i2 i1 64 0 some2 tb2) := (by rw [mX5_pass_L3, if_neg c_8, if_pos c_9] : mX5_pass_L3 mF mR kd dd i2 i1 (k3 + 1) i3 some3 tb3 = (some3, tb3)).symm.trans hm
                      have hq6_0 : some3 = (mX5_pass_L3 mF mR kd dd i2 i1 64 0 some2 tb2).1 := congrArg (fun z => z.1) hq6
                      have hq6_1 : tb3 = (mX5_pass_L3 mF mR kd dd i2 i1 64 0 some2 tb2).2 := congrArg (fun z => z.2) hq6
                      exact hx3 _ _ (by rw [← hq6_1]; exact hP) (by rw [← hq6_1]; exact hD) hS ls (by rw [← hq6_0]; exact lv_sub hl [1, 2, 3, 4, 5, 6, 7] rfl)
                    ·
                      refine lv_aload_n hx hb dX5_pass_71 rfl (lv_at hl 5 rfl) ?_
                      refine lv_iload_n hx hb dX5_pass_72 rfl (lv_at hl 6 rfl) ?_
                      refine lv_iload hx hb dX5_pass_73 (lv_at hl 3 rfl) ?_
                      refine lv_iload hx hb dX5_pass_75 (lv_at hl 2 rfl) ?_
                      refine lv_iload hx hb dX5_pass_77 (lv_at hl 0 rfl) ?_
                      refine lv_iload_n hx hb dX5_pass_79 rfl (lv_at hl 4 rfl) ?_
                      refine et_callP1 (v := .int (zI (mX5_isPosition mF mR kd (nI i1) (nI i2) (nI i3) (mX5_pass_V1 dd)))) (va_runV (As := [.int kd, .int (nI i1), .int (nI i2), .int (nI i3), .int (mX5_pass_V1 dd)]) (rest := []) ⟨hx, hb, hml, hown, hts⟩ (c_X5_isPosition l g md r1 r2 r3 r4 mF mR th tb3 bu gr mt mk mw mm mb ms ml my kd (nI i1) (nI i2) (nI i3) (mX5_pass_V1 dd) (by assumption) (by assumption)) (cwV 5 hts (W0_gV w_792 w_794 w_51 w_82 w_795) rfl rfl rfl (by decide +kernel) ⟨Nat.le_of_ble_eq_true rfl, Nat.le_of_ble_eq_true rfl⟩) (et_preV hP hC [0, 1, 2, 3, 4] rfl (ci := 5) (q0 := 0) rfl rfl) rfl rfl hl.1 rfl (lv_room (Nat.le_of_ble_eq_true rfl)) dX5_pass_80 ⟨Nat.le_of_ble_eq_true rfl, Nat.le_of_ble_eq_true rfl⟩) ?_
                      refine lv_if_eq (tgt := 191) hx hb dX5_pass_83 (by decide) (fun c_10 => ?_) (fun c_10 => ?_)
                      ·
                        refine lv_iinc (v := nI (i3 + 1)) (lv' := [(7, .int (nI (i3 + 1))), (4, .int (zI some3)), (6, .int (nI i2)), (5, .int (nI i1)), (3, .int (mX5_pass_V1 dd)), (0, .ref md), (1, .int kd), (2, .int dd)]) hx hb dX5_pass_191 hl (k := 0) rfl (et_inc i3) (by decide) rfl (fun ls hl => ?_)
                        refine lv_goto (tgt := 48) hx hb dX5_pass_194 (by decide) ?_
                        exact ih3 (i3 + 1) some3 tb3 (by omega) ((by rw [mX5_pass_L3, if_neg c_8, if_neg c_9, if_pos c_10] : mX5_pass_L3 mF mR kd dd i2 i1 (k3 + 1) i3 some3 tb3 = mX5_pass_L3 mF mR kd dd i2 i1 k3 (i3 + 1) some3 tb3).symm.trans hm) _ _ hP hD hS ls (lv_sub hl [0, 1, 2, 3, 4, 5, 6, 7] rfl)
                      ·
                        refine lv_aload_n hx hb dX5_pass_86 rfl (lv_at hl 5 rfl) ?_
                        refine lv_iload_n hx hb dX5_pass_87 rfl (lv_at hl 6 rfl) ?_
                        refine lv_iload_n hx hb dX5_pass_88 rfl (lv_at hl 4 rfl) ?_
                        refine lv_iload hx hb dX5_pass_89 (lv_at hl 3 rfl) ?_
                        refine lv_iload hx hb dX5_pass_91 (lv_at hl 2 rfl) ?_
                        refine lv_iload hx hb dX5_pass_93 (lv_at hl 0 rfl) ?_
                        refine et_callP1 (v := .int (mX5_known tb3 kd (mX5_pass_V1 dd) (nI i1) (nI i2) (nI i3))) (va_runV (As := [.int kd, .int (mX5_pass_V1 dd), .int (nI i1), .int (nI i2), .int (nI i3)]) (rest := []) ⟨hx, hb, hml, hown, hts⟩ (c_X5_known l g md r1 r2 r3 r4 mF mR th tb3 bu gr mt mk mw mm mb ms ml my kd (mX5_pass_V1 dd) (nI i1) (nI i2) (nI i3) (by assumption) et_passV (et_r64i (by omega)) (et_r64i (by omega)) (et_r64i (by omega))) (cwV 5 hts (W0_gV w_837 w_839 w_60 w_82 w_840) rfl rfl rfl (by decide +kernel) ⟨Nat.le_of_ble_eq_true rfl, Nat.le_of_ble_eq_true rfl⟩) (et_preV hP hC [0, 1, 2, 3, 4] rfl (ci := 5) (q0 := 0) rfl rfl) rfl rfl hl.1 rfl (lv_room (Nat.le_of_ble_eq_true rfl)) dX5_pass_95 ⟨Nat.le_of_ble_eq_true rfl, Nat.le_of_ble_eq_true rfl⟩) ?_
                        refine lv_if_ge (tgt := 191) hx hb dX5_pass_98 (by decide) (fun c_11 => ?_) (fun c_11 => ?_)
                        ·
                          refine lv_iinc (v := nI (i3 + 1)) (lv' := [(7, .int (nI (i3 + 1))), (4, .int (zI some3)), (6, .int (nI i2)), (5, .int (nI i1)), (3, .int (mX5_pass_V1 dd)), (0, .ref md), (1, .int kd), (2, .int dd)]) hx hb dX5_pass_191 hl (k := 0) rfl (et_inc i3) (by decide) rfl (fun ls hl => ?_)
                          refine lv_goto (tgt := 48) hx hb dX5_pass_194 (by decide) ?_
                          exact ih3 (i3 + 1) some3 tb3 (by omega) ((by rw [mX5_pass_L3, if_neg c_8, if_neg c_9, if_neg c_10, if_pos c_11] : mX5_pass_L3 mF mR kd dd i2 i1 (k3 + 1) i3 some3 tb3 = mX5_pass_L3 mF mR kd dd i2 i1 k3 (i3 + 1) some3 tb3).symm.trans hm) _ _ hP hD hS ls (lv_sub hl [0, 1, 2, 3, 4, 5, 6, 7] rfl)
                        ·
                          have hj2 : ∀ ls : Array Slot, lv_has ls 9 [(7, .int (nI i3)), (4, .int (zI some3)), (6, .int (nI i2)), (5, .int (nI i1)), (3, .int (mX5_pass_V1 dd)), (0, .ref md), (1, .int kd), (2, .int dd)] → W p l e ({ frames := 4, cells := 0, slots := 0, locals := 109 } : Room) s m args below meth c H locs 0 0 (MQ below (et_QW g ([(md, .inr (5, [.int th, .int mF, .int mR, .ref r1, .ref r2, .ref r3, .int (zI mt), .int mk, .int mw, .int mm, .int mb, .int ms, .ref r4, .int my])), (r1, .inl (gJ g, 327680, .inr (.inl tb))), (r2, .inl (gZ g, 6, .inl bu)), (r3, .inl (gI g, 6, .inl gr)), (r4, .inl (gI g, 64, .inl ml))]) ([(md, .inr (5, [.int th, .int mF, .int mR, .ref r1, .ref r2, .ref r3, .int (zI mt), .int mk, .int mw, .int mm, .int mb, .int ms, .ref r4, .int my])), (r1, .inl (gJ g, 327680, .inr (.inl ((mX5_pass mF mR tb kd dd).2)))), (r2, .inl (gZ g, 6, .inl bu)), (r3, .inl (gI g, 6, .inl gr)), (r4, .inl (gI g, 64, .inl ml))]) (some (.int (zI ((mX5_pass mF mR tb kd dd).1))))) args s 0 0 (et_ad ([(md, .inr (5, [.int th, .int mF, .int mR, .ref r1, .ref r2, .ref r3, .int (zI mt), .int mk, .int mw, .int mm, .int mb, .int ms, .ref r4, .int my])), (r1, .inl (gJ g, 327680, .inr (.inl tb))), (r2, .inl (gZ g, 6, .inl bu)), (r3, .inl (gI g, 6, .inl gr)), (r4, .inl (gI g, 64, .inl ml))]))) (F0 m 168 ls [.int (zI (mX5_pass_V2 mF mR kd dd i3 tb3 i2 i1))]) := by
                            intro ls hl
                            refine lv_istore (lv' := [(8, .int (zI (mX5_pass_V2 mF mR kd dd i3 tb3 i2 i1))), (7, .int (nI i3)), (4, .int (zI some3)), (6, .int (nI i2)), (5, .int (nI i1)), (3, .int (mX5_pass_V1 dd)), (0, .ref md), (1, .int kd), (2, .int dd)]) hx hb dX5_pass_168 hl (by decide) rfl (fun ls hl => ?_)
                            refine lv_iload hx hb dX5_pass_170 (lv_at hl 0 rfl) ?_
                            refine lv_if_eq (tgt := 191) hx hb dX5_pass_172 (by decide) (fun c_12 => ?_) (fun c_12 => ?_)
                            ·
                              refine lv_iinc (v := nI (i3 + 1)) (lv' := [(7, .int (nI (i3 + 1))), (8, .int (zI (mX5_pass_V2 mF mR kd dd i3 tb3 i2 i1))), (4, .int (zI some3)), (6, .int (nI i2)), (5, .int (nI i1)), (3, .int (mX5_pass_V1 dd)), (0, .ref md), (1, .int kd), (2, .int dd)]) hx hb dX5_pass_191 hl (k := 1) rfl (et_inc i3) (by decide) rfl (fun ls hl => ?_)
                              refine lv_goto (tgt := 48) hx hb dX5_pass_194 (by decide) ?_
                              exact ih3 (i3 + 1) some3 tb3 (by omega) ((by rw [mX5_pass_L3, if_neg c_8, if_neg c_9, if_neg c_10, if_neg c_11, if_pos c_12] : mX5_pass_L3 mF mR kd dd i2 i1 (k3 + 1) i3 some3 tb3 = mX5_pass_L3 mF mR kd dd i2 i1 k3 (i3 + 1) some3 tb3).symm.trans hm) _ _ hP hD hS ls (lv_sub hl [0, 2, 3, 4, 5, 6, 7, 8] rfl)
                            ·
                              refine lv_aload_n hx hb dX5_pass_175 rfl (lv_at hl 6 rfl) ?_
                              refine lv_iload_n hx hb dX5_pass_176 rfl (lv_at hl 7 rfl) ?_
                              refine lv_iload_n hx hb dX5_pass_177 rfl (lv_at hl 5 rfl) ?_
                              refine lv_iload hx hb dX5_pass_178 (lv_at hl 4 rfl) ?_
                              refine lv_iload hx hb dX5_pass_180 (lv_at hl 3 rfl) ?_
                              refine lv_iload hx hb dX5_pass_182 (lv_at hl 1 rfl) ?_
                              refine lv_iload_n hx hb dX5_pass_184 rfl (lv_at hl 8 rfl) ?_
                              refine et_callW0 (ws' := [(md, .inr (5, [.int th, .int mF, .int mR, .ref r1, .ref r2, .ref r3, .int (zI mt), .int mk, .int mw, .int mm, .int mb, .int ms, .ref r4, .int my])), (r1, .inl (gJ g, 327680, .inr (.inl (mX5_note tb3 kd (mX5_pass_V1 dd) (nI i1) (nI i2) (nI i3) dd)))), (r2, .inl (gZ g, 6, .inl bu)), (r3, .inl (gI g, 6, .inl gr)), (r4, .inl (gI g, 64, .inl ml))]) (va_runV (As := [.int kd, .int (mX5_pass_V1 dd), .int (nI i1), .int (nI i2), .int (nI i3), .int dd]) (rest := []) ⟨hx, hb, hml, hown, hts⟩ (c_X5_note l g md r1 r2 r3 r4 mF mR th tb3 bu gr mt mk mw mm mb ms ml my kd (mX5_pass_V1 dd) (nI i1) (nI i2) (nI i3) dd (by assumption) et_passV (et_r64i (by omega)) (et_r64i (by omega)) (et_r64i (by omega))) (cwV 6 hts (W0_gV w_866 w_868 w_66 w_82 w_869) rfl rfl rfl (by decide +kernel) ⟨Nat.le_of_ble_eq_true rfl, Nat.le_of_ble_eq_true rfl⟩) (et_preVW hP hC hD [0, 1, 2, 3, 4] (by decide) rfl (ci := 5) (q0 := 0) rfl rfl) rfl rfl hl.1 rfl (lv_room (Nat.le_of_ble_eq_true rfl)) dX5_pass_185 ⟨Nat.le_of_ble_eq_true rfl, Nat.le_of_ble_eq_true rfl⟩) hP hD hS [0, 1, 2, 3, 4] [] 5 rfl [md, r1, r2, r3, r4] rfl rfl rfl [] rfl rfl rfl (by decide +kernel) (fun H locs hP hD hS => ?_)
                              refine lv_iconst (v := (1 : Int32)) hx hb dX5_pass_188 (by decide) ?_
                              refine lv_istore (lv' := [(4, .int (1 : Int32)), (8, .int (zI (mX5_pass_V2 mF mR kd dd i3 tb3 i2 i1))), (7, .int (nI i3)), (6, .int (nI i2)), (5, .int (nI i1)), (3, .int (mX5_pass_V1 dd)), (0, .ref md), (1, .int kd), (2, .int dd)]) hx hb dX5_pass_189 hl (by decide) rfl (fun ls hl => ?_)
                              refine lv_iinc (v := nI (i3 + 1)) (lv' := [(7, .int (nI (i3 + 1))), (4, .int (1 : Int32)), (8, .int (zI (mX5_pass_V2 mF mR kd dd i3 tb3 i2 i1))), (6, .int (nI i2)), (5, .int (nI i1)), (3, .int (mX5_pass_V1 dd)), (0, .ref md), (1, .int kd), (2, .int dd)]) hx hb dX5_pass_191 hl (k := 2) rfl (et_inc i3) (by decide) rfl (fun ls hl => ?_)
                              refine lv_goto (tgt := 48) hx hb dX5_pass_194 (by decide) ?_
                              exact ih3 (i3 + 1) true (mX5_note tb3 kd (mX5_pass_V1 dd) (nI i1) (nI i2) (nI i3) dd) (by omega) ((by rw [mX5_pass_L3, if_neg c_8, if_neg c_9, if_neg c_10, if_neg c_11, if_neg c_12] : mX5_pass_L3 mF mR kd dd i2 i1 (k3 + 1) i3 some3 tb3 = mX5_pass_L3 mF mR kd dd i2 i1 k3 (i3 + 1) true (mX5_note tb3 kd (mX5_pass_V1 dd) (nI i1) (nI i2) (nI i3) dd)).symm.trans hm) _ _ hP hD hS ls (lv_sub hl [0, 1, 3, 4, 5, 6, 7, 8] rfl)
                          refine lv_iload_n hx hb dX5_pass_101 rfl (lv_at hl 4 rfl) ?_
                          refine lv_iconst (v := (1 : Int32)) hx hb dX5_pass_102 (by decide) ?_
                          refine lv_icmp_ne (tgt := 129) hx hb dX5_pass_103 (by decide) (fun c_13 => ?_) (fun c_13 => ?_)
                          ·
                            refine lv_aload_n hx hb dX5_pass_129 rfl (lv_at hl 5 rfl) ?_
                            refine lv_iload_n hx hb dX5_pass_130 rfl (lv_at hl 6 rfl) ?_
                            refine lv_iload hx hb dX5_pass_131 (lv_at hl 3 rfl) ?_
                            refine lv_iload hx hb dX5_pass_133 (lv_at hl 2 rfl) ?_
                            refine lv_iload hx hb dX5_pass_135 (lv_at hl 0 rfl) ?_
                            refine lv_iload_n hx hb dX5_pass_137 rfl (lv_at hl 7 rfl) ?_
                            refine lv_iconst (v := (1 : Int32)) hx hb dX5_pass_138 (by decide) ?_
                            refine lv_isub hx hb dX5_pass_139 ?_
                            refine et_callP1 (v := .int (zI (mX5_kingReaches mF mR tb3 kd (nI i1) (nI i2) (nI i3) (dd - (1 : Int32))))) (va_runV (As := [.int kd, .int (nI i1), .int (nI i2), .int (nI i3), .int (dd - (1 : Int32))]) (rest := []) ⟨hx, hb, hml, hown, hts⟩ (c_X5_kingReaches l g md r1 r2 r3 r4 mF mR th tb3 bu gr mt mk mw mm mb ms ml my kd (nI i1) (nI i2) (nI i3) (dd - (1 : Int32)) (by assumption) (by assumption) (by assumption) (et_r64i (by omega)) (et_r64i (by omega))) (cwV 5 hts (W0_gV w_854 w_856 w_63 w_82 w_857) rfl rfl rfl (by decide +kernel) ⟨Nat.le_of_ble_eq_true rfl, Nat.le_of_ble_eq_true rfl⟩) (et_preV hP hC [0, 1, 2, 3, 4] rfl (ci := 5) (q0 := 0) rfl rfl) rfl rfl hl.1 rfl (lv_room (Nat.le_of_ble_eq_true rfl)) dX5_pass_140 ⟨Nat.le_of_ble_eq_true rfl, Nat.le_of_ble_eq_true rfl⟩) ?_
                            refine lv_if_ne (tgt := 163) hx hb dX5_pass_143 (by decide) (fun c_14 => ?_) (fun c_14 => ?_)
                            ·
                              refine lv_iconst (v := (1 : Int32)) hx hb dX5_pass_163 (by decide) ?_
                              refine lv_goto (tgt := 168) hx hb dX5_pass_164 (by decide) ?_
                              have he7 : (true : Bool) = (mX5_pass_V2 mF mR kd dd i3 tb3 i2 i1) := (by rw [mX5_pass_V2, if_neg c_13, if_neg c_14])
                              exact et_stki (congrArg zI he7) (hj2 ls (lv_sub hl [0, 1, 2, 3, 4, 5, 6, 7] rfl))
                            ·
                              refine lv_aload_n hx hb dX5_pass_146 rfl (lv_at hl 5 rfl) ?_
                              refine lv_iload_n hx hb dX5_pass_147 rfl (lv_at hl 6 rfl) ?_
                              refine lv_iload hx hb dX5_pass_148 (lv_at hl 3 rfl) ?_
                              refine lv_iload hx hb dX5_pass_150 (lv_at hl 2 rfl) ?_
                              refine lv_iload hx hb dX5_pass_152 (lv_at hl 0 rfl) ?_
                              refine lv_iload_n hx hb dX5_pass_154 rfl (lv_at hl 7 rfl) ?_
                              refine lv_iconst (v := (1 : Int32)) hx hb dX5_pass_155 (by decide) ?_
                              refine lv_isub hx hb dX5_pass_156 ?_
                              refine et_callP1 (v := .int (zI (mX5_manReaches mF mR tb3 kd (nI i1) (nI i2) (nI i3) (dd - (1 : Int32))))) (va_runV (As := [.int kd, .int (nI i1), .int (nI i2), .int (nI i3), .int (dd - (1 : Int32))]) (rest := []) ⟨hx, hb, hml, hown, hts⟩ (c_X5_manReaches l g md r1 r2 r3 r4 mF mR th tb3 bu gr mt mk mw mm mb ms ml my kd (nI i1) (nI i2) (nI i3) (dd - (1 : Int32)) (by assumption) (by assumption) (by assumption) (et_r64i (by omega)) (et_r64i (by omega))) (cwV 5 hts (W0_gV w_862 w_864 w_65 w_82 w_865) rfl rfl rfl (by decide +kernel) ⟨Nat.le_of_ble_eq_true rfl, Nat.le_of_ble_eq_true rfl⟩) (et_preV hP hC [0, 1, 2, 3, 4] rfl (ci := 5) (q0 := 0) rfl rfl) rfl rfl hl.1 rfl (lv_room (Nat.le_of_ble_eq_true rfl)) dX5_pass_157 ⟨Nat.le_of_ble_eq_true rfl, Nat.le_of_ble_eq_true rfl⟩) ?_
                              refine lv_if_eq (tgt := 167) hx hb dX5_pass_160 (by decide) (fun c_15 => ?_) (fun c_15 => ?_)
                              ·
                                refine lv_iconst (v := (0 : Int32)) hx hb dX5_pass_167 (by decide) ?_
                                have he8 : (false : Bool) = (mX5_pass_V2 mF mR kd dd i3 tb3 i2 i1) := (by rw [mX5_pass_V2, if_neg c_13, if_pos c_14, if_pos c_15])
                                exact et_stki (congrArg zI he8) (hj2 ls (lv_sub hl [0, 1, 2, 3, 4, 5, 6, 7] rfl))
                              ·
                                refine lv_iconst (v := (1 : Int32)) hx hb dX5_pass_163 (by decide) ?_
                                refine lv_goto (tgt := 168) hx hb dX5_pass_164 (by decide) ?_
                                have he9 : (true : Bool) = (mX5_pass_V2 mF mR kd dd i3 tb3 i2 i1) := (by rw [mX5_pass_V2, if_neg c_13, if_pos c_14, if_neg c_15])
                                exact et_stki (congrArg zI he9) (hj2 ls (lv_sub hl [0, 1, 2, 3, 4, 5, 6, 7] rfl))
                          ·
                            refine lv_aload_n hx hb dX5_pass_106 rfl (lv_at hl 5 rfl) ?_
                            refine lv_iload_n hx hb dX5_pass_107 rfl (lv_at hl 6 rfl) ?_
                            refine lv_iload hx hb dX5_pass_108 (lv_at hl 3 rfl) ?_
                            refine lv_iload hx hb dX5_pass_110 (lv_at hl 2 rfl) ?_
                            refine lv_iload hx hb dX5_pass_112 (lv_at hl 0 rfl) ?_
                            have hj3 : ∀ ls : Array Slot, lv_has ls 9 [(7, .int (nI i3)), (4, .int (zI some3)), (6, .int (nI i2)), (5, .int (nI i1)), (3, .int (mX5_pass_V1 dd)), (0, .ref md), (1, .int kd), (2, .int dd)] → W p l e ({ frames := 4, cells := 0, slots := 0, locals := 109 } : Room) s m args below meth c H locs 0 0 (MQ below (et_QW g ([(md, .inr (5, [.int th, .int mF, .int mR, .ref r1, .ref r2, .ref r3, .int (zI mt), .int mk, .int mw, .int mm, .int mb, .int ms, .ref r4, .int my])), (r1, .inl (gJ g, 327680, .inr (.inl tb))), (r2, .inl (gZ g, 6, .inl bu)), (r3, .inl (gI g, 6, .inl gr)), (r4, .inl (gI g, 64, .inl ml))]) ([(md, .inr (5, [.int th, .int mF, .int mR, .ref r1, .ref r2, .ref r3, .int (zI mt), .int mk, .int mw, .int mm, .int mb, .int ms, .ref r4, .int my])), (r1, .inl (gJ g, 327680, .inr (.inl ((mX5_pass mF mR tb kd dd).2)))), (r2, .inl (gZ g, 6, .inl bu)), (r3, .inl (gI g, 6, .inl gr)), (r4, .inl (gI g, 64, .inl ml))]) (some (.int (zI ((mX5_pass mF mR tb kd dd).1))))) args s 0 0 (et_ad ([(md, .inr (5, [.int th, .int mF, .int mR, .ref r1, .ref r2, .ref r3, .int (zI mt), .int mk, .int mw, .int mm, .int mb, .int ms, .ref r4, .int my])), (r1, .inl (gJ g, 327680, .inr (.inl tb))), (r2, .inl (gZ g, 6, .inl bu)), (r3, .inl (gI g, 6, .inl gr)), (r4, .inl (gI g, 64, .inl ml))]))) (F0 m 123 ls [.int (zI (mX5_pass_V3 dd)), .int (nI i3), .int (nI i2), .int (nI i1), .int kd, .ref md]) := by
                              intro ls hl
                              refine et_callP1 (v := .int (zI (mX5_isLost mF mR tb3 kd (nI i1) (nI i2) (nI i3) (mX5_pass_V3 dd)))) (va_runV (As := [.int kd, .int (nI i1), .int (nI i2), .int (nI i3), .int (zI (mX5_pass_V3 dd))]) (rest := []) ⟨hx, hb, hml, hown, hts⟩ (c_X5_isLost l g md r1 r2 r3 r4 mF mR th tb3 bu gr mt mk mw mm mb ms ml my kd (nI i1) (nI i2) (nI i3) (mX5_pass_V3 dd) (by assumption) (by assumption) (by assumption) (et_r64i (by omega)) (et_r64i (by omega))) (cwV 5 hts (W0_gV w_846 w_848 w_61 w_82 w_849) rfl rfl rfl (by decide +kernel) ⟨Nat.le_of_ble_eq_true rfl, Nat.le_of_ble_eq_true rfl⟩) (et_preV hP hC [0, 1, 2, 3, 4] rfl (ci := 5) (q0 := 0) rfl rfl) rfl rfl hl.1 rfl (lv_room (Nat.le_of_ble_eq_true rfl)) dX5_pass_123 ⟨Nat.le_of_ble_eq_true rfl, Nat.le_of_ble_eq_true rfl⟩) ?_
                              refine lv_goto (tgt := 168) hx hb dX5_pass_126 (by decide) ?_
                              have he10 : ((mX5_isLost mF mR tb3 kd (nI i1) (nI i2) (nI i3) (mX5_pass_V3 dd)) : Bool) = (mX5_pass_V2 mF mR kd dd i3 tb3 i2 i1) := (by rw [mX5_pass_V2, if_pos c_13])
                              exact et_stki (congrArg zI he10) (hj2 ls (lv_sub hl [0, 1, 2, 3, 4, 5, 6, 7] rfl))
                            refine lv_iload_n hx hb dX5_pass_114 rfl (lv_at hl 7 rfl) ?_
                            refine lv_if_ne (tgt := 122) hx hb dX5_pass_115 (by decide) (fun c_16 => ?_) (fun c_16 => ?_)
                            ·
                              refine lv_iconst (v := (0 : Int32)) hx hb dX5_pass_122 (by decide) ?_
                              have he11 : (false : Bool) = (mX5_pass_V3 dd) := (by rw [mX5_pass_V3, if_neg c_16])
                              exact et_stki (congrArg zI he11) (hj3 ls (lv_sub hl [0, 1, 2, 3, 4, 5, 6, 7] rfl))
                            ·
                              refine lv_iconst (v := (1 : Int32)) hx hb dX5_pass_118 (by decide) ?_
                              refine lv_goto (tgt := 123) hx hb dX5_pass_119 (by decide) ?_
                              have he12 : (true : Bool) = (mX5_pass_V3 dd) := (by rw [mX5_pass_V3, if_pos c_16])
                              exact et_stki (congrArg zI he12) (hj3 ls (lv_sub hl [0, 1, 2, 3, 4, 5, 6, 7] rfl))
              exact hL3 64 0 some2 tb2 (by omega) rfl _ _ hP hD hS ls (lv_sub hl [0, 2, 1, 3, 4, 5, 6, 7] rfl)
        exact hL2 64 0 some1 tb1 (by omega) rfl _ _ hP hD hS ls (lv_sub hl [0, 2, 1, 3, 4, 5, 6] rfl)
    exact hL1 64 0 false tb (by omega) rfl _ _ hP hD hS ls (lv_sub hl [0, 1, 2, 3, 4, 5] rfl)
  refine lv_iload_n hx hb dX5_pass_0 rfl (lv_at hl 2 rfl) ?_
  refine lv_iconst (v := (2 : Int32)) hx hb dX5_pass_1 (by decide) ?_
  refine lv_irem hx hb dX5_pass_2 (by decide) ?_
  refine lv_iconst (v := (1 : Int32)) hx hb dX5_pass_3 (by decide) ?_
  refine lv_icmp_ne (tgt := 11) hx hb dX5_pass_4 (by decide) (fun c_17 => ?_) (fun c_17 => ?_)
  ·
    refine lv_iconst (v := (1 : Int32)) hx hb dX5_pass_11 (by decide) ?_
    have he13 : ((1 : Int32) : Int32) = (mX5_pass_V1 dd) := (by rw [mX5_pass_V1, if_neg c_17])
    exact et_stki he13 (hj1 ls (lv_sub hl [0, 1, 2] rfl))
  ·
    refine lv_iconst (v := (0 : Int32)) hx hb dX5_pass_7 (by decide) ?_
    refine lv_goto (tgt := 12) hx hb dX5_pass_8 (by decide) ?_
    have he14 : ((0 : Int32) : Int32) = (mX5_pass_V1 dd) := (by rw [mX5_pass_V1, if_pos c_17])
    exact et_stki he14 (hj1 ls (lv_sub hl [0, 1, 2] rfl))

def mX5_passAll_V2 (mF : Int32) (mR : Int32) (kd : Int32) (idle1 : Int32) (dd1 : Int32) (tb1 : Nat → Int64) : Int32 :=
  if (zI ((mX5_pass mF mR tb1 kd dd1).1)) = 0 then
    idle1 + (1 : Int32)
  else
    (0 : Int32)
def mX5_passAll_V1 (mF : Int32) (mR : Int32) (kd : Int32) (dd1 : Int32) (tb1 : Nat → Int64) (gr1 : Nat → Int32) : Int32 :=
  if (zI ((mX5_pass mF mR tb1 kd dd1).1)) = 0 then
    gr1 kd.toNatClampNeg
  else
    dd1
def mX5_passAll_V4 (mF : Int32) (mR : Int32) (kd : Int32) (idle1 : Int32) (dd1 : Int32) (tb1 : Nat → Int64) : Int32 :=
  if (zI ((mX5_pass mF mR tb1 kd dd1).1)) = 0 then
    idle1 + (1 : Int32)
  else
    (0 : Int32)
def mX5_passAll_V3 (mF : Int32) (mR : Int32) (kd : Int32) (dd1 : Int32) (tb1 : Nat → Int64) (gr1 : Nat → Int32) : Int32 :=
  if (zI ((mX5_pass mF mR tb1 kd dd1).1)) = 0 then
    gr1 kd.toNatClampNeg
  else
    dd1
def mX5_passAll_L1_ok (mF : Int32) (mR : Int32) (kd : Int32) (least : Int32) : Nat → Nat → Int32 → Int32 → (Nat → Int64) → (Nat → Int32) → Bool
  | 0, i1, idle1, dd1, tb1, gr1 => false
  | k1 + 1, i1, idle1, dd1, tb1, gr1 =>
    if dd1 ≤ least then
      mX5_passAll_L1_ok mF mR kd least k1 (i1 + 1) (mX5_passAll_V2 mF mR kd idle1 dd1 tb1) (dd1 + (1 : Int32)) ((mX5_pass mF mR tb1 kd dd1).2) (upd gr1 kd.toNatClampNeg (mX5_passAll_V1 mF mR kd dd1 tb1 gr1))
    else
      if (2 : Int32) ≤ idle1 then
        true
      else
        mX5_passAll_L1_ok mF mR kd least k1 (i1 + 1) (mX5_passAll_V4 mF mR kd idle1 dd1 tb1) (dd1 + (1 : Int32)) ((mX5_pass mF mR tb1 kd dd1).2) (upd gr1 kd.toNatClampNeg (mX5_passAll_V3 mF mR kd dd1 tb1 gr1))
def mX5_passAll_L1 (mF : Int32) (mR : Int32) (kd : Int32) (least : Int32) : Nat → Nat → Int32 → Int32 → (Nat → Int64) → (Nat → Int32) → Int32 × Int32 × (Nat → Int64) × (Nat → Int32)
  | 0, i1, idle1, dd1, tb1, gr1 =>
    (idle1, dd1, tb1, gr1)
  | k1 + 1, i1, idle1, dd1, tb1, gr1 =>
    if dd1 ≤ least then
      mX5_passAll_L1 mF mR kd least k1 (i1 + 1) (mX5_passAll_V2 mF mR kd idle1 dd1 tb1) (dd1 + (1 : Int32)) ((mX5_pass mF mR tb1 kd dd1).2) (upd gr1 kd.toNatClampNeg (mX5_passAll_V1 mF mR kd dd1 tb1 gr1))
    else
      if (2 : Int32) ≤ idle1 then
        (idle1, dd1, tb1, gr1)
      else
        mX5_passAll_L1 mF mR kd least k1 (i1 + 1) (mX5_passAll_V4 mF mR kd idle1 dd1 tb1) (dd1 + (1 : Int32)) ((mX5_pass mF mR tb1 kd dd1).2) (upd gr1 kd.toNatClampNeg (mX5_passAll_V3 mF mR kd dd1 tb1 gr1))
def mX5_passAll (mF : Int32) (mR : Int32) (tb : Nat → Int64) (gr : Nat → Int32) (fu : Nat) (kd : Int32) (least : Int32) : (Nat → Int64) × (Nat → Int32) :=
  ((mX5_passAll_L1 mF mR kd least fu 0 (0 : Int32) (0 : Int32) tb (upd gr kd.toNatClampNeg (-1 : Int32))).2.2.1, (mX5_passAll_L1 mF mR kd least fu 0 (0 : Int32) (0 : Int32) tb (upd gr kd.toNatClampNeg (-1 : Int32))).2.2.2)
set_option maxHeartbeats 4000000 in
set_option maxRecDepth 100000 in
theorem c_X5_passAll (l : Launch) (g : et_G) (md : Nat) (r1 : Nat) (r2 : Nat) (r3 : Nat) (r4 : Nat) (mF : Int32) (mR : Int32) (th : Int32) (tb : Nat → Int64) (bu : Nat → Int32) (gr : Nat → Int32) (mt : Bool) (mk : Int32) (mw : Int32) (mm : Int32) (mb : Int32) (ms : Int32) (ml : Nat → Int32) (my : Int32) (fu : Nat) (kd : Int32) (least : Int32) (hF : et_b8 mF) (hR : et_b8 mR) (hkd : et_kd kd) (hT : mX5_passAll_L1_ok mF mR kd least fu 0 (0 : Int32) (0 : Int32) tb (upd gr kd.toNatClampNeg (-1 : Int32)) = true) : Met l yX5_passAll (Cond.code yX5_passAll cX5_passAll 6 none :: W0) ({ frames := 5, cells := 0, slots := 0, locals := 137 } : Room) (et_PcW g ([(md, .inr (5, [.int th, .int mF, .int mR, .ref r1, .ref r2, .ref r3, .int (zI mt), .int mk, .int mw, .int mm, .int mb, .int ms, .ref r4, .int my])), (r1, .inl (gJ g, 327680, .inr (.inl tb))), (r2, .inl (gZ g, 6, .inl bu)), (r3, .inl (gI g, 6, .inl gr)), (r4, .inl (gI g, 64, .inl ml))]) [.ref md, .int kd, .int least]) (et_QW g ([(md, .inr (5, [.int th, .int mF, .int mR, .ref r1, .ref r2, .ref r3, .int (zI mt), .int mk, .int mw, .int mm, .int mb, .int ms, .ref r4, .int my])), (r1, .inl (gJ g, 327680, .inr (.inl tb))), (r2, .inl (gZ g, 6, .inl bu)), (r3, .inl (gI g, 6, .inl gr)), (r4, .inl (gI g, 64, .inl ml))]) ([(md, .inr (5, [.int th, .int mF, .int mR, .ref r1, .ref r2, .ref r3, .int (zI mt), .int mk, .int mw, .int mm, .int mb, .int ms, .ref r4, .int my])), (r1, .inl (gJ g, 327680, .inr (.inl ((mX5_passAll mF mR tb gr fu kd least).1)))), (r2, .inl (gZ g, 6, .inl (upd bu kd.toNatClampNeg (vp_nar .boolean (1 : Int32))))), (r3, .inl (gI g, 6, .inl ((mX5_passAll mF mR tb gr fu kd least).2))), (r4, .inl (gI g, 64, .inl ml))]) none) 0 0 (et_ad ([(md, .inr (5, [.int th, .int mF, .int mR, .ref r1, .ref r2, .ref r3, .int (zI mt), .int mk, .int mw, .int mm, .int mb, .int ms, .ref r4, .int my])), (r1, .inl (gJ g, 327680, .inr (.inl tb))), (r2, .inl (gZ g, 6, .inl bu)), (r3, .inl (gI g, 6, .inl gr)), (r4, .inl (gI g, 64, .inl ml))])) := by
  refine et_startW (by decide) rfl (Nat.le_of_ble_eq_true rfl) ?_
  intro p e s m args below meth c hx hb hr hts0 hown hlocks hml hP hC hD hS ls hl
  have hts : ∀ w ∈ W0, w.before args s = true := fun w h => hts0 w (List.mem_cons_of_mem _ h)
  have hown : s.vm.findClass RX5 = some m.cls := hown
  have hl : lv_has ls 6 [(0, .ref md), (1, .int kd), (2, .int least)] := hl
  refine lv_aload_n hx hb dX5_passAll_0 rfl (lv_at hl 0 rfl) ?_
  refine va_get (D := gD g) (ci := 5) (v := .ref r2) (C := RX5) (T := TX5) (N := 14) hx hb hts inW_X5 hown hC.1 hP 0 rfl rfl 4 (by decide) (hts _ w_737) (fun _ h9 => h9) rfl dX5_passAll_1 ?_
  refine lv_iload_n hx hb dX5_passAll_4 rfl (lv_at hl 1 rfl) ?_
  refine lv_iconst (v := (1 : Int32)) hx hb dX5_passAll_5 (by decide) ?_
  refine va_zast (D := gD g) hx hb hC.1 hP hD hS 2 2 rfl rfl (et_kd_in hkd) dX5_passAll_6 (fun H locs hP hD hS => ?_)
  have hP : va_P (gD g) vwCl ([(md, .inr (5, [.int th, .int mF, .int mR, .ref r1, .ref r2, .ref r3, .int (zI mt), .int mk, .int mw, .int mm, .int mb, .int ms, .ref r4, .int my])), (r1, .inl (gJ g, 327680, .inr (.inl tb))), (r2, .inl (gZ g, 6, .inl (upd bu kd.toNatClampNeg (vp_nar .boolean (1 : Int32))))), (r3, .inl (gI g, 6, .inl gr)), (r4, .inl (gI g, 64, .inl ml))]) H := hP
  have hD : va_D (et_ad ([(md, .inr (5, [.int th, .int mF, .int mR, .ref r1, .ref r2, .ref r3, .int (zI mt), .int mk, .int mw, .int mm, .int mb, .int ms, .ref r4, .int my])), (r1, .inl (gJ g, 327680, .inr (.inl tb))), (r2, .inl (gZ g, 6, .inl bu)), (r3, .inl (gI g, 6, .inl gr)), (r4, .inl (gI g, 64, .inl ml))])) ([(md, .inr (5, [.int th, .int mF, .int mR, .ref r1, .ref r2, .ref r3, .int (zI mt), .int mk, .int mw, .int mm, .int mb, .int ms, .ref r4, .int my])), (r1, .inl (gJ g, 327680, .inr (.inl tb))), (r2, .inl (gZ g, 6, .inl (upd bu kd.toNatClampNeg (vp_nar .boolean (1 : Int32))))), (r3, .inl (gI g, 6, .inl gr)), (r4, .inl (gI g, 64, .inl ml))]) := hD
  refine lv_aload_n hx hb dX5_passAll_7 rfl (lv_at hl 0 rfl) ?_
  refine va_get (D := gD g) (ci := 5) (v := .ref r3) (C := RX5) (T := TX5) (N := 14) hx hb hts inW_X5 hown hC.1 hP 0 rfl rfl 5 (by decide) (hts _ w_738) (fun _ h9 => h9) rfl dX5_passAll_8 ?_
  refine lv_iload_n hx hb dX5_passAll_11 rfl (lv_at hl 1 rfl) ?_
  refine lv_iconst (v := (-1 : Int32)) hx hb dX5_passAll_12 (by decide) ?_
  refine va_iast (D := gD g) hx hb hC.1 hP hD hS 3 0 rfl rfl (et_kd_in hkd) dX5_passAll_13 (fun H locs hP hD hS => ?_)
  have hP : va_P (gD g) vwCl ([(md, .inr (5, [.int th, .int mF, .int mR, .ref r1, .ref r2, .ref r3, .int (zI mt), .int mk, .int mw, .int mm, .int mb, .int ms, .ref r4, .int my])), (r1, .inl (gJ g, 327680, .inr (.inl tb))), (r2, .inl (gZ g, 6, .inl (upd bu kd.toNatClampNeg (vp_nar .boolean (1 : Int32))))), (r3, .inl (gI g, 6, .inl (upd gr kd.toNatClampNeg (-1 : Int32)))), (r4, .inl (gI g, 64, .inl ml))]) H := hP
  have hD : va_D (et_ad ([(md, .inr (5, [.int th, .int mF, .int mR, .ref r1, .ref r2, .ref r3, .int (zI mt), .int mk, .int mw, .int mm, .int mb, .int ms, .ref r4, .int my])), (r1, .inl (gJ g, 327680, .inr (.inl tb))), (r2, .inl (gZ g, 6, .inl bu)), (r3, .inl (gI g, 6, .inl gr)), (r4, .inl (gI g, 64, .inl ml))])) ([(md, .inr (5, [.int th, .int mF, .int mR, .ref r1, .ref r2, .ref r3, .int (zI mt), .int mk, .int mw, .int mm, .int mb, .int ms, .ref r4, .int my])), (r1, .inl (gJ g, 327680, .inr (.inl tb))), (r2, .inl (gZ g, 6, .inl (upd bu kd.toNatClampNeg (vp_nar .boolean (1 : Int32))))), (r3, .inl (gI g, 6, .inl (upd gr kd.toNatClampNeg (-1 : Int32)))), (r4, .inl (gI g, 64, .inl ml))]) := hD
  refine lv_iconst (v := (0 : Int32)) hx hb dX5_passAll_14 (by decide) ?_
  refine lv_istore_n (lv' := [(3, .int (0 : Int32)), (0, .ref md), (1, .int kd), (2, .int least)]) hx hb dX5_passAll_15 rfl hl (by decide) rfl (fun ls hl => ?_)
  refine lv_iconst (v := (0 : Int32)) hx hb dX5_passAll_16 (by decide) ?_
  refine lv_istore (lv' := [(4, .int (0 : Int32)), (3, .int (0 : Int32)), (0, .ref md), (1, .int kd), (2, .int least)]) hx hb dX5_passAll_17 hl (by decide) rfl (fun ls hl => ?_)
  have hx1 : ∀ (H : Heap) (locs : List Loc), va_P (gD g) vwCl ([(md, .inr (5, [.int th, .int mF, .int mR, .ref r1, .ref r2, .ref r3, .int (zI mt), .int mk, .int mw, .int mm, .int mb, .int ms, .ref r4, .int my])), (r1, .inl (gJ g, 327680, .inr (.inl ((mX5_passAll_L1 mF mR kd least fu 0 (0 : Int32) (0 : Int32) tb (upd gr kd.toNatClampNeg (-1 : Int32))).2.2.1)))), (r2, .inl (gZ g, 6, .inl (upd bu kd.toNatClampNeg (vp_nar .boolean (1 : Int32))))), (r3, .inl (gI g, 6, .inl ((mX5_passAll_L1 mF mR kd least fu 0 (0 : Int32) (0 : Int32) tb (upd gr kd.toNatClampNeg (-1 : Int32))).2.2.2))), (r4, .inl (gI g, 64, .inl ml))]) H → va_D (et_ad ([(md, .inr (5, [.int th, .int mF, .int mR, .ref r1, .ref r2, .ref r3, .int (zI mt), .int mk, .int mw, .int mm, .int mb, .int ms, .ref r4, .int my])), (r1, .inl (gJ g, 327680, .inr (.inl tb))), (r2, .inl (gZ g, 6, .inl bu)), (r3, .inl (gI g, 6, .inl gr)), (r4, .inl (gI g, 64, .inl ml))])) ([(md, .inr (5, [.int th, .int mF, .int mR, .ref r1, .ref r2, .ref r3, .int (zI mt), .int mk, .int mw, .int mm, .int mb, .int ms, .ref r4, .int my])), (r1, .inl (gJ g, 327680, .inr (.inl ((mX5_passAll_L1 mF mR kd least fu 0 (0 : Int32) (0 : Int32) tb (upd gr kd.toNatClampNeg (-1 : Int32))).2.2.1)))), (r2, .inl (gZ g, 6, .inl (upd bu kd.toNatClampNeg (vp_nar .boolean (1 : Int32))))), (r3, .inl (gI g, 6, .inl ((mX5_passAll_L1 mF mR kd least fu 0 (0 : Int32) (0 : Int32) tb (upd gr kd.toNatClampNeg (-1 : Int32))).2.2.2))), (r4, .inl (gI g, 64, .inl ml))]) → va_S (et_ad ([(md, .inr (5, [.int th, .int mF, .int mR, .ref r1, .ref r2, .ref r3, .int (zI mt), .int mk, .int mw, .int mm, .int mb, .int ms, .ref r4, .int my])), (r1, .inl (gJ g, 327680, .inr (.inl tb))), (r2, .inl (gZ g, 6, .inl bu)), (r3, .inl (gI g, 6, .inl gr)), (r4, .inl (gI g, 64, .inl ml))])) s.heap H locs → ∀ ls : Array Slot, lv_has ls 6 [(3, .int ((mX5_passAll_L1 mF mR kd least fu 0 (0 : Int32) (0 : Int32) tb (upd gr kd.toNatClampNeg (-1 : Int32))).1)), (4, .int ((mX5_passAll_L1 mF mR kd least fu 0 (0 : Int32) (0 : Int32) tb (upd gr kd.toNatClampNeg (-1 : Int32))).2.1)), (0, .ref md), (1, .int kd), (2, .int least)] → W p l e ({ frames := 5, cells := 0, slots := 0, locals := 137 } : Room) s m args below meth c H locs 0 0 (MQ below (et_QW g ([(md, .inr (5, [.int th, .int mF, .int mR, .ref r1, .ref r2, .ref r3, .int (zI mt), .int mk, .int mw, .int mm, .int mb, .int ms, .ref r4, .int my])), (r1, .inl (gJ g, 327680, .inr (.inl tb))), (r2, .inl (gZ g, 6, .inl bu)), (r3, .inl (gI g, 6, .inl gr)), (r4, .inl (gI g, 64, .inl ml))]) ([(md, .inr (5, [.int th, .int mF, .int mR, .ref r1, .ref r2, .ref r3, .int (zI mt), .int mk, .int mw, .int mm, .int mb, .int ms, .ref r4, .int my])), (r1, .inl (gJ g, 327680, .inr (.inl ((mX5_passAll mF mR tb gr fu kd least).1)))), (r2, .inl (gZ g, 6, .inl (upd bu kd.toNatClampNeg (vp_nar .boolean (1 : Int32))))), (r3, .inl (gI g, 6, .inl ((mX5_passAll mF mR tb gr fu kd least).2))), (r4, .inl (gI g, 64, .inl ml))]) none) args s 0 0 (et_ad ([(md, .inr (5, [.int th, .int mF, .int mR, .ref r1, .ref r2, .ref r3, .int (zI mt), .int mk, .int mw, .int mm, .int mb, .int ms, .ref r4, .int my])), (r1, .inl (gJ g, 327680, .inr (.inl tb))), (r2, .inl (gZ g, 6, .inl bu)), (r3, .inl (gI g, 6, .inl gr)), (r4, .inl (gI g, 64, .inl ml))]))) (F0 m 80 ls []) := by
    intro H locs hP hD hS ls hl
    have hfin : ((mX5_passAll_L1 mF mR kd least fu 0 (0 : Int32) (0 : Int32) tb (upd gr kd.toNatClampNeg (-1 : Int32))).2.2.1, (mX5_passAll_L1 mF mR kd least fu 0 (0 : Int32) (0 : Int32) tb (upd gr kd.toNatClampNeg (-1 : Int32))).2.2.2) = (mX5_passAll mF mR tb gr fu kd least) := (by rw [mX5_passAll])
    exact et_vretW hx hb hr hlocks dX5_passAll_80 hP hS (by rw [← hfin])
  have hL1 : ∀ (k1 i1 : Nat) (idle1 : Int32) (dd1 : Int32) (tb1 : Nat → Int64) (gr1 : Nat → Int32), i1 + k1 = fu → (mX5_passAll_L1_ok mF mR kd least k1 i1 idle1 dd1 tb1 gr1 = true) → mX5_passAll_L1 mF mR kd least k1 i1 idle1 dd1 tb1 gr1 = (mX5_passAll_L1 mF mR kd least fu 0 (0 : Int32) (0 : Int32) tb (upd gr kd.toNatClampNeg (-1 : Int32))) → ∀ (H : Heap) (locs : List Loc), va_P (gD g) vwCl ([(md, .inr (5, [.int th, .int mF, .int mR, .ref r1, .ref r2, .ref r3, .int (zI mt), .int mk, .int mw, .int mm, .int mb, .int ms, .ref r4, .int my])), (r1, .inl (gJ g, 327680, .inr (.inl tb1))), (r2, .inl (gZ g, 6, .inl (upd bu kd.toNatClampNeg (vp_nar .boolean (1 : Int32))))), (r3, .inl (gI g, 6, .inl gr1)), (r4, .inl (gI g, 64, .inl ml))]) H → va_D (et_ad ([(md, .inr (5, [.int th, .int mF, .int mR, .ref r1, .ref r2, .ref r3, .int (zI mt), .int mk, .int mw, .int mm, .int mb, .int ms, .ref r4, .int my])), (r1, .inl (gJ g, 327680, .inr (.inl tb))), (r2, .inl (gZ g, 6, .inl bu)), (r3, .inl (gI g, 6, .inl gr)), (r4, .inl (gI g, 64, .inl ml))])) ([(md, .inr (5, [.int th, .int mF, .int mR, .ref r1, .ref r2, .ref r3, .int (zI mt), .int mk, .int mw, .int mm, .int mb, .int ms, .ref r4, .int my])), (r1, .inl (gJ g, 327680, .inr (.inl tb1))), (r2, .inl (gZ g, 6, .inl (upd bu kd.toNatClampNeg (vp_nar .boolean (1 : Int32))))), (r3, .inl (gI g, 6, .inl gr1)), (r4, .inl (gI g, 64, .inl ml))]) → va_S (et_ad ([(md, .inr (5, [.int th, .int mF, .int mR, .ref r1, .ref r2, .ref r3, .int (zI mt), .int mk, .int mw, .int mm, .int mb, .int ms, .ref r4, .int my])), (r1, .inl (gJ g, 327680, .inr (.inl tb))), (r2, .inl (gZ g, 6, .inl bu)), (r3, .inl (gI g, 6, .inl gr)), (r4, .inl (gI g, 64, .inl ml))])) s.heap H locs → ∀ ls : Array Slot, lv_has ls 6 [(3, .int idle1), (4, .int dd1), (0, .ref md), (1, .int kd), (2, .int least)] → W p l e ({ frames := 5, cells := 0, slots := 0, locals := 137 } : Room) s m args below meth c H locs 0 0 (MQ below (et_QW g ([(md, .inr (5, [.int th, .int mF, .int mR, .ref r1, .ref r2, .ref r3, .int (zI mt), .int mk, .int mw, .int mm, .int mb, .int ms, .ref r4, .int my])), (r1, .inl (gJ g, 327680, .inr (.inl tb))), (r2, .inl (gZ g, 6, .inl bu)), (r3, .inl (gI g, 6, .inl gr)), (r4, .inl (gI g, 64, .inl ml))]) ([(md, .inr (5, [.int th, .int mF, .int mR, .ref r1, .ref r2, .ref r3, .int (zI mt), .int mk, .int mw, .int mm, .int mb, .int ms, .ref r4, .int my])), (r1, .inl (gJ g, 327680, .inr (.inl ((mX5_passAll mF mR tb gr fu kd least).1)))), (r2, .inl (gZ g, 6, .inl (upd bu kd.toNatClampNeg (vp_nar .boolean (1 : Int32))))), (r3, .inl (gI g, 6, .inl ((mX5_passAll mF mR tb gr fu kd least).2))), (r4, .inl (gI g, 64, .inl ml))]) none) args s 0 0 (et_ad ([(md, .inr (5, [.int th, .int mF, .int mR, .ref r1, .ref r2, .ref r3, .int (zI mt), .int mk, .int mw, .int mm, .int mb, .int ms, .ref r4, .int my])), (r1, .inl (gJ g, 327680, .inr (.inl tb))), (r2, .inl (gZ g, 6, .inl bu)), (r3, .inl (gI g, 6, .inl gr)), (r4, .inl (gI g, 64, .inl ml))]))) (F0 m 19 ls []) := by
    intro k1
    induction k1 with
    | zero =>
      intro i1 idle1 dd1 tb1 gr1 hik hv1_0 hm H locs hP hD hS ls hl
      exact absurd hv1_0 (by rw [mX5_passAll_L1_ok]; decide)
    | succ k1 ih1 =>
      intro i1 idle1 dd1 tb1 gr1 hik hv1_0 hm H locs hP hD hS ls hl
      refine lv_iload hx hb dX5_passAll_19 (lv_at hl 1 rfl) ?_
      refine lv_iload_n hx hb dX5_passAll_21 rfl (lv_at hl 4 rfl) ?_
      refine lv_icmp_le (tgt := 30) hx hb dX5_passAll_22 (by decide) (fun c_1 => ?_) (fun c_1 => ?_)
      ·
        refine lv_aload_n hx hb dX5_passAll_30 rfl (lv_at hl 2 rfl) ?_
        refine lv_iload_n hx hb dX5_passAll_31 rfl (lv_at hl 3 rfl) ?_
        refine lv_iload hx hb dX5_passAll_32 (lv_at hl 1 rfl) ?_
        refine et_callW1 (v := .int (zI ((mX5_pass mF mR tb1 kd dd1).1))) (ws' := [(md, .inr (5, [.int th, .int mF, .int mR, .ref r1, .ref r2, .ref r3, .int (zI mt), .int mk, .int mw, .int mm, .int mb, .int ms, .ref r4, .int my])), (r1, .inl (gJ g, 327680, .inr (.inl ((mX5_pass mF mR tb1 kd dd1).2)))), (r2, .inl (gZ g, 6, .inl (upd bu kd.toNatClampNeg (vp_nar .boolean (1 : Int32))))), (r3, .inl (gI g, 6, .inl gr1)), (r4, .inl (gI g, 64, .inl ml))]) (va_runV (As := [.int kd, .int dd1]) (rest := []) ⟨hx, hb, hml, hown, hts⟩ (c_X5_pass l g md r1 r2 r3 r4 mF mR th tb1 (upd bu kd.toNatClampNeg (vp_nar .boolean (1 : Int32))) gr1 mt mk mw mm mb ms ml my kd dd1 (by assumption) (by assumption) (by assumption)) (cwV 2 hts (W0_gV w_833 w_835 w_59 w_82 w_836) rfl rfl rfl (by decide +kernel) ⟨Nat.le_of_ble_eq_true rfl, Nat.le_of_ble_eq_true rfl⟩) (et_preVW hP hC hD [0, 1, 2, 3, 4] (by decide) rfl (ci := 5) (q0 := 0) rfl rfl) rfl rfl hl.1 rfl (lv_room (Nat.le_of_ble_eq_true rfl)) dX5_passAll_34 ⟨Nat.le_of_ble_eq_true rfl, Nat.le_of_ble_eq_true rfl⟩) hP hD hS [0, 1, 2, 3, 4] [] 5 rfl [md, r1, r2, r3, r4] rfl rfl rfl [] rfl rfl rfl (by decide +kernel) (fun H locs hP hD hS => ?_)
        refine lv_istore (lv' := [(5, .int (zI ((mX5_pass mF mR tb1 kd dd1).1))), (3, .int idle1), (4, .int dd1), (0, .ref md), (1, .int kd), (2, .int least)]) hx hb dX5_passAll_37 hl (by decide) rfl (fun ls hl => ?_)
        refine lv_aload_n hx hb dX5_passAll_39 rfl (lv_at hl 3 rfl) ?_
        refine va_get (D := gD g) (ci := 5) (v := .ref r3) (C := RX5) (T := TX5) (N := 14) hx hb hts inW_X5 hown hC.1 hP 0 rfl rfl 5 (by decide) (hts _ w_738) (fun _ h9 => h9) rfl dX5_passAll_40 ?_
        refine lv_iload_n hx hb dX5_passAll_43 rfl (lv_at hl 4 rfl) ?_
        have hj1 : ∀ ls : Array Slot, lv_has ls 6 [(5, .int (zI ((mX5_pass mF mR tb1 kd dd1).1))), (3, .int idle1), (4, .int dd1), (0, .ref md), (1, .int kd), (2, .int least)] → W p l e ({ frames := 5, cells := 0, slots := 0, locals := 137 } : Room) s m args below meth c H locs 0 0 (MQ below (et_QW g ([(md, .inr (5, [.int th, .int mF, .int mR, .ref r1, .ref r2, .ref r3, .int (zI mt), .int mk, .int mw, .int mm, .int mb, .int ms, .ref r4, .int my])), (r1, .inl (gJ g, 327680, .inr (.inl tb))), (r2, .inl (gZ g, 6, .inl bu)), (r3, .inl (gI g, 6, .inl gr)), (r4, .inl (gI g, 64, .inl ml))]) ([(md, .inr (5, [.int th, .int mF, .int mR, .ref r1, .ref r2, .ref r3, .int (zI mt), .int mk, .int mw, .int mm, .int mb, .int ms, .ref r4, .int my])), (r1, .inl (gJ g, 327680, .inr (.inl ((mX5_passAll mF mR tb gr fu kd least).1)))), (r2, .inl (gZ g, 6, .inl (upd bu kd.toNatClampNeg (vp_nar .boolean (1 : Int32))))), (r3, .inl (gI g, 6, .inl ((mX5_passAll mF mR tb gr fu kd least).2))), (r4, .inl (gI g, 64, .inl ml))]) none) args s 0 0 (et_ad ([(md, .inr (5, [.int th, .int mF, .int mR, .ref r1, .ref r2, .ref r3, .int (zI mt), .int mk, .int mw, .int mm, .int mb, .int ms, .ref r4, .int my])), (r1, .inl (gJ g, 327680, .inr (.inl tb))), (r2, .inl (gZ g, 6, .inl bu)), (r3, .inl (gI g, 6, .inl gr)), (r4, .inl (gI g, 64, .inl ml))]))) (F0 m 60 ls [.int (mX5_passAll_V1 mF mR kd dd1 tb1 gr1), .int kd, .ref r3]) := by
          intro ls hl
          refine va_iast (D := gD g) hx hb hC.1 hP hD hS 3 0 rfl rfl (et_kd_in hkd) dX5_passAll_60 (fun H locs hP hD hS => ?_)
          have hP : va_P (gD g) vwCl ([(md, .inr (5, [.int th, .int mF, .int mR, .ref r1, .ref r2, .ref r3, .int (zI mt), .int mk, .int mw, .int mm, .int mb, .int ms, .ref r4, .int my])), (r1, .inl (gJ g, 327680, .inr (.inl ((mX5_pass mF mR tb1 kd dd1).2)))), (r2, .inl (gZ g, 6, .inl (upd bu kd.toNatClampNeg (vp_nar .boolean (1 : Int32))))), (r3, .inl (gI g, 6, .inl (upd gr1 kd.toNatClampNeg (mX5_passAll_V1 mF mR kd dd1 tb1 gr1)))), (r4, .inl (gI g, 64, .inl ml))]) H := hP
          have hD : va_D (et_ad ([(md, .inr (5, [.int th, .int mF, .int mR, .ref r1, .ref r2, .ref r3, .int (zI mt), .int mk, .int mw, .int mm, .int mb, .int ms, .ref r4, .int my])), (r1, .inl (gJ g, 327680, .inr (.inl tb))), (r2, .inl (gZ g, 6, .inl bu)), (r3, .inl (gI g, 6, .inl gr)), (r4, .inl (gI g, 64, .inl ml))])) ([(md, .inr (5, [.int th, .int mF, .int mR, .ref r1, .ref r2, .ref r3, .int (zI mt), .int mk, .int mw, .int mm, .int mb, .int ms, .ref r4, .int my])), (r1, .inl (gJ g, 327680, .inr (.inl ((mX5_pass mF mR tb1 kd dd1).2)))), (r2, .inl (gZ g, 6, .inl (upd bu kd.toNatClampNeg (vp_nar .boolean (1 : Int32))))), (r3, .inl (gI g, 6, .inl (upd gr1 kd.toNatClampNeg (mX5_passAll_V1 mF mR kd dd1 tb1 gr1)))), (r4, .inl (gI g, 64, .inl ml))]) := hD
          have hj2 : ∀ ls : Array Slot, lv_has ls 6 [(5, .int (zI ((mX5_pass mF mR tb1 kd dd1).1))), (3, .int idle1), (4, .int dd1), (0, .ref md), (1, .int kd), (2, .int least)] → W p l e ({ frames := 5, cells := 0, slots := 0, locals := 137 } : Room) s m args below meth c H locs 0 0 (MQ below (et_QW g ([(md, .inr (5, [.int th, .int mF, .int mR, .ref r1, .ref r2, .ref r3, .int (zI mt), .int mk, .int mw, .int mm, .int mb, .int ms, .ref r4, .int my])), (r1, .inl (gJ g, 327680, .inr (.inl tb))), (r2, .inl (gZ g, 6, .inl bu)), (r3, .inl (gI g, 6, .inl gr)), (r4, .inl (gI g, 64, .inl ml))]) ([(md, .inr (5, [.int th, .int mF, .int mR, .ref r1, .ref r2, .ref r3, .int (zI mt), .int mk, .int mw, .int mm, .int mb, .int ms, .ref r4, .int my])), (r1, .inl (gJ g, 327680, .inr (.inl ((mX5_passAll mF mR tb gr fu kd least).1)))), (r2, .inl (gZ g, 6, .inl (upd bu kd.toNatClampNeg (vp_nar .boolean (1 : Int32))))), (r3, .inl (gI g, 6, .inl ((mX5_passAll mF mR tb gr fu kd least).2))), (r4, .inl (gI g, 64, .inl ml))]) none) args s 0 0 (et_ad ([(md, .inr (5, [.int th, .int mF, .int mR, .ref r1, .ref r2, .ref r3, .int (zI mt), .int mk, .int mw, .int mm, .int mb, .int ms, .ref r4, .int my])), (r1, .inl (gJ g, 327680, .inr (.inl tb))), (r2, .inl (gZ g, 6, .inl bu)), (r3, .inl (gI g, 6, .inl gr)), (r4, .inl (gI g, 64, .inl ml))]))) (F0 m 73 ls [.int (mX5_passAll_V2 mF mR kd idle1 dd1 tb1)]) := by
            intro ls hl
            refine lv_istore_n (lv' := [(3, .int (mX5_passAll_V2 mF mR kd idle1 dd1 tb1)), (5, .int (zI ((mX5_pass mF mR tb1 kd dd1).1))), (4, .int dd1), (0, .ref md), (1, .int kd), (2, .int least)]) hx hb dX5_passAll_73 rfl hl (by decide) rfl (fun ls hl => ?_)
            refine lv_iinc (v := dd1 + (1 : Int32)) (lv' := [(4, .int (dd1 + (1 : Int32))), (3, .int (mX5_passAll_V2 mF mR kd idle1 dd1 tb1)), (5, .int (zI ((mX5_pass mF mR tb1 kd dd1).1))), (0, .ref md), (1, .int kd), (2, .int least)]) hx hb dX5_passAll_74 hl (k := 2) rfl rfl (by decide) rfl (fun ls hl => ?_)
            refine lv_goto (tgt := 19) hx hb dX5_passAll_77 (by decide) ?_
            exact ih1 (i1 + 1) (mX5_passAll_V2 mF mR kd idle1 dd1 tb1) (dd1 + (1 : Int32)) ((mX5_pass mF mR tb1 kd dd1).2) (upd gr1 kd.toNatClampNeg (mX5_passAll_V1 mF mR kd dd1 tb1 gr1)) (by omega) ((by rw [mX5_passAll_L1_ok, if_pos c_1] : mX5_passAll_L1_ok mF mR kd least (k1 + 1) i1 idle1 dd1 tb1 gr1 = mX5_passAll_L1_ok mF mR kd least k1 (i1 + 1) (mX5_passAll_V2 mF mR kd idle1 dd1 tb1) (dd1 + (1 : Int32)) ((mX5_pass mF mR tb1 kd dd1).2) (upd gr1 kd.toNatClampNeg (mX5_passAll_V1 mF mR kd dd1 tb1 gr1))).symm.trans hv1_0) ((by rw [mX5_passAll_L1, if_pos c_1] : mX5_passAll_L1 mF mR kd least (k1 + 1) i1 idle1 dd1 tb1 gr1 = mX5_passAll_L1 mF mR kd least k1 (i1 + 1) (mX5_passAll_V2 mF mR kd idle1 dd1 tb1) (dd1 + (1 : Int32)) ((mX5_pass mF mR tb1 kd dd1).2) (upd gr1 kd.toNatClampNeg (mX5_passAll_V1 mF mR kd dd1 tb1 gr1))).symm.trans hm) _ _ hP hD hS ls (lv_sub hl [1, 0, 3, 4, 5] rfl)
          refine lv_iload hx hb dX5_passAll_61 (lv_at hl 0 rfl) ?_
          refine lv_if_eq (tgt := 70) hx hb dX5_passAll_63 (by decide) (fun c_2 => ?_) (fun c_2 => ?_)
          ·
            refine lv_iload_n hx hb dX5_passAll_70 rfl (lv_at hl 1 rfl) ?_
            refine lv_iconst (v := (1 : Int32)) hx hb dX5_passAll_71 (by decide) ?_
            refine lv_iadd hx hb dX5_passAll_72 ?_
            have he1 : (idle1 + (1 : Int32) : Int32) = (mX5_passAll_V2 mF mR kd idle1 dd1 tb1) := (by rw [mX5_passAll_V2, if_pos c_2])
            exact et_stki he1 (hj2 ls (lv_sub hl [0, 1, 2, 3, 4, 5] rfl))
          ·
            refine lv_iconst (v := (0 : Int32)) hx hb dX5_passAll_66 (by decide) ?_
            refine lv_goto (tgt := 73) hx hb dX5_passAll_67 (by decide) ?_
            have he2 : ((0 : Int32) : Int32) = (mX5_passAll_V2 mF mR kd idle1 dd1 tb1) := (by rw [mX5_passAll_V2, if_neg c_2])
            exact et_stki he2 (hj2 ls (lv_sub hl [0, 1, 2, 3, 4, 5] rfl))
        refine lv_iload hx hb dX5_passAll_44 (lv_at hl 0 rfl) ?_
        refine lv_if_eq (tgt := 54) hx hb dX5_passAll_46 (by decide) (fun c_3 => ?_) (fun c_3 => ?_)
        ·
          refine lv_aload_n hx hb dX5_passAll_54 rfl (lv_at hl 3 rfl) ?_
          refine va_get (D := gD g) (ci := 5) (v := .ref r3) (C := RX5) (T := TX5) (N := 14) hx hb hts inW_X5 hown hC.1 hP 0 rfl rfl 5 (by decide) (hts _ w_738) (fun _ h9 => h9) rfl dX5_passAll_55 ?_
          refine lv_iload_n hx hb dX5_passAll_58 rfl (lv_at hl 4 rfl) ?_
          refine va_iald (D := gD g) hx hb hC.1 hP 3 0 rfl rfl (et_kd_in hkd) dX5_passAll_59 ?_
          have he3 : (gr1 kd.toNatClampNeg : Int32) = (mX5_passAll_V1 mF mR kd dd1 tb1 gr1) := (by rw [mX5_passAll_V1, if_pos c_3])
          exact et_stki he3 (hj1 ls (lv_sub hl [0, 1, 2, 3, 4, 5] rfl))
        ·
          refine lv_iload hx hb dX5_passAll_49 (lv_at hl 2 rfl) ?_
          refine lv_goto (tgt := 60) hx hb dX5_passAll_51 (by decide) ?_
          have he4 : (dd1 : Int32) = (mX5_passAll_V1 mF mR kd dd1 tb1 gr1) := (by rw [mX5_passAll_V1, if_neg c_3])
          exact et_stki he4 (hj1 ls (lv_sub hl [0, 1, 2, 3, 4, 5] rfl))
      ·
        refine lv_iload_n hx hb dX5_passAll_25 rfl (lv_at hl 0 rfl) ?_
        refine lv_iconst (v := (2 : Int32)) hx hb dX5_passAll_26 (by decide) ?_
        refine lv_icmp_ge (tgt := 80) hx hb dX5_passAll_27 (by decide) (fun c_4 => ?_) (fun c_4 => ?_)
        ·
          have hq5 : (idle1, dd1, tb1, gr1) = (mX5_passAll_L1 mF mR kd least fu 0 (0 : Int32) (0 : Int32) tb (upd gr kd.toNatClampNeg (-1 : Int32))) := (by rw [mX5_passAll_L1, if_neg c_1, if_pos c_4] : mX5_passAll_L1 mF mR kd least (k1 + 1) i1 idle1 dd1 tb1 gr1 = (idle1, dd1, tb1, gr1)).symm.trans hm
          have hq5_0 : idle1 = (mX5_passAll_L1 mF mR kd least fu 0 (0 : Int32) (0 : Int32) tb (upd gr kd.toNatClampNeg (-1 : Int32))).1 := congrArg (fun z => z.1) hq5
          have hq5_1 : dd1 = (mX5_passAll_L1 mF mR kd least fu 0 (0 : Int32) (0 : Int32) tb (upd gr kd.toNatClampNeg (-1 : Int32))).2.1 := congrArg (fun z => z.2.1) hq5
          have hq5_2 : tb1 = (mX5_passAll_L1 mF mR kd least fu 0 (0 : Int32) (0 : Int32) tb (upd gr kd.toNatClampNeg (-1 : Int32))).2.2.1 := congrArg (fun z => z.2.2.1) hq5
          have hq5_3 : gr1 = (mX5_passAll_L1 mF mR kd least fu 0 (0 : Int32) (0 : Int32) tb (upd gr kd.toNatClampNeg (-1 : Int32))).2.2.2 := congrArg (fun z => z.2.2.2) hq5
          exact hx1 _ _ (by rw [← hq5_2, ← hq5_3]; exact hP) (by rw [← hq5_2, ← hq5_3]; exact hD) hS ls (by rw [← hq5_0, ← hq5_1]; exact lv_sub hl [0, 1, 2, 3, 4] rfl)
        ·
          refine lv_aload_n hx hb dX5_passAll_30 rfl (lv_at hl 2 rfl) ?_
          refine lv_iload_n hx hb dX5_passAll_31 rfl (lv_at hl 3 rfl) ?_
          refine lv_iload hx hb dX5_passAll_32 (lv_at hl 1 rfl) ?_
          refine et_callW1 (v := .int (zI ((mX5_pass mF mR tb1 kd dd1).1))) (ws' := [(md, .inr (5, [.int th, .int mF, .int mR, .ref r1, .ref r2, .ref r3, .int (zI mt), .int mk, .int mw, .int mm, .int mb, .int ms, .ref r4, .int my])), (r1, .inl (gJ g, 327680, .inr (.inl ((mX5_pass mF mR tb1 kd dd1).2)))), (r2, .inl (gZ g, 6, .inl (upd bu kd.toNatClampNeg (vp_nar .boolean (1 : Int32))))), (r3, .inl (gI g, 6, .inl gr1)), (r4, .inl (gI g, 64, .inl ml))]) (va_runV (As := [.int kd, .int dd1]) (rest := []) ⟨hx, hb, hml, hown, hts⟩ (c_X5_pass l g md r1 r2 r3 r4 mF mR th tb1 (upd bu kd.toNatClampNeg (vp_nar .boolean (1 : Int32))) gr1 mt mk mw mm mb ms ml my kd dd1 (by assumption) (by assumption) (by assumption)) (cwV 2 hts (W0_gV w_833 w_835 w_59 w_82 w_836) rfl rfl rfl (by decide +kernel) ⟨Nat.le_of_ble_eq_true rfl, Nat.le_of_ble_eq_true rfl⟩) (et_preVW hP hC hD [0, 1, 2, 3, 4] (by decide) rfl (ci := 5) (q0 := 0) rfl rfl) rfl rfl hl.1 rfl (lv_room (Nat.le_of_ble_eq_true rfl)) dX5_passAll_34 ⟨Nat.le_of_ble_eq_true rfl, Nat.le_of_ble_eq_true rfl⟩) hP hD hS [0, 1, 2, 3, 4] [] 5 rfl [md, r1, r2, r3, r4] rfl rfl rfl [] rfl rfl rfl (by decide +kernel) (fun H locs hP hD hS => ?_)
          refine lv_istore (lv' := [(5, .int (zI ((mX5_pass mF mR tb1 kd dd1).1))), (3, .int idle1), (4, .int dd1), (0, .ref md), (1, .int kd), (2, .int least)]) hx hb dX5_passAll_37 hl (by decide) rfl (fun ls hl => ?_)
          refine lv_aload_n hx hb dX5_passAll_39 rfl (lv_at hl 3 rfl) ?_
          refine va_get (D := gD g) (ci := 5) (v := .ref r3) (C := RX5) (T := TX5) (N := 14) hx hb hts inW_X5 hown hC.1 hP 0 rfl rfl 5 (by decide) (hts _ w_738) (fun _ h9 => h9) rfl dX5_passAll_40 ?_
          refine lv_iload_n hx hb dX5_passAll_43 rfl (lv_at hl 4 rfl) ?_
          have hj3 : ∀ ls : Array Slot, lv_has ls 6 [(5, .int (zI ((mX5_pass mF mR tb1 kd dd1).1))), (3, .int idle1), (4, .int dd1), (0, .ref md), (1, .int kd), (2, .int least)] → W p l e ({ frames := 5, cells := 0, slots := 0, locals := 137 } : Room) s m args below meth c H locs 0 0 (MQ below (et_QW g ([(md, .inr (5, [.int th, .int mF, .int mR, .ref r1, .ref r2, .ref r3, .int (zI mt), .int mk, .int mw, .int mm, .int mb, .int ms, .ref r4, .int my])), (r1, .inl (gJ g, 327680, .inr (.inl tb))), (r2, .inl (gZ g, 6, .inl bu)), (r3, .inl (gI g, 6, .inl gr)), (r4, .inl (gI g, 64, .inl ml))]) ([(md, .inr (5, [.int th, .int mF, .int mR, .ref r1, .ref r2, .ref r3, .int (zI mt), .int mk, .int mw, .int mm, .int mb, .int ms, .ref r4, .int my])), (r1, .inl (gJ g, 327680, .inr (.inl ((mX5_passAll mF mR tb gr fu kd least).1)))), (r2, .inl (gZ g, 6, .inl (upd bu kd.toNatClampNeg (vp_nar .boolean (1 : Int32))))), (r3, .inl (gI g, 6, .inl ((mX5_passAll mF mR tb gr fu kd least).2))), (r4, .inl (gI g, 64, .inl ml))]) none) args s 0 0 (et_ad ([(md, .inr (5, [.int th, .int mF, .int mR, .ref r1, .ref r2, .ref r3, .int (zI mt), .int mk, .int mw, .int mm, .int mb, .int ms, .ref r4, .int my])), (r1, .inl (gJ g, 327680, .inr (.inl tb))), (r2, .inl (gZ g, 6, .inl bu)), (r3, .inl (gI g, 6, .inl gr)), (r4, .inl (gI g, 64, .inl ml))]))) (F0 m 60 ls [.int (mX5_passAll_V3 mF mR kd dd1 tb1 gr1), .int kd, .ref r3]) := by
            intro ls hl
            refine va_iast (D := gD g) hx hb hC.1 hP hD hS 3 0 rfl rfl (et_kd_in hkd) dX5_passAll_60 (fun H locs hP hD hS => ?_)
            have hP : va_P (gD g) vwCl ([(md, .inr (5, [.int th, .int mF, .int mR, .ref r1, .ref r2, .ref r3, .int (zI mt), .int mk, .int mw, .int mm, .int mb, .int ms, .ref r4, .int my])), (r1, .inl (gJ g, 327680, .inr (.inl ((mX5_pass mF mR tb1 kd dd1).2)))), (r2, .inl (gZ g, 6, .inl (upd bu kd.toNatClampNeg (vp_nar .boolean (1 : Int32))))), (r3, .inl (gI g, 6, .inl (upd gr1 kd.toNatClampNeg (mX5_passAll_V3 mF mR kd dd1 tb1 gr1)))), (r4, .inl (gI g, 64, .inl ml))]) H := hP
            have hD : va_D (et_ad ([(md, .inr (5, [.int th, .int mF, .int mR, .ref r1, .ref r2, .ref r3, .int (zI mt), .int mk, .int mw, .int mm, .int mb, .int ms, .ref r4, .int my])), (r1, .inl (gJ g, 327680, .inr (.inl tb))), (r2, .inl (gZ g, 6, .inl bu)), (r3, .inl (gI g, 6, .inl gr)), (r4, .inl (gI g, 64, .inl ml))])) ([(md, .inr (5, [.int th, .int mF, .int mR, .ref r1, .ref r2, .ref r3, .int (zI mt), .int mk, .int mw, .int mm, .int mb, .int ms, .ref r4, .int my])), (r1, .inl (gJ g, 327680, .inr (.inl ((mX5_pass mF mR tb1 kd dd1).2)))), (r2, .inl (gZ g, 6, .inl (upd bu kd.toNatClampNeg (vp_nar .boolean (1 : Int32))))), (r3, .inl (gI g, 6, .inl (upd gr1 kd.toNatClampNeg (mX5_passAll_V3 mF mR kd dd1 tb1 gr1)))), (r4, .inl (gI g, 64, .inl ml))]) := hD
            have hj4 : ∀ ls : Array Slot, lv_has ls 6 [(5, .int (zI ((mX5_pass mF mR tb1 kd dd1).1))), (3, .int idle1), (4, .int dd1), (0, .ref md), (1, .int kd), (2, .int least)] → W p l e ({ frames := 5, cells := 0, slots := 0, locals := 137 } : Room) s m args below meth c H locs 0 0 (MQ below (et_QW g ([(md, .inr (5, [.int th, .int mF, .int mR, .ref r1, .ref r2, .ref r3, .int (zI mt), .int mk, .int mw, .int mm, .int mb, .int ms, .ref r4, .int my])), (r1, .inl (gJ g, 327680, .inr (.inl tb))), (r2, .inl (gZ g, 6, .inl bu)), (r3, .inl (gI g, 6, .inl gr)), (r4, .inl (gI g, 64, .inl ml))]) ([(md, .inr (5, [.int th, .int mF, .int mR, .ref r1, .ref r2, .ref r3, .int (zI mt), .int mk, .int mw, .int mm, .int mb, .int ms, .ref r4, .int my])), (r1, .inl (gJ g, 327680, .inr (.inl ((mX5_passAll mF mR tb gr fu kd least).1)))), (r2, .inl (gZ g, 6, .inl (upd bu kd.toNatClampNeg (vp_nar .boolean (1 : Int32))))), (r3, .inl (gI g, 6, .inl ((mX5_passAll mF mR tb gr fu kd least).2))), (r4, .inl (gI g, 64, .inl ml))]) none) args s 0 0 (et_ad ([(md, .inr (5, [.int th, .int mF, .int mR, .ref r1, .ref r2, .ref r3, .int (zI mt), .int mk, .int mw, .int mm, .int mb, .int ms, .ref r4, .int my])), (r1, .inl (gJ g, 327680, .inr (.inl tb))), (r2, .inl (gZ g, 6, .inl bu)), (r3, .inl (gI g, 6, .inl gr)), (r4, .inl (gI g, 64, .inl ml))]))) (F0 m 73 ls [.int (mX5_passAll_V4 mF mR kd idle1 dd1 tb1)]) := by
              intro ls hl
              refine lv_istore_n (lv' := [(3, .int (mX5_passAll_V4 mF mR kd idle1 dd1 tb1)), (5, .int (zI ((mX5_pass mF mR tb1 kd dd1).1))), (4, .int dd1), (0, .ref md), (1, .int kd), (2, .int least)]) hx hb dX5_passAll_73 rfl hl (by decide) rfl (fun ls hl => ?_)
              refine lv_iinc (v := dd1 + (1 : Int32)) (lv' := [(4, .int (dd1 + (1 : Int32))), (3, .int (mX5_passAll_V4 mF mR kd idle1 dd1 tb1)), (5, .int (zI ((mX5_pass mF mR tb1 kd dd1).1))), (0, .ref md), (1, .int kd), (2, .int least)]) hx hb dX5_passAll_74 hl (k := 2) rfl rfl (by decide) rfl (fun ls hl => ?_)
              refine lv_goto (tgt := 19) hx hb dX5_passAll_77 (by decide) ?_
              exact ih1 (i1 + 1) (mX5_passAll_V4 mF mR kd idle1 dd1 tb1) (dd1 + (1 : Int32)) ((mX5_pass mF mR tb1 kd dd1).2) (upd gr1 kd.toNatClampNeg (mX5_passAll_V3 mF mR kd dd1 tb1 gr1)) (by omega) ((by rw [mX5_passAll_L1_ok, if_neg c_1, if_neg c_4] : mX5_passAll_L1_ok mF mR kd least (k1 + 1) i1 idle1 dd1 tb1 gr1 = mX5_passAll_L1_ok mF mR kd least k1 (i1 + 1) (mX5_passAll_V4 mF mR kd idle1 dd1 tb1) (dd1 + (1 : Int32)) ((mX5_pass mF mR tb1 kd dd1).2) (upd gr1 kd.toNatClampNeg (mX5_passAll_V3 mF mR kd dd1 tb1 gr1))).symm.trans hv1_0) ((by rw [mX5_passAll_L1, if_neg c_1, if_neg c_4] : mX5_passAll_L1 mF mR kd least (k1 + 1) i1 idle1 dd1 tb1 gr1 = mX5_passAll_L1 mF mR kd least k1 (i1 + 1) (mX5_passAll_V4 mF mR kd idle1 dd1 tb1) (dd1 + (1 : Int32)) ((mX5_pass mF mR tb1 kd dd1).2) (upd gr1 kd.toNatClampNeg (mX5_passAll_V3 mF mR kd dd1 tb1 gr1))).symm.trans hm) _ _ hP hD hS ls (lv_sub hl [1, 0, 3, 4, 5] rfl)
            refine lv_iload hx hb dX5_passAll_61 (lv_at hl 0 rfl) ?_
            refine lv_if_eq (tgt := 70) hx hb dX5_passAll_63 (by decide) (fun c_5 => ?_) (fun c_5 => ?_)
            ·
              refine lv_iload_n hx hb dX5_passAll_70 rfl (lv_at hl 1 rfl) ?_
              refine lv_iconst (v := (1 : Int32)) hx hb dX5_passAll_71 (by decide) ?_
              refine lv_iadd hx hb dX5_passAll_72 ?_
              have he6 : (idle1 + (1 : Int32) : Int32) = (mX5_passAll_V4 mF mR kd idle1 dd1 tb1) := (by rw [mX5_passAll_V4, if_pos c_5])
              exact et_stki he6 (hj4 ls (lv_sub hl [0, 1, 2, 3, 4, 5] rfl))
            ·
              refine lv_iconst (v := (0 : Int32)) hx hb dX5_passAll_66 (by decide) ?_
              refine lv_goto (tgt := 73) hx hb dX5_passAll_67 (by decide) ?_
              have he7 : ((0 : Int32) : Int32) = (mX5_passAll_V4 mF mR kd idle1 dd1 tb1) := (by rw [mX5_passAll_V4, if_neg c_5])
              exact et_stki he7 (hj4 ls (lv_sub hl [0, 1, 2, 3, 4, 5] rfl))
          refine lv_iload hx hb dX5_passAll_44 (lv_at hl 0 rfl) ?_
          refine lv_if_eq (tgt := 54) hx hb dX5_passAll_46 (by decide) (fun c_6 => ?_) (fun c_6 => ?_)
          ·
            refine lv_aload_n hx hb dX5_passAll_54 rfl (lv_at hl 3 rfl) ?_
            refine va_get (D := gD g) (ci := 5) (v := .ref r3) (C := RX5) (T := TX5) (N := 14) hx hb hts inW_X5 hown hC.1 hP 0 rfl rfl 5 (by decide) (hts _ w_738) (fun _ h9 => h9) rfl dX5_passAll_55 ?_
            refine lv_iload_n hx hb dX5_passAll_58 rfl (lv_at hl 4 rfl) ?_
            refine va_iald (D := gD g) hx hb hC.1 hP 3 0 rfl rfl (et_kd_in hkd) dX5_passAll_59 ?_
            have he8 : (gr1 kd.toNatClampNeg : Int32) = (mX5_passAll_V3 mF mR kd dd1 tb1 gr1) := (by rw [mX5_passAll_V3, if_pos c_6])
            exact et_stki he8 (hj3 ls (lv_sub hl [0, 1, 2, 3, 4, 5] rfl))
          ·
            refine lv_iload hx hb dX5_passAll_49 (lv_at hl 2 rfl) ?_
            refine lv_goto (tgt := 60) hx hb dX5_passAll_51 (by decide) ?_
            have he9 : (dd1 : Int32) = (mX5_passAll_V3 mF mR kd dd1 tb1 gr1) := (by rw [mX5_passAll_V3, if_neg c_6])
            exact et_stki he9 (hj3 ls (lv_sub hl [0, 1, 2, 3, 4, 5] rfl))
  exact hL1 fu 0 (0 : Int32) (0 : Int32) tb (upd gr kd.toNatClampNeg (-1 : Int32)) (by omega) hT rfl _ _ hP hD hS ls (lv_sub hl [1, 0, 2, 3, 4] rfl)
