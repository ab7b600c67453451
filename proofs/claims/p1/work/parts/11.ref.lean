section EtStk
variable {p : Program} {l : Launch} {e : Env} {R : Room} {s : State} {m : MethodId} {args : Array Value} {below : List Frame} {meth : Method} {c : Code} {H : Heap} {locs : List Loc} {cells slots : Nat} {Q : State → Prop} {pc : Nat} {ls : Array Slot} {rest : List Value}
theorem et_stki {v x : Int32} (he : v = x) (k : W p l e R s m args below meth c H locs cells slots Q (F0 m pc ls (.int x :: rest))) : W p l e R s m args below meth c H locs cells slots Q (F0 m pc ls (.int v :: rest)) := he ▸ k
theorem et_stkl {v x : Int64} (he : v = x) (k : W p l e R s m args below meth c H locs cells slots Q (F0 m pc ls (.long x :: rest))) : W p l e R s m args below meth c H locs cells slots Q (F0 m pc ls (.long v :: rest)) := he ▸ k
end EtStk
def et_b8 (x : Int32) : Prop := ∃ j : Nat, 3 ≤ j ∧ j ≤ 8 ∧ x = nI j
def et_r64 (x : Int32) : Prop := ∃ j : Nat, j < 64 ∧ x = nI j
def et_kd (x : Int32) : Prop := ∃ j : Nat, 1 ≤ j ∧ j ≤ 5 ∧ x = nI j
def et_sd (x : Int32) : Prop := x = 0 ∨ x = 1
theorem et_r64i {i : Nat} (h : i < 64) : et_r64 (nI i) := ⟨i, h, rfl⟩
theorem et_sd0 : et_sd 0 := Or.inl rfl
theorem et_sd1 : et_sd 1 := Or.inr rfl
theorem et_fT {i : Nat} (h : i = 3) : (2 : Int32) ≤ nI i - 1 := by subst h; decide
theorem et_fF {i : Nat} (h : i < 3) : ¬ (2 : Int32) ≤ nI i - 1 := et_dec (P := fun i => ¬ (2 : Int32) ≤ nI i - 1) (N := 3) (by decide +kernel) h
theorem et_fT5 {i : Nat} (h : i = 5) : (3 : Int32) ≤ nI i - 2 := by subst h; decide
theorem et_fF5 {i : Nat} (h : i < 5) : ¬ (3 : Int32) ≤ nI i - 2 := et_dec (P := fun i => ¬ (3 : Int32) ≤ nI i - 2) (N := 5) (by decide +kernel) h
theorem et_incM (c : Int32) (i : Nat) : nI i - c + Int32.ofInt 1 = nI (i + 1) - c := by
  rw [← et_inc, Int32.sub_eq_add_neg, Int32.sub_eq_add_neg, Int32.add_assoc, Int32.add_comm (-c), Int32.add_assoc]

def mX5_thrown (th : Int32) : Int32 :=
  th
set_option maxHeartbeats 4000000 in
set_option maxRecDepth 100000 in
theorem c_X5_thrown (l : Launch) (g : et_G) (md : Nat) (r1 : Nat) (r2 : Nat) (r3 : Nat) (r4 : Nat) (mF : Int32) (mR : Int32) (th : Int32) (tb : Nat → Int64) (bu : Nat → Int32) (gr : Nat → Int32) (mt : Bool) (mk : Int32) (mw : Int32) (mm : Int32) (mb : Int32) (ms : Int32) (ml : Nat → Int32) (my : Int32)  : Met l yX5_thrown (Cond.code yX5_thrown cX5_thrown 1 (some (.int)) :: W0) ({ frames := 0, cells := 0, slots := 0, locals := 0 } : Room) (et_Pc g ([(md, .inr (5, [.int th, .int mF, .int mR, .ref r1, .ref r2, .ref r3, .int (zI mt), .int mk, .int mw, .int mm, .int mb, .int ms, .ref r4, .int my])), (r1, .inl (gJ g, 327680, .inr (.inl tb))), (r2, .inl (gZ g, 6, .inl bu)), (r3, .inl (gI g, 6, .inl gr)), (r4, .inl (gI g, 64, .inl ml))]) [.ref md]) (et_QP (some (.int ((mX5_thrown th))))) 0 0 et_no := by
  refine et_startP (by decide) rfl (Nat.le_of_ble_eq_true rfl) ?_
  intro p e s m args below meth c hx hb hr hts0 hown hlocks hml hP hC ls hl
  have hts : ∀ w ∈ W0, w.before args s = true := fun w h => hts0 w (List.mem_cons_of_mem _ h)
  have hown : s.vm.findClass RX5 = some m.cls := hown
  have hl : lv_has ls 1 [(0, .ref md)] := hl
  refine lv_aload_n hx hb dX5_thrown_0 rfl (lv_at hl 0 rfl) ?_
  refine va_get (D := gD g) (ci := 5) (v := .int th) (C := RX5) (T := TX5) (N := 14) hx hb hts inW_X5 hown hC.1 hP 0 rfl rfl 0 (by decide) (hts _ w_733) (fun _ h9 => h9) rfl dX5_thrown_1 ?_
  have hfin : th = (mX5_thrown th) := (by rw [mX5_thrown])
  exact et_iret hx hb hr hlocks dX5_thrown_4 (hfin)

def mX5_isSquare (mF : Int32) (mR : Int32) (sq : Int32) : Bool :=
  if sq < 0 then
    false
  else
    if (64 : Int32) ≤ sq then
      false
    else
      if mF ≤ (sq - sq / (8 : Int32) * (8 : Int32)) then
        false
      else
        if mR ≤ (sq / (8 : Int32)) then
          false
        else
          true
set_option maxHeartbeats 4000000 in
set_option maxRecDepth 100000 in
theorem c_X5_isSquare (l : Launch) (g : et_G) (md : Nat) (r1 : Nat) (r2 : Nat) (r3 : Nat) (r4 : Nat) (mF : Int32) (mR : Int32) (th : Int32) (tb : Nat → Int64) (bu : Nat → Int32) (gr : Nat → Int32) (mt : Bool) (mk : Int32) (mw : Int32) (mm : Int32) (mb : Int32) (ms : Int32) (ml : Nat → Int32) (my : Int32) (sq : Int32)  : Met l yX5_isSquare (Cond.code yX5_isSquare cX5_isSquare 2 (some (.boolean)) :: W0) ({ frames := 0, cells := 0, slots := 0, locals := 0 } : Room) (et_Pc g ([(md, .inr (5, [.int th, .int mF, .int mR, .ref r1, .ref r2, .ref r3, .int (zI mt), .int mk, .int mw, .int mm, .int mb, .int ms, .ref r4, .int my])), (r1, .inl (gJ g, 327680, .inr (.inl tb))), (r2, .inl (gZ g, 6, .inl bu)), (r3, .inl (gI g, 6, .inl gr)), (r4, .inl (gI g, 64, .inl ml))]) [.ref md, .int sq]) (et_QP (some (.int (zI ((mX5_isSquare mF mR sq)))))) 0 0 et_no := by
  refine et_startP (by decide) rfl (Nat.le_of_ble_eq_true rfl) ?_
  intro p e s m args below meth c hx hb hr hts0 hown hlocks hml hP hC ls hl
  have hts : ∀ w ∈ W0, w.before args s = true := fun w h => hts0 w (List.mem_cons_of_mem _ h)
  have hown : s.vm.findClass RX5 = some m.cls := hown
  have hl : lv_has ls 2 [(0, .ref md), (1, .int sq)] := hl
  refine lv_iload_n hx hb dX5_isSquare_0 rfl (lv_at hl 1 rfl) ?_
  refine lv_if_lt (tgt := 36) hx hb dX5_isSquare_1 (by decide) (fun c_1 => ?_) (fun c_1 => ?_)
  ·
    refine lv_iconst (v := (0 : Int32)) hx hb dX5_isSquare_36 (by decide) ?_
    have hfin : false = (mX5_isSquare mF mR sq) := (by rw [mX5_isSquare, if_pos c_1])
    exact et_zret hx hb hr hlocks dX5_isSquare_37 (congrArg zI (hfin))
  ·
    refine lv_iload_n hx hb dX5_isSquare_4 rfl (lv_at hl 1 rfl) ?_
    refine lv_bipush (v := (64 : Int32)) hx hb dX5_isSquare_5 (by decide) ?_
    refine lv_icmp_ge (tgt := 36) hx hb dX5_isSquare_7 (by decide) (fun c_2 => ?_) (fun c_2 => ?_)
    ·
      refine lv_iconst (v := (0 : Int32)) hx hb dX5_isSquare_36 (by decide) ?_
      have hfin : false = (mX5_isSquare mF mR sq) := (by rw [mX5_isSquare, if_neg c_1, if_pos c_2])
      exact et_zret hx hb hr hlocks dX5_isSquare_37 (congrArg zI (hfin))
    ·
      refine lv_iload_n hx hb dX5_isSquare_10 rfl (lv_at hl 1 rfl) ?_
      refine lv_bipush (v := (8 : Int32)) hx hb dX5_isSquare_11 (by decide) ?_
      refine lv_irem hx hb dX5_isSquare_13 (by decide) ?_
      refine lv_aload_n hx hb dX5_isSquare_14 rfl (lv_at hl 0 rfl) ?_
      refine va_get (D := gD g) (ci := 5) (v := .int mF) (C := RX5) (T := TX5) (N := 14) hx hb hts inW_X5 hown hC.1 hP 0 rfl rfl 1 (by decide) (hts _ w_734) (fun _ h9 => h9) rfl dX5_isSquare_15 ?_
      refine lv_icmp_ge (tgt := 36) hx hb dX5_isSquare_18 (by decide) (fun c_3 => ?_) (fun c_3 => ?_)
      ·
        refine lv_iconst (v := (0 : Int32)) hx hb dX5_isSquare_36 (by decide) ?_
        have hfin : false = (mX5_isSquare mF mR sq) := (by rw [mX5_isSquare, if_neg c_1, if_neg c_2, if_pos c_3])
        exact et_zret hx hb hr hlocks dX5_isSquare_37 (congrArg zI (hfin))
      ·
        refine lv_iload_n hx hb dX5_isSquare_21 rfl (lv_at hl 1 rfl) ?_
        refine lv_bipush (v := (8 : Int32)) hx hb dX5_isSquare_22 (by decide) ?_
        refine lv_idiv hx hb dX5_isSquare_24 (by decide) ?_
        refine lv_aload_n hx hb dX5_isSquare_25 rfl (lv_at hl 0 rfl) ?_
        refine va_get (D := gD g) (ci := 5) (v := .int mR) (C := RX5) (T := TX5) (N := 14) hx hb hts inW_X5 hown hC.1 hP 0 rfl rfl 2 (by decide) (hts _ w_735) (fun _ h9 => h9) rfl dX5_isSquare_26 ?_
        refine lv_icmp_ge (tgt := 36) hx hb dX5_isSquare_29 (by decide) (fun c_4 => ?_) (fun c_4 => ?_)
        ·
          refine lv_iconst (v := (0 : Int32)) hx hb dX5_isSquare_36 (by decide) ?_
          have hfin : false = (mX5_isSquare mF mR sq) := (by rw [mX5_isSquare, if_neg c_1, if_neg c_2, if_neg c_3, if_pos c_4])
          exact et_zret hx hb hr hlocks dX5_isSquare_37 (congrArg zI (hfin))
        ·
          refine lv_iconst (v := (1 : Int32)) hx hb dX5_isSquare_32 (by decide) ?_
          refine lv_goto (tgt := 37) hx hb dX5_isSquare_33 (by decide) ?_
          have hfin : true = (mX5_isSquare mF mR sq) := (by rw [mX5_isSquare, if_neg c_1, if_neg c_2, if_neg c_3, if_neg c_4])
          exact et_zret hx hb hr hlocks dX5_isSquare_37 (congrArg zI (hfin))

def mX5_step (mF : Int32) (mR : Int32) (sq : Int32) (f_ : Int32) (r_ : Int32) : Int32 :=
  if ((sq - sq / (8 : Int32) * (8 : Int32)) + f_) < 0 then
    (-1 : Int32)
  else
    if mF ≤ ((sq - sq / (8 : Int32) * (8 : Int32)) + f_) then
      (-1 : Int32)
    else
      if ((sq / (8 : Int32)) + r_) < 0 then
        (-1 : Int32)
      else
        if mR ≤ ((sq / (8 : Int32)) + r_) then
          (-1 : Int32)
        else
          ((8 : Int32) * ((sq / (8 : Int32)) + r_)) + ((sq - sq / (8 : Int32) * (8 : Int32)) + f_)
theorem et_stepc (mF mR sq f r : Int32) : mX5_step mF mR sq f r = (-1 : Int32) ∨ ∃ x y : Int32, x = sq - sq / 8 * 8 + f ∧ y = sq / 8 + r ∧ 0 ≤ x ∧ x < mF ∧ 0 ≤ y ∧ y < mR ∧ mX5_step mF mR sq f r = 8 * y + x := by
  unfold mX5_step
  split
  · exact Or.inl rfl
  split
  · exact Or.inl rfl
  split
  · exact Or.inl rfl
  split
  · exact Or.inl rfl
  · rename_i h1 h2 h3 h4
    exact Or.inr ⟨_, _, rfl, rfl, Int32.not_lt.mp h1, Int32.not_le.mp h2, Int32.not_lt.mp h3, Int32.not_le.mp h4, rfl⟩
theorem et_lt8 {x M : Int32} (hM : et_b8 M) (h0 : 0 ≤ x) (h1 : x < M) : ∃ j : Nat, j < 8 ∧ x = nI j := by
  obtain ⟨n, h3, h8, rfl⟩ := hM
  rcases pk_ix x (n := n) (by omega) with h | h | ⟨j, hj, e⟩
  · exact absurd h (Int32.not_lt.mpr h0)
  · exact absurd h1 (Int32.not_lt.mpr h)
  · exact ⟨j, by omega, e⟩
theorem et_step_r {mF mR sq f r : Int32} (hF : et_b8 mF) (hR : et_b8 mR) : mX5_step mF mR sq f r = (-1 : Int32) ∨ et_r64 (mX5_step mF mR sq f r) := by
  rcases et_stepc mF mR sq f r with h | ⟨x, y, -, -, h1, h2, h3, h4, e⟩
  · exact Or.inl h
  · obtain ⟨a, ha, rfl⟩ := et_lt8 hF h1 h2
    obtain ⟨b, hb, rfl⟩ := et_lt8 hR h3 h4
    refine Or.inr ⟨8 * b + a, by omega, ?_⟩
    rw [e, show (8 : Int32) = nI 8 from rfl, pk_mul, nI_add]
theorem et_m1_r {x : Int32} (h : x = (-1 : Int32) ∨ et_r64 x) (h0 : ¬ x < 0) : et_r64 x := by
  rcases h with rfl | h
  · exact absurd (by decide) h0
  · exact h
theorem et_r64_nn {x : Int32} (h : et_r64 x) : ¬ x < 0 := by
  obtain ⟨j, hj, rfl⟩ := h
  exact nI_pos (by omega)
set_option maxHeartbeats 4000000 in
set_option maxRecDepth 100000 in
theorem c_X5_step (l : Launch) (g : et_G) (md : Nat) (r1 : Nat) (r2 : Nat) (r3 : Nat) (r4 : Nat) (mF : Int32) (mR : Int32) (th : Int32) (tb : Nat → Int64) (bu : Nat → Int32) (gr : Nat → Int32) (mt : Bool) (mk : Int32) (mw : Int32) (mm : Int32) (mb : Int32) (ms : Int32) (ml : Nat → Int32) (my : Int32) (sq : Int32) (f_ : Int32) (r_ : Int32)  : Met l yX5_step (Cond.code yX5_step cX5_step 6 (some (.int)) :: W0) ({ frames := 0, cells := 0, slots := 0, locals := 0 } : Room) (et_Pc g ([(md, .inr (5, [.int th, .int mF, .int mR, .ref r1, .ref r2, .ref r3, .int (zI mt), .int mk, .int mw, .int mm, .int mb, .int ms, .ref r4, .int my])), (r1, .inl (gJ g, 327680, .inr (.inl tb))), (r2, .inl (gZ g, 6, .inl bu)), (r3, .inl (gI g, 6, .inl gr)), (r4, .inl (gI g, 64, .inl ml))]) [.ref md, .int sq, .int f_, .int r_]) (et_QP (some (.int ((mX5_step mF mR sq f_ r_))))) 0 0 et_no := by
  refine et_startP (by decide) rfl (Nat.le_of_ble_eq_true rfl) ?_
  intro p e s m args below meth c hx hb hr hts0 hown hlocks hml hP hC ls hl
  have hts : ∀ w ∈ W0, w.before args s = true := fun w h => hts0 w (List.mem_cons_of_mem _ h)
  have hown : s.vm.findClass RX5 = some m.cls := hown
  have hl : lv_has ls 6 [(0, .ref md), (1, .int sq), (2, .int f_), (3, .int r_)] := hl
  refine lv_iload_n hx hb dX5_step_0 rfl (lv_at hl 1 rfl) ?_
  refine lv_bipush (v := (8 : Int32)) hx hb dX5_step_1 (by decide) ?_
  refine lv_irem hx hb dX5_step_3 (by decide) ?_
  refine lv_iload_n hx hb dX5_step_4 rfl (lv_at hl 2 rfl) ?_
  refine lv_iadd hx hb dX5_step_5 ?_
  refine lv_istore (lv' := [(4, .int ((sq - sq / (8 : Int32) * (8 : Int32)) + f_)), (0, .ref md), (1, .int sq), (2, .int f_), (3, .int r_)]) hx hb dX5_step_6 hl (by decide) rfl (fun ls hl => ?_)
  refine lv_iload_n hx hb dX5_step_8 rfl (lv_at hl 2 rfl) ?_
  refine lv_bipush (v := (8 : Int32)) hx hb dX5_step_9 (by decide) ?_
  refine lv_idiv hx hb dX5_step_11 (by decide) ?_
  refine lv_iload_n hx hb dX5_step_12 rfl (lv_at hl 4 rfl) ?_
  refine lv_iadd hx hb dX5_step_13 ?_
  refine lv_istore (lv' := [(5, .int ((sq / (8 : Int32)) + r_)), (4, .int ((sq - sq / (8 : Int32) * (8 : Int32)) + f_)), (0, .ref md), (1, .int sq), (2, .int f_), (3, .int r_)]) hx hb dX5_step_14 hl (by decide) rfl (fun ls hl => ?_)
  refine lv_iload hx hb dX5_step_16 (lv_at hl 1 rfl) ?_
  refine lv_if_lt (tgt := 55) hx hb dX5_step_18 (by decide) (fun c_1 => ?_) (fun c_1 => ?_)
  ·
    refine lv_iconst (v := (-1 : Int32)) hx hb dX5_step_55 (by decide) ?_
    have hfin : (-1 : Int32) = (mX5_step mF mR sq f_ r_) := (by rw [mX5_step, if_pos c_1])
    exact et_iret hx hb hr hlocks dX5_step_56 (hfin)
  ·
    refine lv_iload hx hb dX5_step_21 (lv_at hl 1 rfl) ?_
    refine lv_aload_n hx hb dX5_step_23 rfl (lv_at hl 2 rfl) ?_
    refine va_get (D := gD g) (ci := 5) (v := .int mF) (C := RX5) (T := TX5) (N := 14) hx hb hts inW_X5 hown hC.1 hP 0 rfl rfl 1 (by decide) (hts _ w_734) (fun _ h9 => h9) rfl dX5_step_24 ?_
    refine lv_icmp_ge (tgt := 55) hx hb dX5_step_27 (by decide) (fun c_2 => ?_) (fun c_2 => ?_)
    ·
      refine lv_iconst (v := (-1 : Int32)) hx hb dX5_step_55 (by decide) ?_
      have hfin : (-1 : Int32) = (mX5_step mF mR sq f_ r_) := (by rw [mX5_step, if_neg c_1, if_pos c_2])
      exact et_iret hx hb hr hlocks dX5_step_56 (hfin)
    ·
      refine lv_iload hx hb dX5_step_30 (lv_at hl 0 rfl) ?_
      refine lv_if_lt (tgt := 55) hx hb dX5_step_32 (by decide) (fun c_3 => ?_) (fun c_3 => ?_)
      ·
        refine lv_iconst (v := (-1 : Int32)) hx hb dX5_step_55 (by decide) ?_
        have hfin : (-1 : Int32) = (mX5_step mF mR sq f_ r_) := (by rw [mX5_step, if_neg c_1, if_neg c_2, if_pos c_3])
        exact et_iret hx hb hr hlocks dX5_step_56 (hfin)
      ·
        refine lv_iload hx hb dX5_step_35 (lv_at hl 0 rfl) ?_
        refine lv_aload_n hx hb dX5_step_37 rfl (lv_at hl 2 rfl) ?_
        refine va_get (D := gD g) (ci := 5) (v := .int mR) (C := RX5) (T := TX5) (N := 14) hx hb hts inW_X5 hown hC.1 hP 0 rfl rfl 2 (by decide) (hts _ w_735) (fun _ h9 => h9) rfl dX5_step_38 ?_
        refine lv_icmp_ge (tgt := 55) hx hb dX5_step_41 (by decide) (fun c_4 => ?_) (fun c_4 => ?_)
        ·
          refine lv_iconst (v := (-1 : Int32)) hx hb dX5_step_55 (by decide) ?_
          have hfin : (-1 : Int32) = (mX5_step mF mR sq f_ r_) := (by rw [mX5_step, if_neg c_1, if_neg c_2, if_neg c_3, if_pos c_4])
          exact et_iret hx hb hr hlocks dX5_step_56 (hfin)
        ·
          refine lv_bipush (v := (8 : Int32)) hx hb dX5_step_44 (by decide) ?_
          refine lv_iload hx hb dX5_step_46 (lv_at hl 0 rfl) ?_
          refine lv_imul hx hb dX5_step_48 ?_
          refine lv_iload hx hb dX5_step_49 (lv_at hl 1 rfl) ?_
          refine lv_iadd hx hb dX5_step_51 ?_
          refine lv_goto (tgt := 56) hx hb dX5_step_52 (by decide) ?_
          have hfin : ((8 : Int32) * ((sq / (8 : Int32)) + r_)) + ((sq - sq / (8 : Int32) * (8 : Int32)) + f_) = (mX5_step mF mR sq f_ r_) := (by rw [mX5_step, if_neg c_1, if_neg c_2, if_neg c_3, if_neg c_4])
          exact et_iret hx hb hr hlocks dX5_step_56 (hfin)

def mX5_apart (u_ : Int32) (v_ : Int32) : Int32 :=
  if u_ ≤ v_ then
    v_ - u_
  else
    u_ - v_
set_option maxHeartbeats 4000000 in
set_option maxRecDepth 100000 in
theorem c_X5_apart (l : Launch) (g : et_G) (u_ : Int32) (v_ : Int32)  : Met l yX5_apart (Cond.code yX5_apart cX5_apart 2 (some (.int)) :: W0) ({ frames := 0, cells := 0, slots := 0, locals := 0 } : Room) (et_Pc g ([]) [.int u_, .int v_]) (et_QP (some (.int ((mX5_apart u_ v_))))) 0 0 et_no := by
  refine et_startP (by decide) rfl (Nat.le_of_ble_eq_true rfl) ?_
  intro p e s m args below meth c hx hb hr hts0 hown hlocks hml hP hC ls hl
  have hts : ∀ w ∈ W0, w.before args s = true := fun w h => hts0 w (List.mem_cons_of_mem _ h)
  have hown : s.vm.findClass RX5 = some m.cls := hown
  have hl : lv_has ls 2 [(0, .int u_), (1, .int v_)] := hl
  refine lv_iload_n hx hb dX5_apart_0 rfl (lv_at hl 0 rfl) ?_
  refine lv_iload_n hx hb dX5_apart_1 rfl (lv_at hl 1 rfl) ?_
  refine lv_icmp_le (tgt := 11) hx hb dX5_apart_2 (by decide) (fun c_1 => ?_) (fun c_1 => ?_)
  ·
    refine lv_iload_n hx hb dX5_apart_11 rfl (lv_at hl 1 rfl) ?_
    refine lv_iload_n hx hb dX5_apart_12 rfl (lv_at hl 0 rfl) ?_
    refine lv_isub hx hb dX5_apart_13 ?_
    have hfin : v_ - u_ = (mX5_apart u_ v_) := (by rw [mX5_apart, if_pos c_1])
    exact et_iret hx hb hr hlocks dX5_apart_14 (hfin)
  ·
    refine lv_iload_n hx hb dX5_apart_5 rfl (lv_at hl 0 rfl) ?_
    refine lv_iload_n hx hb dX5_apart_6 rfl (lv_at hl 1 rfl) ?_
    refine lv_isub hx hb dX5_apart_7 ?_
    refine lv_goto (tgt := 14) hx hb dX5_apart_8 (by decide) ?_
    have hfin : u_ - v_ = (mX5_apart u_ v_) := (by rw [mX5_apart, if_neg c_1])
    exact et_iret hx hb hr hlocks dX5_apart_14 (hfin)

def mX5_isNext (u_ : Int32) (v_ : Int32) : Bool :=
  if (2 : Int32) ≤ (mX5_apart (u_ - u_ / (8 : Int32) * (8 : Int32)) (v_ - v_ / (8 : Int32) * (8 : Int32))) then
    false
  else
    if (2 : Int32) ≤ (mX5_apart (u_ / (8 : Int32)) (v_ / (8 : Int32))) then
      false
    else
      if u_ = v_ then
        false
      else
        true
set_option maxHeartbeats 4000000 in
set_option maxRecDepth 100000 in
theorem c_X5_isNext (l : Launch) (g : et_G) (u_ : Int32) (v_ : Int32)  : Met l yX5_isNext (Cond.code yX5_isNext cX5_isNext 2 (some (.boolean)) :: W0) ({ frames := 1, cells := 0, slots := 0, locals := 21 } : Room) (et_Pc g ([]) [.int u_, .int v_]) (et_QP (some (.int (zI ((mX5_isNext u_ v_)))))) 0 0 et_no := by
  refine et_startP (by decide) rfl (Nat.le_of_ble_eq_true rfl) ?_
  intro p e s m args below meth c hx hb hr hts0 hown hlocks hml hP hC ls hl
  have hts : ∀ w ∈ W0, w.before args s = true := fun w h => hts0 w (List.mem_cons_of_mem _ h)
  have hown : s.vm.findClass RX5 = some m.cls := hown
  have hl : lv_has ls 2 [(0, .int u_), (1, .int v_)] := hl
  refine lv_iload_n hx hb dX5_isNext_0 rfl (lv_at hl 0 rfl) ?_
  refine lv_bipush (v := (8 : Int32)) hx hb dX5_isNext_1 (by decide) ?_
  refine lv_irem hx hb dX5_isNext_3 (by decide) ?_
  refine lv_iload_n hx hb dX5_isNext_4 rfl (lv_at hl 1 rfl) ?_
  refine lv_bipush (v := (8 : Int32)) hx hb dX5_isNext_5 (by decide) ?_
  refine lv_irem hx hb dX5_isNext_7 (by decide) ?_
  refine et_callP1 (v := .int (mX5_apart (u_ - u_ / (8 : Int32) * (8 : Int32)) (v_ - v_ / (8 : Int32) * (8 : Int32)))) (va_runS (As := [.int (u_ - u_ / (8 : Int32) * (8 : Int32)), .int (v_ - v_ / (8 : Int32) * (8 : Int32))]) (rest := []) ⟨hx, hb, hml, hown, hts⟩ (c_X5_apart l g (u_ - u_ / (8 : Int32) * (8 : Int32)) (v_ - v_ / (8 : Int32) * (8 : Int32))) (va_cwS 2 hts (W0_gS w_803 w_804 w_82 w_805) rfl rfl rfl (by decide +kernel) ⟨Nat.le_of_ble_eq_true rfl, Nat.le_of_ble_eq_true rfl⟩) (et_preS hP hC [] rfl) rfl rfl hl.1 rfl (lv_room (Nat.le_of_ble_eq_true rfl)) dX5_isNext_8 ⟨Nat.le_of_ble_eq_true rfl, Nat.le_of_ble_eq_true rfl⟩) ?_
  refine lv_iconst (v := (2 : Int32)) hx hb dX5_isNext_11 (by decide) ?_
  refine lv_icmp_ge (tgt := 39) hx hb dX5_isNext_12 (by decide) (fun c_1 => ?_) (fun c_1 => ?_)
  ·
    refine lv_iconst (v := (0 : Int32)) hx hb dX5_isNext_39 (by decide) ?_
    have hfin : false = (mX5_isNext u_ v_) := (by rw [mX5_isNext, if_pos c_1])
    exact et_zret hx hb hr hlocks dX5_isNext_40 (congrArg zI (hfin))
  ·
    refine lv_iload_n hx hb dX5_isNext_15 rfl (lv_at hl 0 rfl) ?_
    refine lv_bipush (v := (8 : Int32)) hx hb dX5_isNext_16 (by decide) ?_
    refine lv_idiv hx hb dX5_isNext_18 (by decide) ?_
    refine lv_iload_n hx hb dX5_isNext_19 rfl (lv_at hl 1 rfl) ?_
    refine lv_bipush (v := (8 : Int32)) hx hb dX5_isNext_20 (by decide) ?_
    refine lv_idiv hx hb dX5_isNext_22 (by decide) ?_
    refine et_callP1 (v := .int (mX5_apart (u_ / (8 : Int32)) (v_ / (8 : Int32)))) (va_runS (As := [.int (u_ / (8 : Int32)), .int (v_ / (8 : Int32))]) (rest := []) ⟨hx, hb, hml, hown, hts⟩ (c_X5_apart l g (u_ / (8 : Int32)) (v_ / (8 : Int32))) (va_cwS 2 hts (W0_gS w_803 w_804 w_82 w_805) rfl rfl rfl (by decide +kernel) ⟨Nat.le_of_ble_eq_true rfl, Nat.le_of_ble_eq_true rfl⟩) (et_preS hP hC [] rfl) rfl rfl hl.1 rfl (lv_room (Nat.le_of_ble_eq_true rfl)) dX5_isNext_23 ⟨Nat.le_of_ble_eq_true rfl, Nat.le_of_ble_eq_true rfl⟩) ?_
    refine lv_iconst (v := (2 : Int32)) hx hb dX5_isNext_26 (by decide) ?_
    refine lv_icmp_ge (tgt := 39) hx hb dX5_isNext_27 (by decide) (fun c_2 => ?_) (fun c_2 => ?_)
    ·
      refine lv_iconst (v := (0 : Int32)) hx hb dX5_isNext_39 (by decide) ?_
      have hfin : false = (mX5_isNext u_ v_) := (by rw [mX5_isNext, if_neg c_1, if_pos c_2])
      exact et_zret hx hb hr hlocks dX5_isNext_40 (congrArg zI (hfin))
    ·
      refine lv_iload_n hx hb dX5_isNext_30 rfl (lv_at hl 0 rfl) ?_
      refine lv_iload_n hx hb dX5_isNext_31 rfl (lv_at hl 1 rfl) ?_
      refine lv_icmp_eq (tgt := 39) hx hb dX5_isNext_32 (by decide) (fun c_3 => ?_) (fun c_3 => ?_)
      ·
        refine lv_iconst (v := (0 : Int32)) hx hb dX5_isNext_39 (by decide) ?_
        have hfin : false = (mX5_isNext u_ v_) := (by rw [mX5_isNext, if_neg c_1, if_neg c_2, if_pos c_3])
        exact et_zret hx hb hr hlocks dX5_isNext_40 (congrArg zI (hfin))
      ·
        refine lv_iconst (v := (1 : Int32)) hx hb dX5_isNext_35 (by decide) ?_
        refine lv_goto (tgt := 40) hx hb dX5_isNext_36 (by decide) ?_
        have hfin : true = (mX5_isNext u_ v_) := (by rw [mX5_isNext, if_neg c_1, if_neg c_2, if_neg c_3])
        exact et_zret hx hb hr hlocks dX5_isNext_40 (congrArg zI (hfin))

def mX5_goesAlong (kd : Int32) (f_ : Int32) (r_ : Int32) : Bool :=
  if ((f_ * f_) + (r_ * r_)) = (1 : Int32) then
    if kd = (4 : Int32) then
      true
    else
      if kd = (5 : Int32) then
        true
      else
        if ((f_ * f_) + (r_ * r_)) = (2 : Int32) then
          if kd = (3 : Int32) then
            true
          else
            if kd = (5 : Int32) then
              true
            else
              false
        else
          false
  else
    if ((f_ * f_) + (r_ * r_)) = (2 : Int32) then
      if kd = (3 : Int32) then
        true
      else
        if kd = (5 : Int32) then
          true
        else
          false
    else
      false
set_option maxHeartbeats 4000000 in
set_option maxRecDepth 100000 in
theorem c_X5_goesAlong (l : Launch) (g : et_G) (kd : Int32) (f_ : Int32) (r_ : Int32)  : Met l yX5_goesAlong (Cond.code yX5_goesAlong cX5_goesAlong 4 (some (.boolean)) :: W0) ({ frames := 0, cells := 0, slots := 0, locals := 0 } : Room) (et_Pc g ([]) [.int kd, .int f_, .int r_]) (et_QP (some (.int (zI ((mX5_goesAlong kd f_ r_)))))) 0 0 et_no := by
  refine et_startP (by decide) rfl (Nat.le_of_ble_eq_true rfl) ?_
  intro p e s m args below meth c hx hb hr hts0 hown hlocks hml hP hC ls hl
  have hts : ∀ w ∈ W0, w.before args s = true := fun w h => hts0 w (List.mem_cons_of_mem _ h)
  have hown : s.vm.findClass RX5 = some m.cls := hown
  have hl : lv_has ls 4 [(0, .int kd), (1, .int f_), (2, .int r_)] := hl
  refine lv_iload_n hx hb dX5_goesAlong_0 rfl (lv_at hl 1 rfl) ?_
  refine lv_iload_n hx hb dX5_goesAlong_1 rfl (lv_at hl 1 rfl) ?_
  refine lv_imul hx hb dX5_goesAlong_2 ?_
  refine lv_iload_n hx hb dX5_goesAlong_3 rfl (lv_at hl 2 rfl) ?_
  refine lv_iload_n hx hb dX5_goesAlong_4 rfl (lv_at hl 2 rfl) ?_
  refine lv_imul hx hb dX5_goesAlong_5 ?_
  refine lv_iadd hx hb dX5_goesAlong_6 ?_
  refine lv_istore_n (lv' := [(3, .int ((f_ * f_) + (r_ * r_))), (0, .int kd), (1, .int f_), (2, .int r_)]) hx hb dX5_goesAlong_7 rfl hl (by decide) rfl (fun ls hl => ?_)
  refine lv_iload_n hx hb dX5_goesAlong_8 rfl (lv_at hl 0 rfl) ?_
  refine lv_iconst (v := (1 : Int32)) hx hb dX5_goesAlong_9 (by decide) ?_
  refine lv_icmp_ne (tgt := 23) hx hb dX5_goesAlong_10 (by decide) (fun c_1 => ?_) (fun c_1 => ?_)
  ·
    refine lv_iload_n hx hb dX5_goesAlong_23 rfl (lv_at hl 0 rfl) ?_
    refine lv_iconst (v := (2 : Int32)) hx hb dX5_goesAlong_24 (by decide) ?_
    refine lv_icmp_ne (tgt := 42) hx hb dX5_goesAlong_25 (by decide) (fun c_2 => ?_) (fun c_2 => ?_)
    ·
      refine lv_iconst (v := (0 : Int32)) hx hb dX5_goesAlong_42 (by decide) ?_
      have hfin : false = (mX5_goesAlong kd f_ r_) := (by rw [mX5_goesAlong, if_neg c_1, if_neg c_2])
      exact et_zret hx hb hr hlocks dX5_goesAlong_43 (congrArg zI (hfin))
    ·
      refine lv_iload_n hx hb dX5_goesAlong_28 rfl (lv_at hl 1 rfl) ?_
      refine lv_iconst (v := (3 : Int32)) hx hb dX5_goesAlong_29 (by decide) ?_
      refine lv_icmp_eq (tgt := 38) hx hb dX5_goesAlong_30 (by decide) (fun c_3 => ?_) (fun c_3 => ?_)
      ·
        refine lv_iconst (v := (1 : Int32)) hx hb dX5_goesAlong_38 (by decide) ?_
        refine lv_goto (tgt := 43) hx hb dX5_goesAlong_39 (by decide) ?_
        have hfin : true = (mX5_goesAlong kd f_ r_) := (by rw [mX5_goesAlong, if_neg c_1, if_pos c_2, if_pos c_3])
        exact et_zret hx hb hr hlocks dX5_goesAlong_43 (congrArg zI (hfin))
      ·
        refine lv_iload_n hx hb dX5_goesAlong_33 rfl (lv_at hl 1 rfl) ?_
        refine lv_iconst (v := (5 : Int32)) hx hb dX5_goesAlong_34 (by decide) ?_
        refine lv_icmp_ne (tgt := 42) hx hb dX5_goesAlong_35 (by decide) (fun c_4 => ?_) (fun c_4 => ?_)
        ·
          refine lv_iconst (v := (0 : Int32)) hx hb dX5_goesAlong_42 (by decide) ?_
          have hfin : false = (mX5_goesAlong kd f_ r_) := (by rw [mX5_goesAlong, if_neg c_1, if_pos c_2, if_neg c_3, if_neg c_4])
          exact et_zret hx hb hr hlocks dX5_goesAlong_43 (congrArg zI (hfin))
        ·
          refine lv_iconst (v := (1 : Int32)) hx hb dX5_goesAlong_38 (by decide) ?_
          refine lv_goto (tgt := 43) hx hb dX5_goesAlong_39 (by decide) ?_
          have hfin : true = (mX5_goesAlong kd f_ r_) := (by rw [mX5_goesAlong, if_neg c_1, if_pos c_2, if_neg c_3, if_pos c_4])
          exact et_zret hx hb hr hlocks dX5_goesAlong_43 (congrArg zI (hfin))
  ·
    refine lv_iload_n hx hb dX5_goesAlong_13 rfl (lv_at hl 1 rfl) ?_
    refine lv_iconst (v := (4 : Int32)) hx hb dX5_goesAlong_14 (by decide) ?_
    refine lv_icmp_eq (tgt := 38) hx hb dX5_goesAlong_15 (by decide) (fun c_5 => ?_) (fun c_5 => ?_)
    ·
      refine lv_iconst (v := (1 : Int32)) hx hb dX5_goesAlong_38 (by decide) ?_
      refine lv_goto (tgt := 43) hx hb dX5_goesAlong_39 (by decide) ?_
      have hfin : true = (mX5_goesAlong kd f_ r_) := (by rw [mX5_goesAlong, if_pos c_1, if_pos c_5])
      exact et_zret hx hb hr hlocks dX5_goesAlong_43 (congrArg zI (hfin))
    ·
      refine lv_iload_n hx hb dX5_goesAlong_18 rfl (lv_at hl 1 rfl) ?_
      refine lv_iconst (v := (5 : Int32)) hx hb dX5_goesAlong_19 (by decide) ?_
      refine lv_icmp_eq (tgt := 38) hx hb dX5_goesAlong_20 (by decide) (fun c_6 => ?_) (fun c_6 => ?_)
      ·
        refine lv_iconst (v := (1 : Int32)) hx hb dX5_goesAlong_38 (by decide) ?_
        refine lv_goto (tgt := 43) hx hb dX5_goesAlong_39 (by decide) ?_
        have hfin : true = (mX5_goesAlong kd f_ r_) := (by rw [mX5_goesAlong, if_pos c_1, if_neg c_5, if_pos c_6])
        exact et_zret hx hb hr hlocks dX5_goesAlong_43 (congrArg zI (hfin))
      ·
        refine lv_iload_n hx hb dX5_goesAlong_23 rfl (lv_at hl 0 rfl) ?_
        refine lv_iconst (v := (2 : Int32)) hx hb dX5_goesAlong_24 (by decide) ?_
        refine lv_icmp_ne (tgt := 42) hx hb dX5_goesAlong_25 (by decide) (fun c_7 => ?_) (fun c_7 => ?_)
        ·
          refine lv_iconst (v := (0 : Int32)) hx hb dX5_goesAlong_42 (by decide) ?_
          have hfin : false = (mX5_goesAlong kd f_ r_) := (by rw [mX5_goesAlong, if_pos c_1, if_neg c_5, if_neg c_6, if_neg c_7])
          exact et_zret hx hb hr hlocks dX5_goesAlong_43 (congrArg zI (hfin))
        ·
          refine lv_iload_n hx hb dX5_goesAlong_28 rfl (lv_at hl 1 rfl) ?_
          refine lv_iconst (v := (3 : Int32)) hx hb dX5_goesAlong_29 (by decide) ?_
          refine lv_icmp_eq (tgt := 38) hx hb dX5_goesAlong_30 (by decide) (fun c_8 => ?_) (fun c_8 => ?_)
          ·
            refine lv_iconst (v := (1 : Int32)) hx hb dX5_goesAlong_38 (by decide) ?_
            refine lv_goto (tgt := 43) hx hb dX5_goesAlong_39 (by decide) ?_
            have hfin : true = (mX5_goesAlong kd f_ r_) := (by rw [mX5_goesAlong, if_pos c_1, if_neg c_5, if_neg c_6, if_pos c_7, if_pos c_8])
            exact et_zret hx hb hr hlocks dX5_goesAlong_43 (congrArg zI (hfin))
          ·
            refine lv_iload_n hx hb dX5_goesAlong_33 rfl (lv_at hl 1 rfl) ?_
            refine lv_iconst (v := (5 : Int32)) hx hb dX5_goesAlong_34 (by decide) ?_
            refine lv_icmp_ne (tgt := 42) hx hb dX5_goesAlong_35 (by decide) (fun c_9 => ?_) (fun c_9 => ?_)
            ·
              refine lv_iconst (v := (0 : Int32)) hx hb dX5_goesAlong_42 (by decide) ?_
              have hfin : false = (mX5_goesAlong kd f_ r_) := (by rw [mX5_goesAlong, if_pos c_1, if_neg c_5, if_neg c_6, if_pos c_7, if_neg c_8, if_neg c_9])
              exact et_zret hx hb hr hlocks dX5_goesAlong_43 (congrArg zI (hfin))
            ·
              refine lv_iconst (v := (1 : Int32)) hx hb dX5_goesAlong_38 (by decide) ?_
              refine lv_goto (tgt := 43) hx hb dX5_goesAlong_39 (by decide) ?_
              have hfin : true = (mX5_goesAlong kd f_ r_) := (by rw [mX5_goesAlong, if_pos c_1, if_neg c_5, if_neg c_6, if_pos c_7, if_neg c_8, if_pos c_9])
              exact et_zret hx hb hr hlocks dX5_goesAlong_43 (congrArg zI (hfin))

def mX5_attacks_V3 (wm : Int32) (to_ : Int32) : Int32 :=
  if ((to_ - to_ / (8 : Int32) * (8 : Int32)) - (wm - wm / (8 : Int32) * (8 : Int32))) ≤ 0 then
    if 0 ≤ ((to_ - to_ / (8 : Int32) * (8 : Int32)) - (wm - wm / (8 : Int32) * (8 : Int32))) then
      (0 : Int32)
    else
      (-1 : Int32)
  else
    (1 : Int32)
def mX5_attacks_V4 (wm : Int32) (to_ : Int32) : Int32 :=
  if ((to_ / (8 : Int32)) - (wm / (8 : Int32))) ≤ 0 then
    if 0 ≤ ((to_ / (8 : Int32)) - (wm / (8 : Int32))) then
      (0 : Int32)
    else
      (-1 : Int32)
  else
    (1 : Int32)
def mX5_attacks_L1_ok (mF : Int32) (mR : Int32) (wm : Int32) (to_ : Int32) (bar : Int32) : Nat → Nat → Int32 → Bool
  | 0, i1, sq1 => false
  | k1 + 1, i1, sq1 =>
    if sq1 = to_ then
      true
    else
      if sq1 = bar then
        true
      else
        if sq1 = (-1 : Int32) then
          true
        else
          mX5_attacks_L1_ok mF mR wm to_ bar k1 (i1 + 1) (mX5_step mF mR sq1 (mX5_attacks_V3 wm to_) (mX5_attacks_V4 wm to_))
def mX5_attacks_L1 (mF : Int32) (mR : Int32) (wm : Int32) (to_ : Int32) (bar : Int32) : Nat → Nat → Int32 → Int32
  | 0, i1, sq1 =>
    sq1
  | k1 + 1, i1, sq1 =>
    if sq1 = to_ then
      sq1
    else
      if sq1 = bar then
        sq1
      else
        if sq1 = (-1 : Int32) then
          sq1
        else
          mX5_attacks_L1 mF mR wm to_ bar k1 (i1 + 1) (mX5_step mF mR sq1 (mX5_attacks_V3 wm to_) (mX5_attacks_V4 wm to_))
def mX5_attacks_C2 (mF : Int32) (mR : Int32) (kd : Int32) (wm : Int32) (to_ : Int32) (bar : Int32) : Bool :=
  if (zI (mX5_goesAlong kd (mX5_attacks_V3 wm to_) (mX5_attacks_V4 wm to_))) = 0 then
    false
  else
    if (mX5_attacks_L1 mF mR wm to_ bar 9 0 (mX5_step mF mR wm (mX5_attacks_V3 wm to_) (mX5_attacks_V4 wm to_))) = to_ then
      true
    else
      false
def mX5_attacks_C1 (mF : Int32) (mR : Int32) (kd : Int32) (wm : Int32) (to_ : Int32) (bar : Int32) : Bool :=
  if ((to_ - to_ / (8 : Int32) * (8 : Int32)) - (wm - wm / (8 : Int32) * (8 : Int32))) = 0 then
    (mX5_attacks_C2 mF mR kd wm to_ bar)
  else
    if ((to_ / (8 : Int32)) - (wm / (8 : Int32))) = 0 then
      (mX5_attacks_C2 mF mR kd wm to_ bar)
    else
      if ((to_ - to_ / (8 : Int32) * (8 : Int32)) - (wm - wm / (8 : Int32) * (8 : Int32))) = ((to_ / (8 : Int32)) - (wm / (8 : Int32))) then
        (mX5_attacks_C2 mF mR kd wm to_ bar)
      else
        if ((to_ - to_ / (8 : Int32) * (8 : Int32)) - (wm - wm / (8 : Int32) * (8 : Int32))) = (-((to_ / (8 : Int32)) - (wm / (8 : Int32)))) then
          (mX5_attacks_C2 mF mR kd wm to_ bar)
        else
          false
def mX5_attacks (mF : Int32) (mR : Int32) (kd : Int32) (wm : Int32) (to_ : Int32) (bar : Int32) : Bool :=
  if kd = (1 : Int32) then
    if ((to_ / (8 : Int32)) - (wm / (8 : Int32))) = (1 : Int32) then
      if ((to_ - to_ / (8 : Int32) * (8 : Int32)) - (wm - wm / (8 : Int32) * (8 : Int32))) = (1 : Int32) then
        true
      else
        if ((to_ - to_ / (8 : Int32) * (8 : Int32)) - (wm - wm / (8 : Int32) * (8 : Int32))) = (-1 : Int32) then
          true
        else
          false
    else
      false
  else
    if kd = (2 : Int32) then
      if ((((to_ - to_ / (8 : Int32) * (8 : Int32)) - (wm - wm / (8 : Int32) * (8 : Int32))) * ((to_ - to_ / (8 : Int32) * (8 : Int32)) - (wm - wm / (8 : Int32) * (8 : Int32)))) + (((to_ / (8 : Int32)) - (wm / (8 : Int32))) * ((to_ / (8 : Int32)) - (wm / (8 : Int32))))) = (5 : Int32) then
        true
      else
        false
    else
      if ((to_ - to_ / (8 : Int32) * (8 : Int32)) - (wm - wm / (8 : Int32) * (8 : Int32))) = 0 then
        if ((to_ / (8 : Int32)) - (wm / (8 : Int32))) = 0 then
          false
        else
          if kd = 0 then
            false
          else
            (mX5_attacks_C1 mF mR kd wm to_ bar)
      else
        if kd = 0 then
          false
        else
          (mX5_attacks_C1 mF mR kd wm to_ bar)
theorem et_dirm {mF mR df dr : Int32} (hF : et_b8 mF) (hR : et_b8 mR) (hd : df = 1 ∨ df = -1 ∨ (df = 0 ∧ (dr = 1 ∨ dr = -1))) : ∃ μ : Nat → Nat, (∀ j, j < 64 → μ j ≤ 7) ∧ ∀ j, j < 64 → mX5_step mF mR (nI j) df dr = -1 ∨ ∃ j', j' < 64 ∧ mX5_step mF mR (nI j) df dr = nI j' ∧ μ j' < μ j := by
  have key : ∀ j, j < 64 → mX5_step mF mR (nI j) df dr = -1 ∨ ∃ a b : Nat, a < 8 ∧ b < 8 ∧ nI (j % 8) + df = nI a ∧ nI (j / 8) + dr = nI b ∧ mX5_step mF mR (nI j) df dr = nI (8 * b + a) := by
    intro j hj
    rcases et_stepc mF mR (nI j) df dr with h | ⟨x, y, ex, ey, h1, h2, h3, h4, e⟩
    · exact Or.inl h
    · obtain ⟨a, ha, rfl⟩ := et_lt8 hF h1 h2
      obtain ⟨b, hb, rfl⟩ := et_lt8 hR h3 h4
      have e8 : (8 : Int32) = nI 8 := rfl
      rw [e8, pk_rem (by omega) (by omega) (by omega)] at ex
      rw [e8, pk_div (by omega) (by omega) (by omega)] at ey
      exact Or.inr ⟨a, b, ha, hb, ex.symm, ey.symm, by rw [e, e8, pk_mul, nI_add]⟩
  have up : ∀ {u a : Nat}, u < 8 → a < 8 → nI u + 1 = nI a → a = u + 1 := by
    intro u a hu ha h
    rw [nI_1] at h
    exact ((nI_eq (by omega) (by omega)).mp h).symm
  have dn : ∀ {u a : Nat}, u < 8 → a < 8 → nI u + -1 = nI a → u = a + 1 := by
    intro u a hu ha h
    have h2 : nI u = nI (a + 1) := by
      rw [← nI_1, ← h, Int32.add_assoc]
      rw [show (-1 + 1 : Int32) = 0 from by decide, Int32.add_zero]
    exact (nI_eq (by omega) (by omega)).mp h2
  rcases hd with rfl | rfl | ⟨rfl, rfl | rfl⟩
  · refine ⟨fun j => 7 - j % 8, fun j hj => by dsimp only; omega, fun j hj => ?_⟩
    rcases key j hj with h | ⟨a, b, ha, hb, e1, e2, e⟩
    · exact Or.inl h
    · have := up (by omega) ha e1
      exact Or.inr ⟨8 * b + a, by omega, e, by dsimp only; omega⟩
  · refine ⟨fun j => j % 8, fun j hj => by dsimp only; omega, fun j hj => ?_⟩
    rcases key j hj with h | ⟨a, b, ha, hb, e1, e2, e⟩
    · exact Or.inl h
    · have := dn (by omega) ha e1
      exact Or.inr ⟨8 * b + a, by omega, e, by dsimp only; omega⟩
  · refine ⟨fun j => 7 - j / 8, fun j hj => by dsimp only; omega, fun j hj => ?_⟩
    rcases key j hj with h | ⟨a, b, ha, hb, e1, e2, e⟩
    · exact Or.inl h
    · have := up (by omega) hb e2
      exact Or.inr ⟨8 * b + a, by omega, e, by dsimp only; omega⟩
  · refine ⟨fun j => j / 8, fun j hj => by dsimp only; omega, fun j hj => ?_⟩
    rcases key j hj with h | ⟨a, b, ha, hb, e1, e2, e⟩
    · exact Or.inl h
    · have := dn (by omega) hb e2
      exact Or.inr ⟨8 * b + a, by omega, e, by dsimp only; omega⟩
theorem et_ga0 (kd : Int32) : zI (mX5_goesAlong kd 0 0) = 0 := by
  have h1 : ¬ ((0 : Int32) * 0 + 0 * 0 = 1) := by decide
  have h2 : ¬ ((0 : Int32) * 0 + 0 * 0 = 2) := by decide
  rw [mX5_goesAlong, if_neg h1, if_neg h2]
  rfl
theorem et_V3c (wm to_ : Int32) : mX5_attacks_V3 wm to_ = 0 ∨ mX5_attacks_V3 wm to_ = -1 ∨ mX5_attacks_V3 wm to_ = 1 := by
  unfold mX5_attacks_V3
  split
  · split
    · exact Or.inl rfl
    · exact Or.inr (Or.inl rfl)
  · exact Or.inr (Or.inr rfl)
theorem et_V4c (wm to_ : Int32) : mX5_attacks_V4 wm to_ = 0 ∨ mX5_attacks_V4 wm to_ = -1 ∨ mX5_attacks_V4 wm to_ = 1 := by
  unfold mX5_attacks_V4
  split
  · split
    · exact Or.inl rfl
    · exact Or.inr (Or.inl rfl)
  · exact Or.inr (Or.inr rfl)
theorem et_dirc {kd df dr : Int32} (h3 : df = 0 ∨ df = -1 ∨ df = 1) (h4 : dr = 0 ∨ dr = -1 ∨ dr = 1) (h : ¬ zI (mX5_goesAlong kd df dr) = 0) : df = 1 ∨ df = -1 ∨ (df = 0 ∧ (dr = 1 ∨ dr = -1)) := by
  rcases h3 with rfl | rfl | rfl
  · rcases h4 with rfl | rfl | rfl
    · exact absurd (et_ga0 kd) h
    · exact Or.inr (Or.inr ⟨rfl, Or.inr rfl⟩)
    · exact Or.inr (Or.inr ⟨rfl, Or.inl rfl⟩)
  · exact Or.inr (Or.inl rfl)
  · exact Or.inl rfl
theorem et_att_ok {mF mR kd wm to_ bar : Int32} (hF : et_b8 mF) (hR : et_b8 mR) (h : ¬ zI (mX5_goesAlong kd (mX5_attacks_V3 wm to_) (mX5_attacks_V4 wm to_)) = 0) : mX5_attacks_L1_ok mF mR wm to_ bar 9 0 (mX5_step mF mR wm (mX5_attacks_V3 wm to_) (mX5_attacks_V4 wm to_)) = true := by
  obtain ⟨μ, h7, hs⟩ := et_dirm hF hR (et_dirc (et_V3c wm to_) (et_V4c wm to_) h)
  have ok : ∀ (k i : Nat) (sq : Int32), (sq = -1 ∨ ∃ j, j < 64 ∧ sq = nI j ∧ μ j + 1 < k) → 0 < k → mX5_attacks_L1_ok mF mR wm to_ bar k i sq = true := by
    intro k
    induction k with
    | zero => intro i sq _ h; exact absurd h (by omega)
    | succ k ih =>
      intro i sq h _
      rw [mX5_attacks_L1_ok]
      split
      · rfl
      split
      · rfl
      split
      · rfl
      · rename_i h3
        rcases h with h | ⟨j, hj, rfl, hm⟩
        · exact absurd h h3
        · rcases hs j hj with h | ⟨j', hj', h, hl⟩
          · exact ih _ _ (Or.inl h) (by omega)
          · exact ih _ _ (Or.inr ⟨j', hj', h, by omega⟩) (by omega)
  refine ok 9 0 _ ?_ (by omega)
  rcases et_step_r (sq := wm) (f := mX5_attacks_V3 wm to_) (r := mX5_attacks_V4 wm to_) hF hR with h | ⟨j, hj, h⟩
  · exact Or.inl h
  · exact Or.inr ⟨j, hj, h, by have := h7 j hj; omega⟩
set_option maxHeartbeats 4000000 in
set_option maxRecDepth 100000 in
theorem c_X5_attacks (l : Launch) (g : et_G) (md : Nat) (r1 : Nat) (r2 : Nat) (r3 : Nat) (r4 : Nat) (mF : Int32) (mR : Int32) (th : Int32) (tb : Nat → Int64) (bu : Nat → Int32) (gr : Nat → Int32) (mt : Bool) (mk : Int32) (mw : Int32) (mm : Int32) (mb : Int32) (ms : Int32) (ml : Nat → Int32) (my : Int32) (kd : Int32) (wm : Int32) (to_ : Int32) (bar : Int32) (hF : et_b8 mF) (hR : et_b8 mR) : Met l yX5_attacks (Cond.code yX5_attacks cX5_attacks 11 (some (.boolean)) :: W0) ({ frames := 1, cells := 0, slots := 0, locals := 25 } : Room) (et_Pc g ([(md, .inr (5, [.int th, .int mF, .int mR, .ref r1, .ref r2, .ref r3, .int (zI mt), .int mk, .int mw, .int mm, .int mb, .int ms, .ref r4, .int my])), (r1, .inl (gJ g, 327680, .inr (.inl tb))), (r2, .inl (gZ g, 6, .inl bu)), (r3, .inl (gI g, 6, .inl gr)), (r4, .inl (gI g, 64, .inl ml))]) [.ref md, .int kd, .int wm, .int to_, .int bar, .int (-1 : Int32)]) (et_QP (some (.int (zI ((mX5_attacks mF mR kd wm to_ bar)))))) 0 0 et_no := by
  refine et_startP (by decide) rfl (Nat.le_of_ble_eq_true rfl) ?_
  intro p e s m args below meth c hx hb hr hts0 hown hlocks hml hP hC ls hl
  have hts : ∀ w ∈ W0, w.before args s = true := fun w h => hts0 w (List.mem_cons_of_mem _ h)
  have hown : s.vm.findClass RX5 = some m.cls := hown
  have hl : lv_has ls 11 [(0, .ref md), (1, .int kd), (2, .int wm), (3, .int to_), (4, .int bar), (5, .int (-1 : Int32))] := hl
  refine lv_iload_n hx hb dX5_attacks_0 rfl (lv_at hl 3 rfl) ?_
  refine lv_bipush (v := (8 : Int32)) hx hb dX5_attacks_1 (by decide) ?_
  refine lv_irem hx hb dX5_attacks_3 (by decide) ?_
  refine lv_iload_n hx hb dX5_attacks_4 rfl (lv_at hl 2 rfl) ?_
  refine lv_bipush (v := (8 : Int32)) hx hb dX5_attacks_5 (by decide) ?_
  refine lv_irem hx hb dX5_attacks_7 (by decide) ?_
  refine lv_isub hx hb dX5_attacks_8 ?_
  refine lv_istore (lv' := [(6, .int ((to_ - to_ / (8 : Int32) * (8 : Int32)) - (wm - wm / (8 : Int32) * (8 : Int32)))), (0, .ref md), (1, .int kd), (2, .int wm), (3, .int to_), (4, .int bar), (5, .int (-1 : Int32))]) hx hb dX5_attacks_9 hl (by decide) rfl (fun ls hl => ?_)
  refine lv_iload_n hx hb dX5_attacks_11 rfl (lv_at hl 4 rfl) ?_
  refine lv_bipush (v := (8 : Int32)) hx hb dX5_attacks_12 (by decide) ?_
  refine lv_idiv hx hb dX5_attacks_14 (by decide) ?_
  refine lv_iload_n hx hb dX5_attacks_15 rfl (lv_at hl 3 rfl) ?_
  refine lv_bipush (v := (8 : Int32)) hx hb dX5_attacks_16 (by decide) ?_
  refine lv_idiv hx hb dX5_attacks_18 (by decide) ?_
  refine lv_isub hx hb dX5_attacks_19 ?_
  refine lv_istore (lv' := [(7, .int ((to_ / (8 : Int32)) - (wm / (8 : Int32)))), (6, .int ((to_ - to_ / (8 : Int32) * (8 : Int32)) - (wm - wm / (8 : Int32) * (8 : Int32)))), (0, .ref md), (1, .int kd), (2, .int wm), (3, .int to_), (4, .int bar), (5, .int (-1 : Int32))]) hx hb dX5_attacks_20 hl (by decide) rfl (fun ls hl => ?_)
  refine lv_iload_n hx hb dX5_attacks_22 rfl (lv_at hl 3 rfl) ?_
  refine lv_iconst (v := (1 : Int32)) hx hb dX5_attacks_23 (by decide) ?_
  refine lv_icmp_ne (tgt := 51) hx hb dX5_attacks_24 (by decide) (fun c_1 => ?_) (fun c_1 => ?_)
  ·
    refine lv_iload_n hx hb dX5_attacks_51 rfl (lv_at hl 3 rfl) ?_
    refine lv_iconst (v := (2 : Int32)) hx hb dX5_attacks_52 (by decide) ?_
    refine lv_icmp_ne (tgt := 77) hx hb dX5_attacks_53 (by decide) (fun c_2 => ?_) (fun c_2 => ?_)
    ·
      have hc1 : (mX5_attacks_C1 mF mR kd wm to_ bar) = (mX5_attacks mF mR kd wm to_ bar) → ∀ ls : Array Slot, lv_has ls 11 [(7, .int ((to_ / (8 : Int32)) - (wm / (8 : Int32)))), (6, .int ((to_ - to_ / (8 : Int32) * (8 : Int32)) - (wm - wm / (8 : Int32) * (8 : Int32)))), (0, .ref md), (1, .int kd), (2, .int wm), (3, .int to_), (4, .int bar), (5, .int (-1 : Int32))] → W p l e ({ frames := 1, cells := 0, slots := 0, locals := 25 } : Room) s m args below meth c s.heap [] 0 0 (MQ below (et_QP (some (.int (zI ((mX5_attacks mF mR kd wm to_ bar)))))) args s 0 0 et_no) (F0 m 93 ls []) := by
        intro hm ls hl
        have hc2 : (mX5_attacks_C2 mF mR kd wm to_ bar) = (mX5_attacks mF mR kd wm to_ bar) → ∀ ls : Array Slot, lv_has ls 11 [(7, .int ((to_ / (8 : Int32)) - (wm / (8 : Int32)))), (6, .int ((to_ - to_ / (8 : Int32) * (8 : Int32)) - (wm - wm / (8 : Int32) * (8 : Int32)))), (0, .ref md), (1, .int kd), (2, .int wm), (3, .int to_), (4, .int bar), (5, .int (-1 : Int32))] → W p l e ({ frames := 1, cells := 0, slots := 0, locals := 25 } : Room) s m args below meth c s.heap [] 0 0 (MQ below (et_QP (some (.int (zI ((mX5_attacks mF mR kd wm to_ bar)))))) args s 0 0 et_no) (F0 m 120 ls []) := by
          intro hm ls hl
          have hj3 : ∀ ls : Array Slot, lv_has ls 11 [(7, .int ((to_ / (8 : Int32)) - (wm / (8 : Int32)))), (6, .int ((to_ - to_ / (8 : Int32) * (8 : Int32)) - (wm - wm / (8 : Int32) * (8 : Int32)))), (0, .ref md), (1, .int kd), (2, .int wm), (3, .int to_), (4, .int bar), (5, .int (-1 : Int32))] → W p l e ({ frames := 1, cells := 0, slots := 0, locals := 25 } : Room) s m args below meth c s.heap [] 0 0 (MQ below (et_QP (some (.int (zI ((mX5_attacks mF mR kd wm to_ bar)))))) args s 0 0 et_no) (F0 m 139 ls [.int (mX5_attacks_V3 wm to_)]) := by
            intro ls hl
            refine lv_istore (lv' := [(8, .int (mX5_attacks_V3 wm to_)), (7, .int ((to_ / (8 : Int32)) - (wm / (8 : Int32)))), (6, .int ((to_ - to_ / (8 : Int32) * (8 : Int32)) - (wm - wm / (8 : Int32) * (8 : Int32)))), (0, .ref md), (1, .int kd), (2, .int wm), (3, .int to_), (4, .int bar), (5, .int (-1 : Int32))]) hx hb dX5_attacks_139 hl (by decide) rfl (fun ls hl => ?_)
            have hj4 : ∀ ls : Array Slot, lv_has ls 11 [(8, .int (mX5_attacks_V3 wm to_)), (7, .int ((to_ / (8 : Int32)) - (wm / (8 : Int32)))), (6, .int ((to_ - to_ / (8 : Int32) * (8 : Int32)) - (wm - wm / (8 : Int32) * (8 : Int32)))), (0, .ref md), (1, .int kd), (2, .int wm), (3, .int to_), (4, .int bar), (5, .int (-1 : Int32))] → W p l e ({ frames := 1, cells := 0, slots := 0, locals := 25 } : Room) s m args below meth c s.heap [] 0 0 (MQ below (et_QP (some (.int (zI ((mX5_attacks mF mR kd wm to_ bar)))))) args s 0 0 et_no) (F0 m 160 ls [.int (mX5_attacks_V4 wm to_)]) := by
              intro ls hl
              refine lv_istore (lv' := [(9, .int (mX5_attacks_V4 wm to_)), (8, .int (mX5_attacks_V3 wm to_)), (7, .int ((to_ / (8 : Int32)) - (wm / (8 : Int32)))), (6, .int ((to_ - to_ / (8 : Int32) * (8 : Int32)) - (wm - wm / (8 : Int32) * (8 : Int32)))), (0, .ref md), (1, .int kd), (2, .int wm), (3, .int to_), (4, .int bar), (5, .int (-1 : Int32))]) hx hb dX5_attacks_160 hl (by decide) rfl (fun ls hl => ?_)
              refine lv_iload_n hx hb dX5_attacks_162 rfl (lv_at hl 5 rfl) ?_
              refine lv_iload hx hb dX5_attacks_163 (lv_at hl 1 rfl) ?_
              refine lv_iload hx hb dX5_attacks_165 (lv_at hl 0 rfl) ?_
              refine et_callP1 (v := .int (zI (mX5_goesAlong kd (mX5_attacks_V3 wm to_) (mX5_attacks_V4 wm to_)))) (va_runS (As := [.int kd, .int (mX5_attacks_V3 wm to_), .int (mX5_attacks_V4 wm to_)]) (rest := []) ⟨hx, hb, hml, hown, hts⟩ (c_X5_goesAlong l g kd (mX5_attacks_V3 wm to_) (mX5_attacks_V4 wm to_)) (va_cwS 3 hts (W0_gS w_810 w_811 w_82 w_812) rfl rfl rfl (by decide +kernel) ⟨Nat.le_of_ble_eq_true rfl, Nat.le_of_ble_eq_true rfl⟩) (et_preS hP hC [] rfl) rfl rfl hl.1 rfl (lv_room (Nat.le_of_ble_eq_true rfl)) dX5_attacks_167 ⟨Nat.le_of_ble_eq_true rfl, Nat.le_of_ble_eq_true rfl⟩) ?_
              refine lv_if_ne (tgt := 175) hx hb dX5_attacks_170 (by decide) (fun c_3 => ?_) (fun c_3 => ?_)
              ·
                refine lv_aload_n hx hb dX5_attacks_175 rfl (lv_at hl 4 rfl) ?_
                refine lv_iload_n hx hb dX5_attacks_176 rfl (lv_at hl 6 rfl) ?_
                refine lv_iload hx hb dX5_attacks_177 (lv_at hl 1 rfl) ?_
                refine lv_iload hx hb dX5_attacks_179 (lv_at hl 0 rfl) ?_
                refine et_callP1 (v := .int (mX5_step mF mR wm (mX5_attacks_V3 wm to_) (mX5_attacks_V4 wm to_))) (va_runV (As := [.int wm, .int (mX5_attacks_V3 wm to_), .int (mX5_attacks_V4 wm to_)]) (rest := []) ⟨hx, hb, hml, hown, hts⟩ (c_X5_step l g md r1 r2 r3 r4 mF mR th tb bu gr mt mk mw mm mb ms ml my wm (mX5_attacks_V3 wm to_) (mX5_attacks_V4 wm to_)) (cwV 3 hts (W0_gV w_813 w_815 w_54 w_82 w_816) rfl rfl rfl (by decide +kernel) ⟨Nat.le_of_ble_eq_true rfl, Nat.le_of_ble_eq_true rfl⟩) (et_preV hP hC [0, 1, 2, 3, 4] rfl (ci := 5) (q0 := 0) rfl rfl) rfl rfl hl.1 rfl (lv_room (Nat.le_of_ble_eq_true rfl)) dX5_attacks_181 ⟨Nat.le_of_ble_eq_true rfl, Nat.le_of_ble_eq_true rfl⟩) ?_
                refine lv_istore (lv' := [(10, .int (mX5_step mF mR wm (mX5_attacks_V3 wm to_) (mX5_attacks_V4 wm to_))), (9, .int (mX5_attacks_V4 wm to_)), (8, .int (mX5_attacks_V3 wm to_)), (7, .int ((to_ / (8 : Int32)) - (wm / (8 : Int32)))), (6, .int ((to_ - to_ / (8 : Int32) * (8 : Int32)) - (wm - wm / (8 : Int32) * (8 : Int32)))), (0, .ref md), (1, .int kd), (2, .int wm), (3, .int to_), (4, .int bar), (5, .int (-1 : Int32))]) hx hb dX5_attacks_184 hl (by decide) rfl (fun ls hl => ?_)
                have hx1 : ∀ ls : Array Slot, lv_has ls 11 [(10, .int (mX5_attacks_L1 mF mR wm to_ bar 9 0 (mX5_step mF mR wm (mX5_attacks_V3 wm to_) (mX5_attacks_V4 wm to_)))), (9, .int (mX5_attacks_V4 wm to_)), (8, .int (mX5_attacks_V3 wm to_)), (7, .int ((to_ / (8 : Int32)) - (wm / (8 : Int32)))), (6, .int ((to_ - to_ / (8 : Int32) * (8 : Int32)) - (wm - wm / (8 : Int32) * (8 : Int32)))), (0, .ref md), (1, .int kd), (2, .int wm), (3, .int to_), (4, .int bar), (5, .int (-1 : Int32))] → W p l e ({ frames := 1, cells := 0, slots := 0, locals := 25 } : Room) s m args below meth c s.heap [] 0 0 (MQ below (et_QP (some (.int (zI ((mX5_attacks mF mR kd wm to_ bar)))))) args s 0 0 et_no) (F0 m 221 ls []) := by
                  intro ls hl
                  refine lv_iload hx hb dX5_attacks_221 (lv_at hl 0 rfl) ?_
                  refine lv_iload_n hx hb dX5_attacks_223 rfl (lv_at hl 8 rfl) ?_
                  refine lv_icmp_ne (tgt := 231) hx hb dX5_attacks_224 (by decide) (fun c_4 => ?_) (fun c_4 => ?_)
                  ·
                    refine lv_iconst (v := (0 : Int32)) hx hb dX5_attacks_231 (by decide) ?_
                    have hfin : false = (mX5_attacks mF mR kd wm to_ bar) := (by rw [mX5_attacks_C2, if_neg c_3, if_neg c_4] : (mX5_attacks_C2 mF mR kd wm to_ bar) = false).symm.trans hm
                    exact et_zret hx hb hr hlocks dX5_attacks_232 (congrArg zI (hfin))
                  ·
                    refine lv_iconst (v := (1 : Int32)) hx hb dX5_attacks_227 (by decide) ?_
                    refine lv_goto (tgt := 232) hx hb dX5_attacks_228 (by decide) ?_
                    have hfin : true = (mX5_attacks mF mR kd wm to_ bar) := (by rw [mX5_attacks_C2, if_neg c_3, if_pos c_4] : (mX5_attacks_C2 mF mR kd wm to_ bar) = true).symm.trans hm
                    exact et_zret hx hb hr hlocks dX5_attacks_232 (congrArg zI (hfin))
                have hL1 : ∀ (k1 i1 : Nat) (sq1 : Int32), i1 + k1 = 9 → (mX5_attacks_L1_ok mF mR wm to_ bar k1 i1 sq1 = true) → mX5_attacks_L1 mF mR wm to_ bar k1 i1 sq1 = (mX5_attacks_L1 mF mR wm to_ bar 9 0 (mX5_step mF mR wm (mX5_attacks_V3 wm to_) (mX5_attacks_V4 wm to_))) → ∀ ls : Array Slot, lv_has ls 11 [(10, .int sq1), (9, .int (mX5_attacks_V4 wm to_)), (8, .int (mX5_attacks_V3 wm to_)), (7, .int ((to_ / (8 : Int32)) - (wm / (8 : Int32)))), (6, .int ((to_ - to_ / (8 : Int32) * (8 : Int32)) - (wm - wm / (8 : Int32) * (8 : Int32)))), (0, .ref md), (1, .int kd), (2, .int wm), (3, .int to_), (4, .int bar), (5, .int (-1 : Int32))] → W p l e ({ frames := 1, cells := 0, slots := 0, locals := 25 } : Room) s m args below meth c s.heap [] 0 0 (MQ below (et_QP (some (.int (zI ((mX5_attacks mF mR kd wm to_ bar)))))) args s 0 0 et_no) (F0 m 186 ls []) := by
                  intro k1
                  induction k1 with
                  | zero =>
                    intro i1 sq1 hik hv1_0 hm ls hl
                    exact absurd hv1_0 (by rw [mX5_attacks_L1_ok]; decide)
                  | succ k1 ih1 =>
                    intro i1 sq1 hik hv1_0 hm ls hl
                    refine lv_iload hx hb dX5_attacks_186 (lv_at hl 0 rfl) ?_
                    refine lv_iload_n hx hb dX5_attacks_188 rfl (lv_at hl 8 rfl) ?_
                    refine lv_icmp_eq (tgt := 221) hx hb dX5_attacks_189 (by decide) (fun c_5 => ?_) (fun c_5 => ?_)
                    ·
                      have hq1 : sq1 = (mX5_attacks_L1 mF mR wm to_ bar 9 0 (mX5_step mF mR wm (mX5_attacks_V3 wm to_) (mX5_attacks_V4 wm to_))) := (by rw [mX5_attacks_L1, if_pos c_5] : mX5_attacks_L1 mF mR wm to_ bar (k1 + 1) i1 sq1 = sq1).symm.trans hm
                      exact hx1 ls (by rw [← hq1]; exact lv_sub hl [0, 1, 2, 3, 4, 5, 6, 7, 8, 9, 10] rfl)
                    ·
                      refine lv_iload hx hb dX5_attacks_192 (lv_at hl 0 rfl) ?_
                      refine lv_iload hx hb dX5_attacks_194 (lv_at hl 9 rfl) ?_
                      refine lv_icmp_eq (tgt := 221) hx hb dX5_attacks_196 (by decide) (fun c_6 => ?_) (fun c_6 => ?_)
                      ·
                        have hq2 : sq1 = (mX5_attacks_L1 mF mR wm to_ bar 9 0 (mX5_step mF mR wm (mX5_attacks_V3 wm to_) (mX5_attacks_V4 wm to_))) := (by rw [mX5_attacks_L1, if_neg c_5, if_pos c_6] : mX5_attacks_L1 mF mR wm to_ bar (k1 + 1) i1 sq1 = sq1).symm.trans hm
                        exact hx1 ls (by rw [← hq2]; exact lv_sub hl [0, 1, 2, 3, 4, 5, 6, 7, 8, 9, 10] rfl)
                      ·
                        refine lv_iload hx hb dX5_attacks_199 (lv_at hl 0 rfl) ?_
                        refine lv_iload hx hb dX5_attacks_201 (lv_at hl 10 rfl) ?_
                        refine lv_icmp_eq (tgt := 221) hx hb dX5_attacks_203 (by decide) (fun c_7 => ?_) (fun c_7 => ?_)
                        ·
                          have hq3 : sq1 = (mX5_attacks_L1 mF mR wm to_ bar 9 0 (mX5_step mF mR wm (mX5_attacks_V3 wm to_) (mX5_attacks_V4 wm to_))) := (by rw [mX5_attacks_L1, if_neg c_5, if_neg c_6, if_pos c_7] : mX5_attacks_L1 mF mR wm to_ bar (k1 + 1) i1 sq1 = sq1).symm.trans hm
                          exact hx1 ls (by rw [← hq3]; exact lv_sub hl [0, 1, 2, 3, 4, 5, 6, 7, 8, 9, 10] rfl)
                        ·
                          refine lv_aload_n hx hb dX5_attacks_206 rfl (lv_at hl 5 rfl) ?_
                          refine lv_iload hx hb dX5_attacks_207 (lv_at hl 0 rfl) ?_
                          refine lv_iload hx hb dX5_attacks_209 (lv_at hl 2 rfl) ?_
                          refine lv_iload hx hb dX5_attacks_211 (lv_at hl 1 rfl) ?_
                          refine et_callP1 (v := .int (mX5_step mF mR sq1 (mX5_attacks_V3 wm to_) (mX5_attacks_V4 wm to_))) (va_runV (As := [.int sq1, .int (mX5_attacks_V3 wm to_), .int (mX5_attacks_V4 wm to_)]) (rest := []) ⟨hx, hb, hml, hown, hts⟩ (c_X5_step l g md r1 r2 r3 r4 mF mR th tb bu gr mt mk mw mm mb ms ml my sq1 (mX5_attacks_V3 wm to_) (mX5_attacks_V4 wm to_)) (cwV 3 hts (W0_gV w_813 w_815 w_54 w_82 w_816) rfl rfl rfl (by decide +kernel) ⟨Nat.le_of_ble_eq_true rfl, Nat.le_of_ble_eq_true rfl⟩) (et_preV hP hC [0, 1, 2, 3, 4] rfl (ci := 5) (q0 := 0) rfl rfl) rfl rfl hl.1 rfl (lv_room (Nat.le_of_ble_eq_true rfl)) dX5_attacks_213 ⟨Nat.le_of_ble_eq_true rfl, Nat.le_of_ble_eq_true rfl⟩) ?_
                          refine lv_istore (lv' := [(10, .int (mX5_step mF mR sq1 (mX5_attacks_V3 wm to_) (mX5_attacks_V4 wm to_))), (9, .int (mX5_attacks_V4 wm to_)), (8, .int (mX5_attacks_V3 wm to_)), (7, .int ((to_ / (8 : Int32)) - (wm / (8 : Int32)))), (6, .int ((to_ - to_ / (8 : Int32) * (8 : Int32)) - (wm - wm / (8 : Int32) * (8 : Int32)))), (0, .ref md), (1, .int kd), (2, .int wm), (3, .int to_), (4, .int bar), (5, .int (-1 : Int32))]) hx hb dX5_attacks_216 hl (by decide) rfl (fun ls hl => ?_)
                          refine lv_goto (tgt := 186) hx hb dX5_attacks_218 (by decide) ?_
                          exact ih1 (i1 + 1) (mX5_step mF mR sq1 (mX5_attacks_V3 wm to_) (mX5_attacks_V4 wm to_)) (by omega) ((by rw [mX5_attacks_L1_ok, if_neg c_5, if_neg c_6, if_neg c_7] : mX5_attacks_L1_ok mF mR wm to_ bar (k1 + 1) i1 sq1 = mX5_attacks_L1_ok mF mR wm to_ bar k1 (i1 + 1) (mX5_step mF mR sq1 (mX5_attacks_V3 wm to_) (mX5_attacks_V4 wm to_))).symm.trans hv1_0) ((by rw [mX5_attacks_L1, if_neg c_5, if_neg c_6, if_neg c_7] : mX5_attacks_L1 mF mR wm to_ bar (k1 + 1) i1 sq1 = mX5_attacks_L1 mF mR wm to_ bar k1 (i1 + 1) (mX5_step mF mR sq1 (mX5_attacks_V3 wm to_) (mX5_attacks_V4 wm to_))).symm.trans hm) ls (lv_sub hl [0, 1, 2, 3, 4, 5, 6, 7, 8, 9, 10] rfl)
                exact hL1 9 0 (mX5_step mF mR wm (mX5_attacks_V3 wm to_) (mX5_attacks_V4 wm to_)) (by omega) (et_att_ok hF hR (by assumption)) rfl ls (lv_sub hl [0, 1, 2, 3, 4, 5, 6, 7, 8, 9, 10] rfl)
              ·
                refine lv_iconst (v := (0 : Int32)) hx hb dX5_attacks_173 (by decide) ?_
                have hfin : false = (mX5_attacks mF mR kd wm to_ bar) := (by rw [mX5_attacks_C2, if_pos c_3] : (mX5_attacks_C2 mF mR kd wm to_ bar) = false).symm.trans hm
                exact et_zret hx hb hr hlocks dX5_attacks_174 (congrArg zI (hfin))
            refine lv_iload hx hb dX5_attacks_141 (lv_at hl 1 rfl) ?_
            refine lv_if_le (tgt := 150) hx hb dX5_attacks_143 (by decide) (fun c_8 => ?_) (fun c_8 => ?_)
            ·
              refine lv_iload hx hb dX5_attacks_150 (lv_at hl 1 rfl) ?_
              refine lv_if_ge (tgt := 159) hx hb dX5_attacks_152 (by decide) (fun c_9 => ?_) (fun c_9 => ?_)
              ·
                refine lv_iconst (v := (0 : Int32)) hx hb dX5_attacks_159 (by decide) ?_
                have he4 : ((0 : Int32) : Int32) = (mX5_attacks_V4 wm to_) := (by rw [mX5_attacks_V4, if_pos c_8, if_pos c_9])
                exact et_stki he4 (hj4 ls (lv_sub hl [0, 1, 2, 3, 4, 5, 6, 7, 8] rfl))
              ·
                refine lv_iconst (v := (-1 : Int32)) hx hb dX5_attacks_155 (by decide) ?_
                refine lv_goto (tgt := 160) hx hb dX5_attacks_156 (by decide) ?_
                have he5 : ((-1 : Int32) : Int32) = (mX5_attacks_V4 wm to_) := (by rw [mX5_attacks_V4, if_pos c_8, if_neg c_9])
                exact et_stki he5 (hj4 ls (lv_sub hl [0, 1, 2, 3, 4, 5, 6, 7, 8] rfl))
            ·
              refine lv_iconst (v := (1 : Int32)) hx hb dX5_attacks_146 (by decide) ?_
              refine lv_goto (tgt := 160) hx hb dX5_attacks_147 (by decide) ?_
              have he6 : ((1 : Int32) : Int32) = (mX5_attacks_V4 wm to_) := (by rw [mX5_attacks_V4, if_neg c_8])
              exact et_stki he6 (hj4 ls (lv_sub hl [0, 1, 2, 3, 4, 5, 6, 7, 8] rfl))
          refine lv_iload hx hb dX5_attacks_120 (lv_at hl 1 rfl) ?_
          refine lv_if_le (tgt := 129) hx hb dX5_attacks_122 (by decide) (fun c_10 => ?_) (fun c_10 => ?_)
          ·
            refine lv_iload hx hb dX5_attacks_129 (lv_at hl 1 rfl) ?_
            refine lv_if_ge (tgt := 138) hx hb dX5_attacks_131 (by decide) (fun c_11 => ?_) (fun c_11 => ?_)
            ·
              refine lv_iconst (v := (0 : Int32)) hx hb dX5_attacks_138 (by decide) ?_
              have he7 : ((0 : Int32) : Int32) = (mX5_attacks_V3 wm to_) := (by rw [mX5_attacks_V3, if_pos c_10, if_pos c_11])
              exact et_stki he7 (hj3 ls (lv_sub hl [0, 1, 2, 3, 4, 5, 6, 7] rfl))
            ·
              refine lv_iconst (v := (-1 : Int32)) hx hb dX5_attacks_134 (by decide) ?_
              refine lv_goto (tgt := 139) hx hb dX5_attacks_135 (by decide) ?_
              have he8 : ((-1 : Int32) : Int32) = (mX5_attacks_V3 wm to_) := (by rw [mX5_attacks_V3, if_pos c_10, if_neg c_11])
              exact et_stki he8 (hj3 ls (lv_sub hl [0, 1, 2, 3, 4, 5, 6, 7] rfl))
          ·
            refine lv_iconst (v := (1 : Int32)) hx hb dX5_attacks_125 (by decide) ?_
            refine lv_goto (tgt := 139) hx hb dX5_attacks_126 (by decide) ?_
            have he9 : ((1 : Int32) : Int32) = (mX5_attacks_V3 wm to_) := (by rw [mX5_attacks_V3, if_neg c_10])
            exact et_stki he9 (hj3 ls (lv_sub hl [0, 1, 2, 3, 4, 5, 6, 7] rfl))
        refine lv_iload hx hb dX5_attacks_93 (lv_at hl 1 rfl) ?_
        refine lv_if_eq (tgt := 120) hx hb dX5_attacks_95 (by decide) (fun c_12 => ?_) (fun c_12 => ?_)
        ·
          exact hc2 ((by rw [mX5_attacks_C1, if_pos c_12] : (mX5_attacks_C1 mF mR kd wm to_ bar) = (mX5_attacks_C2 mF mR kd wm to_ bar)).symm.trans hm) ls (lv_sub hl [0, 1, 2, 3, 4, 5, 6, 7] rfl)
        ·
          refine lv_iload hx hb dX5_attacks_98 (lv_at hl 0 rfl) ?_
          refine lv_if_eq (tgt := 120) hx hb dX5_attacks_100 (by decide) (fun c_13 => ?_) (fun c_13 => ?_)
          ·
            exact hc2 ((by rw [mX5_attacks_C1, if_neg c_12, if_pos c_13] : (mX5_attacks_C1 mF mR kd wm to_ bar) = (mX5_attacks_C2 mF mR kd wm to_ bar)).symm.trans hm) ls (lv_sub hl [0, 1, 2, 3, 4, 5, 6, 7] rfl)
          ·
            refine lv_iload hx hb dX5_attacks_103 (lv_at hl 1 rfl) ?_
            refine lv_iload hx hb dX5_attacks_105 (lv_at hl 0 rfl) ?_
            refine lv_icmp_eq (tgt := 120) hx hb dX5_attacks_107 (by decide) (fun c_14 => ?_) (fun c_14 => ?_)
            ·
              exact hc2 ((by rw [mX5_attacks_C1, if_neg c_12, if_neg c_13, if_pos c_14] : (mX5_attacks_C1 mF mR kd wm to_ bar) = (mX5_attacks_C2 mF mR kd wm to_ bar)).symm.trans hm) ls (lv_sub hl [0, 1, 2, 3, 4, 5, 6, 7] rfl)
            ·
              refine lv_iload hx hb dX5_attacks_110 (lv_at hl 1 rfl) ?_
              refine lv_iload hx hb dX5_attacks_112 (lv_at hl 0 rfl) ?_
              refine lv_ineg hx hb dX5_attacks_114 ?_
              refine lv_icmp_eq (tgt := 120) hx hb dX5_attacks_115 (by decide) (fun c_15 => ?_) (fun c_15 => ?_)
              ·
                exact hc2 ((by rw [mX5_attacks_C1, if_neg c_12, if_neg c_13, if_neg c_14, if_pos c_15] : (mX5_attacks_C1 mF mR kd wm to_ bar) = (mX5_attacks_C2 mF mR kd wm to_ bar)).symm.trans hm) ls (lv_sub hl [0, 1, 2, 3, 4, 5, 6, 7] rfl)
              ·
                refine lv_iconst (v := (0 : Int32)) hx hb dX5_attacks_118 (by decide) ?_
                have hfin : false = (mX5_attacks mF mR kd wm to_ bar) := (by rw [mX5_attacks_C1, if_neg c_12, if_neg c_13, if_neg c_14, if_neg c_15] : (mX5_attacks_C1 mF mR kd wm to_ bar) = false).symm.trans hm
                exact et_zret hx hb hr hlocks dX5_attacks_119 (congrArg zI (hfin))
      refine lv_iload hx hb dX5_attacks_77 (lv_at hl 1 rfl) ?_
      refine lv_if_ne (tgt := 87) hx hb dX5_attacks_79 (by decide) (fun c_16 => ?_) (fun c_16 => ?_)
      ·
        refine lv_iload_n hx hb dX5_attacks_87 rfl (lv_at hl 3 rfl) ?_
        refine lv_if_ne (tgt := 93) hx hb dX5_attacks_88 (by decide) (fun c_17 => ?_) (fun c_17 => ?_)
        ·
          exact hc1 (by rw [mX5_attacks, if_neg c_1, if_neg c_2, if_neg c_16, if_neg c_17]) ls (lv_sub hl [0, 1, 2, 3, 4, 5, 6, 7] rfl)
        ·
          refine lv_iconst (v := (0 : Int32)) hx hb dX5_attacks_91 (by decide) ?_
          have hfin : false = (mX5_attacks mF mR kd wm to_ bar) := (by rw [mX5_attacks, if_neg c_1, if_neg c_2, if_neg c_16, if_pos c_17])
          exact et_zret hx hb hr hlocks dX5_attacks_92 (congrArg zI (hfin))
      ·
        refine lv_iload hx hb dX5_attacks_82 (lv_at hl 0 rfl) ?_
        refine lv_if_eq (tgt := 91) hx hb dX5_attacks_84 (by decide) (fun c_18 => ?_) (fun c_18 => ?_)
        ·
          refine lv_iconst (v := (0 : Int32)) hx hb dX5_attacks_91 (by decide) ?_
          have hfin : false = (mX5_attacks mF mR kd wm to_ bar) := (by rw [mX5_attacks, if_neg c_1, if_neg c_2, if_pos c_16, if_pos c_18])
          exact et_zret hx hb hr hlocks dX5_attacks_92 (congrArg zI (hfin))
        ·
          refine lv_iload_n hx hb dX5_attacks_87 rfl (lv_at hl 3 rfl) ?_
          refine lv_if_ne (tgt := 93) hx hb dX5_attacks_88 (by decide) (fun c_19 => ?_) (fun c_19 => ?_)
          ·
            exact hc1 (by rw [mX5_attacks, if_neg c_1, if_neg c_2, if_pos c_16, if_neg c_18, if_neg c_19]) ls (lv_sub hl [0, 1, 2, 3, 4, 5, 6, 7] rfl)
          ·
            refine lv_iconst (v := (0 : Int32)) hx hb dX5_attacks_91 (by decide) ?_
            have hfin : false = (mX5_attacks mF mR kd wm to_ bar) := (by rw [mX5_attacks, if_neg c_1, if_neg c_2, if_pos c_16, if_neg c_18, if_pos c_19])
            exact et_zret hx hb hr hlocks dX5_attacks_92 (congrArg zI (hfin))
    ·
      refine lv_iload hx hb dX5_attacks_56 (lv_at hl 1 rfl) ?_
      refine lv_iload hx hb dX5_attacks_58 (lv_at hl 1 rfl) ?_
      refine lv_imul hx hb dX5_attacks_60 ?_
      refine lv_iload hx hb dX5_attacks_61 (lv_at hl 0 rfl) ?_
      refine lv_iload hx hb dX5_attacks_63 (lv_at hl 0 rfl) ?_
      refine lv_imul hx hb dX5_attacks_65 ?_
      refine lv_iadd hx hb dX5_attacks_66 ?_
      refine lv_iconst (v := (5 : Int32)) hx hb dX5_attacks_67 (by decide) ?_
      refine lv_icmp_ne (tgt := 75) hx hb dX5_attacks_68 (by decide) (fun c_20 => ?_) (fun c_20 => ?_)
      ·
        refine lv_iconst (v := (0 : Int32)) hx hb dX5_attacks_75 (by decide) ?_
        have hfin : false = (mX5_attacks mF mR kd wm to_ bar) := (by rw [mX5_attacks, if_neg c_1, if_pos c_2, if_neg c_20])
        exact et_zret hx hb hr hlocks dX5_attacks_76 (congrArg zI (hfin))
      ·
        refine lv_iconst (v := (1 : Int32)) hx hb dX5_attacks_71 (by decide) ?_
        refine lv_goto (tgt := 76) hx hb dX5_attacks_72 (by decide) ?_
        have hfin : true = (mX5_attacks mF mR kd wm to_ bar) := (by rw [mX5_attacks, if_neg c_1, if_pos c_2, if_pos c_20])
        exact et_zret hx hb hr hlocks dX5_attacks_76 (congrArg zI (hfin))
  ·
    refine lv_iload hx hb dX5_attacks_27 (lv_at hl 0 rfl) ?_
    refine lv_iconst (v := (1 : Int32)) hx hb dX5_attacks_29 (by decide) ?_
    refine lv_icmp_ne (tgt := 49) hx hb dX5_attacks_30 (by decide) (fun c_21 => ?_) (fun c_21 => ?_)
    ·
      refine lv_iconst (v := (0 : Int32)) hx hb dX5_attacks_49 (by decide) ?_
      have hfin : false = (mX5_attacks mF mR kd wm to_ bar) := (by rw [mX5_attacks, if_pos c_1, if_neg c_21])
      exact et_zret hx hb hr hlocks dX5_attacks_50 (congrArg zI (hfin))
    ·
      refine lv_iload hx hb dX5_attacks_33 (lv_at hl 1 rfl) ?_
      refine lv_iconst (v := (1 : Int32)) hx hb dX5_attacks_35 (by decide) ?_
      refine lv_icmp_eq (tgt := 45) hx hb dX5_attacks_36 (by decide) (fun c_22 => ?_) (fun c_22 => ?_)
      ·
        refine lv_iconst (v := (1 : Int32)) hx hb dX5_attacks_45 (by decide) ?_
        refine lv_goto (tgt := 50) hx hb dX5_attacks_46 (by decide) ?_
        have hfin : true = (mX5_attacks mF mR kd wm to_ bar) := (by rw [mX5_attacks, if_pos c_1, if_pos c_21, if_pos c_22])
        exact et_zret hx hb hr hlocks dX5_attacks_50 (congrArg zI (hfin))
      ·
        refine lv_iload hx hb dX5_attacks_39 (lv_at hl 1 rfl) ?_
        refine lv_iconst (v := (-1 : Int32)) hx hb dX5_attacks_41 (by decide) ?_
        refine lv_icmp_ne (tgt := 49) hx hb dX5_attacks_42 (by decide) (fun c_23 => ?_) (fun c_23 => ?_)
        ·
          refine lv_iconst (v := (0 : Int32)) hx hb dX5_attacks_49 (by decide) ?_
          have hfin : false = (mX5_attacks mF mR kd wm to_ bar) := (by rw [mX5_attacks, if_pos c_1, if_pos c_21, if_neg c_22, if_neg c_23])
          exact et_zret hx hb hr hlocks dX5_attacks_50 (congrArg zI (hfin))
        ·
          refine lv_iconst (v := (1 : Int32)) hx hb dX5_attacks_45 (by decide) ?_
          refine lv_goto (tgt := 50) hx hb dX5_attacks_46 (by decide) ?_
          have hfin : true = (mX5_attacks mF mR kd wm to_ bar) := (by rw [mX5_attacks, if_pos c_1, if_pos c_21, if_neg c_22, if_pos c_23])
          exact et_zret hx hb hr hlocks dX5_attacks_50 (congrArg zI (hfin))

def mX5_isPosition (mF : Int32) (mR : Int32) (kd : Int32) (ww : Int32) (wm : Int32) (wb : Int32) (who : Int32) : Bool :=
  if kd < 0 then
    false
  else
    if (5 : Int32) < kd then
      false
    else
      if who < 0 then
        false
      else
        if (1 : Int32) < who then
          false
        else
          if (zI (mX5_isSquare mF mR ww)) = 0 then
            false
          else
            if (zI (mX5_isSquare mF mR wb)) = 0 then
              false
            else
              if ww = wb then
                false
              else
                if (zI (mX5_isNext ww wb)) = 0 then
                  if kd = 0 then
                    if wm = 0 then
                      true
                    else
                      false
                  else
                    if (zI (mX5_isSquare mF mR wm)) = 0 then
                      false
                    else
                      if wm = ww then
                        false
                      else
                        if wm = wb then
                          false
                        else
                          if kd = (1 : Int32) then
                            if (wm / (8 : Int32)) = 0 then
                              false
                            else
                              if (wm / (8 : Int32)) = (mR - (1 : Int32)) then
                                false
                              else
                                if who = (1 : Int32) then
                                  true
                                else
                                  if (zI (mX5_attacks mF mR kd wm wb ww)) = 0 then
                                    true
                                  else
                                    false
                          else
                            if who = (1 : Int32) then
                              true
                            else
                              if (zI (mX5_attacks mF mR kd wm wb ww)) = 0 then
                                true
                              else
                                false
                else
                  false
set_option maxHeartbeats 4000000 in
set_option maxRecDepth 100000 in
theorem c_X5_isPosition (l : Launch) (g : et_G) (md : Nat) (r1 : Nat) (r2 : Nat) (r3 : Nat) (r4 : Nat) (mF : Int32) (mR : Int32) (th : Int32) (tb : Nat → Int64) (bu : Nat → Int32) (gr : Nat → Int32) (mt : Bool) (mk : Int32) (mw : Int32) (mm : Int32) (mb : Int32) (ms : Int32) (ml : Nat → Int32) (my : Int32) (kd : Int32) (ww : Int32) (wm : Int32) (wb : Int32) (who : Int32) (hF : et_b8 mF) (hR : et_b8 mR) : Met l yX5_isPosition (Cond.code yX5_isPosition cX5_isPosition 6 (some (.boolean)) :: W0) ({ frames := 2, cells := 0, slots := 0, locals := 55 } : Room) (et_Pc g ([(md, .inr (5, [.int th, .int mF, .int mR, .ref r1, .ref r2, .ref r3, .int (zI mt), .int mk, .int mw, .int mm, .int mb, .int ms, .ref r4, .int my])), (r1, .inl (gJ g, 327680, .inr (.inl tb))), (r2, .inl (gZ g, 6, .inl bu)), (r3, .inl (gI g, 6, .inl gr)), (r4, .inl (gI g, 64, .inl ml))]) [.ref md, .int kd, .int ww, .int wm, .int wb, .int who]) (et_QP (some (.int (zI ((mX5_isPosition mF mR kd ww wm wb who)))))) 0 0 et_no := by
  refine et_startP (by decide) rfl (Nat.le_of_ble_eq_true rfl) ?_
  intro p e s m args below meth c hx hb hr hts0 hown hlocks hml hP hC ls hl
  have hts : ∀ w ∈ W0, w.before args s = true := fun w h => hts0 w (List.mem_cons_of_mem _ h)
  have hown : s.vm.findClass RX5 = some m.cls := hown
  have hl : lv_has ls 6 [(0, .ref md), (1, .int kd), (2, .int ww), (3, .int wm), (4, .int wb), (5, .int who)] := hl
  refine lv_iload_n hx hb dX5_isPosition_0 rfl (lv_at hl 1 rfl) ?_
  refine lv_if_lt (tgt := 52) hx hb dX5_isPosition_1 (by decide) (fun c_1 => ?_) (fun c_1 => ?_)
  ·
    refine lv_iconst (v := (0 : Int32)) hx hb dX5_isPosition_52 (by decide) ?_
    have hfin : false = (mX5_isPosition mF mR kd ww wm wb who) := (by rw [mX5_isPosition, if_pos c_1])
    exact et_zret hx hb hr hlocks dX5_isPosition_53 (congrArg zI (hfin))
  ·
    refine lv_iload_n hx hb dX5_isPosition_4 rfl (lv_at hl 1 rfl) ?_
    refine lv_iconst (v := (5 : Int32)) hx hb dX5_isPosition_5 (by decide) ?_
    refine lv_icmp_gt (tgt := 52) hx hb dX5_isPosition_6 (by decide) (fun c_2 => ?_) (fun c_2 => ?_)
    ·
      refine lv_iconst (v := (0 : Int32)) hx hb dX5_isPosition_52 (by decide) ?_
      have hfin : false = (mX5_isPosition mF mR kd ww wm wb who) := (by rw [mX5_isPosition, if_neg c_1, if_pos c_2])
      exact et_zret hx hb hr hlocks dX5_isPosition_53 (congrArg zI (hfin))
    ·
      refine lv_iload hx hb dX5_isPosition_9 (lv_at hl 5 rfl) ?_
      refine lv_if_lt (tgt := 52) hx hb dX5_isPosition_11 (by decide) (fun c_3 => ?_) (fun c_3 => ?_)
      ·
        refine lv_iconst (v := (0 : Int32)) hx hb dX5_isPosition_52 (by decide) ?_
        have hfin : false = (mX5_isPosition mF mR kd ww wm wb who) := (by rw [mX5_isPosition, if_neg c_1, if_neg c_2, if_pos c_3])
        exact et_zret hx hb hr hlocks dX5_isPosition_53 (congrArg zI (hfin))
      ·
        refine lv_iload hx hb dX5_isPosition_14 (lv_at hl 5 rfl) ?_
        refine lv_iconst (v := (1 : Int32)) hx hb dX5_isPosition_16 (by decide) ?_
        refine lv_icmp_gt (tgt := 52) hx hb dX5_isPosition_17 (by decide) (fun c_4 => ?_) (fun c_4 => ?_)
        ·
          refine lv_iconst (v := (0 : Int32)) hx hb dX5_isPosition_52 (by decide) ?_
          have hfin : false = (mX5_isPosition mF mR kd ww wm wb who) := (by rw [mX5_isPosition, if_neg c_1, if_neg c_2, if_neg c_3, if_pos c_4])
          exact et_zret hx hb hr hlocks dX5_isPosition_53 (congrArg zI (hfin))
        ·
          refine lv_aload_n hx hb dX5_isPosition_20 rfl (lv_at hl 0 rfl) ?_
          refine lv_iload_n hx hb dX5_isPosition_21 rfl (lv_at hl 2 rfl) ?_
          refine et_callP1 (v := .int (zI (mX5_isSquare mF mR ww))) (va_runV (As := [.int ww]) (rest := []) ⟨hx, hb, hml, hown, hts⟩ (c_X5_isSquare l g md r1 r2 r3 r4 mF mR th tb bu gr mt mk mw mm mb ms ml my ww) (cwV 1 hts (W0_gV w_796 w_798 w_52 w_82 w_799) rfl rfl rfl (by decide +kernel) ⟨Nat.le_of_ble_eq_true rfl, Nat.le_of_ble_eq_true rfl⟩) (et_preV hP hC [0, 1, 2, 3, 4] rfl (ci := 5) (q0 := 0) rfl rfl) rfl rfl hl.1 rfl (lv_room (Nat.le_of_ble_eq_true rfl)) dX5_isPosition_22 ⟨Nat.le_of_ble_eq_true rfl, Nat.le_of_ble_eq_true rfl⟩) ?_
          refine lv_if_eq (tgt := 52) hx hb dX5_isPosition_25 (by decide) (fun c_5 => ?_) (fun c_5 => ?_)
          ·
            refine lv_iconst (v := (0 : Int32)) hx hb dX5_isPosition_52 (by decide) ?_
            have hfin : false = (mX5_isPosition mF mR kd ww wm wb who) := (by rw [mX5_isPosition, if_neg c_1, if_neg c_2, if_neg c_3, if_neg c_4, if_pos c_5])
            exact et_zret hx hb hr hlocks dX5_isPosition_53 (congrArg zI (hfin))
          ·
            refine lv_aload_n hx hb dX5_isPosition_28 rfl (lv_at hl 0 rfl) ?_
            refine lv_iload hx hb dX5_isPosition_29 (lv_at hl 4 rfl) ?_
            refine et_callP1 (v := .int (zI (mX5_isSquare mF mR wb))) (va_runV (As := [.int wb]) (rest := []) ⟨hx, hb, hml, hown, hts⟩ (c_X5_isSquare l g md r1 r2 r3 r4 mF mR th tb bu gr mt mk mw mm mb ms ml my wb) (cwV 1 hts (W0_gV w_796 w_798 w_52 w_82 w_799) rfl rfl rfl (by decide +kernel) ⟨Nat.le_of_ble_eq_true rfl, Nat.le_of_ble_eq_true rfl⟩) (et_preV hP hC [0, 1, 2, 3, 4] rfl (ci := 5) (q0 := 0) rfl rfl) rfl rfl hl.1 rfl (lv_room (Nat.le_of_ble_eq_true rfl)) dX5_isPosition_31 ⟨Nat.le_of_ble_eq_true rfl, Nat.le_of_ble_eq_true rfl⟩) ?_
            refine lv_if_eq (tgt := 52) hx hb dX5_isPosition_34 (by decide) (fun c_6 => ?_) (fun c_6 => ?_)
            ·
              refine lv_iconst (v := (0 : Int32)) hx hb dX5_isPosition_52 (by decide) ?_
              have hfin : false = (mX5_isPosition mF mR kd ww wm wb who) := (by rw [mX5_isPosition, if_neg c_1, if_neg c_2, if_neg c_3, if_neg c_4, if_neg c_5, if_pos c_6])
              exact et_zret hx hb hr hlocks dX5_isPosition_53 (congrArg zI (hfin))
            ·
              refine lv_iload_n hx hb dX5_isPosition_37 rfl (lv_at hl 2 rfl) ?_
              refine lv_iload hx hb dX5_isPosition_38 (lv_at hl 4 rfl) ?_
              refine lv_icmp_eq (tgt := 52) hx hb dX5_isPosition_40 (by decide) (fun c_7 => ?_) (fun c_7 => ?_)
              ·
                refine lv_iconst (v := (0 : Int32)) hx hb dX5_isPosition_52 (by decide) ?_
                have hfin : false = (mX5_isPosition mF mR kd ww wm wb who) := (by rw [mX5_isPosition, if_neg c_1, if_neg c_2, if_neg c_3, if_neg c_4, if_neg c_5, if_neg c_6, if_pos c_7])
                exact et_zret hx hb hr hlocks dX5_isPosition_53 (congrArg zI (hfin))
              ·
                refine lv_iload_n hx hb dX5_isPosition_43 rfl (lv_at hl 2 rfl) ?_
                refine lv_iload hx hb dX5_isPosition_44 (lv_at hl 4 rfl) ?_
                refine et_callP1 (v := .int (zI (mX5_isNext ww wb))) (va_runS (As := [.int ww, .int wb]) (rest := []) ⟨hx, hb, hml, hown, hts⟩ (c_X5_isNext l g ww wb) (va_cwS 2 hts (W0_gS w_800 w_801 w_82 w_802) rfl rfl rfl (by decide +kernel) ⟨Nat.le_of_ble_eq_true rfl, Nat.le_of_ble_eq_true rfl⟩) (et_preS hP hC [] rfl) rfl rfl hl.1 rfl (lv_room (Nat.le_of_ble_eq_true rfl)) dX5_isPosition_46 ⟨Nat.le_of_ble_eq_true rfl, Nat.le_of_ble_eq_true rfl⟩) ?_
                refine lv_if_eq (tgt := 54) hx hb dX5_isPosition_49 (by decide) (fun c_8 => ?_) (fun c_8 => ?_)
                ·
                  refine lv_iload_n hx hb dX5_isPosition_54 rfl (lv_at hl 1 rfl) ?_
                  refine lv_if_ne (tgt := 68) hx hb dX5_isPosition_55 (by decide) (fun c_9 => ?_) (fun c_9 => ?_)
                  ·
                    refine lv_aload_n hx hb dX5_isPosition_68 rfl (lv_at hl 0 rfl) ?_
                    refine lv_iload_n hx hb dX5_isPosition_69 rfl (lv_at hl 3 rfl) ?_
                    refine et_callP1 (v := .int (zI (mX5_isSquare mF mR wm))) (va_runV (As := [.int wm]) (rest := []) ⟨hx, hb, hml, hown, hts⟩ (c_X5_isSquare l g md r1 r2 r3 r4 mF mR th tb bu gr mt mk mw mm mb ms ml my wm) (cwV 1 hts (W0_gV w_796 w_798 w_52 w_82 w_799) rfl rfl rfl (by decide +kernel) ⟨Nat.le_of_ble_eq_true rfl, Nat.le_of_ble_eq_true rfl⟩) (et_preV hP hC [0, 1, 2, 3, 4] rfl (ci := 5) (q0 := 0) rfl rfl) rfl rfl hl.1 rfl (lv_room (Nat.le_of_ble_eq_true rfl)) dX5_isPosition_70 ⟨Nat.le_of_ble_eq_true rfl, Nat.le_of_ble_eq_true rfl⟩) ?_
                    refine lv_if_eq (tgt := 112) hx hb dX5_isPosition_73 (by decide) (fun c_10 => ?_) (fun c_10 => ?_)
                    ·
                      refine lv_iconst (v := (0 : Int32)) hx hb dX5_isPosition_112 (by decide) ?_
                      have hfin : false = (mX5_isPosition mF mR kd ww wm wb who) := (by rw [mX5_isPosition, if_neg c_1, if_neg c_2, if_neg c_3, if_neg c_4, if_neg c_5, if_neg c_6, if_neg c_7, if_pos c_8, if_neg c_9, if_pos c_10])
                      exact et_zret hx hb hr hlocks dX5_isPosition_113 (congrArg zI (hfin))
                    ·
                      refine lv_iload_n hx hb dX5_isPosition_76 rfl (lv_at hl 3 rfl) ?_
                      refine lv_iload_n hx hb dX5_isPosition_77 rfl (lv_at hl 2 rfl) ?_
                      refine lv_icmp_eq (tgt := 112) hx hb dX5_isPosition_78 (by decide) (fun c_11 => ?_) (fun c_11 => ?_)
                      ·
                        refine lv_iconst (v := (0 : Int32)) hx hb dX5_isPosition_112 (by decide) ?_
                        have hfin : false = (mX5_isPosition mF mR kd ww wm wb who) := (by rw [mX5_isPosition, if_neg c_1, if_neg c_2, if_neg c_3, if_neg c_4, if_neg c_5, if_neg c_6, if_neg c_7, if_pos c_8, if_neg c_9, if_neg c_10, if_pos c_11])
                        exact et_zret hx hb hr hlocks dX5_isPosition_113 (congrArg zI (hfin))
                      ·
                        refine lv_iload_n hx hb dX5_isPosition_81 rfl (lv_at hl 3 rfl) ?_
                        refine lv_iload hx hb dX5_isPosition_82 (lv_at hl 4 rfl) ?_
                        refine lv_icmp_eq (tgt := 112) hx hb dX5_isPosition_84 (by decide) (fun c_12 => ?_) (fun c_12 => ?_)
                        ·
                          refine lv_iconst (v := (0 : Int32)) hx hb dX5_isPosition_112 (by decide) ?_
                          have hfin : false = (mX5_isPosition mF mR kd ww wm wb who) := (by rw [mX5_isPosition, if_neg c_1, if_neg c_2, if_neg c_3, if_neg c_4, if_neg c_5, if_neg c_6, if_neg c_7, if_pos c_8, if_neg c_9, if_neg c_10, if_neg c_11, if_pos c_12])
                          exact et_zret hx hb hr hlocks dX5_isPosition_113 (congrArg zI (hfin))
                        ·
                          refine lv_iload_n hx hb dX5_isPosition_87 rfl (lv_at hl 1 rfl) ?_
                          refine lv_iconst (v := (1 : Int32)) hx hb dX5_isPosition_88 (by decide) ?_
                          refine lv_icmp_ne (tgt := 114) hx hb dX5_isPosition_89 (by decide) (fun c_13 => ?_) (fun c_13 => ?_)
                          ·
                            refine lv_iload hx hb dX5_isPosition_114 (lv_at hl 5 rfl) ?_
                            refine lv_iconst (v := (1 : Int32)) hx hb dX5_isPosition_116 (by decide) ?_
                            refine lv_icmp_eq (tgt := 133) hx hb dX5_isPosition_117 (by decide) (fun c_14 => ?_) (fun c_14 => ?_)
                            ·
                              refine lv_iconst (v := (1 : Int32)) hx hb dX5_isPosition_133 (by decide) ?_
                              refine lv_goto (tgt := 138) hx hb dX5_isPosition_134 (by decide) ?_
                              have hfin : true = (mX5_isPosition mF mR kd ww wm wb who) := (by rw [mX5_isPosition, if_neg c_1, if_neg c_2, if_neg c_3, if_neg c_4, if_neg c_5, if_neg c_6, if_neg c_7, if_pos c_8, if_neg c_9, if_neg c_10, if_neg c_11, if_neg c_12, if_neg c_13, if_pos c_14])
                              exact et_zret hx hb hr hlocks dX5_isPosition_138 (congrArg zI (hfin))
                            ·
                              refine lv_aload_n hx hb dX5_isPosition_120 rfl (lv_at hl 0 rfl) ?_
                              refine lv_iload_n hx hb dX5_isPosition_121 rfl (lv_at hl 1 rfl) ?_
                              refine lv_iload_n hx hb dX5_isPosition_122 rfl (lv_at hl 3 rfl) ?_
                              refine lv_iload hx hb dX5_isPosition_123 (lv_at hl 4 rfl) ?_
                              refine lv_iload_n hx hb dX5_isPosition_125 rfl (lv_at hl 2 rfl) ?_
                              refine lv_iconst (v := (-1 : Int32)) hx hb dX5_isPosition_126 (by decide) ?_
                              refine et_callP1 (v := .int (zI (mX5_attacks mF mR kd wm wb ww))) (va_runV (As := [.int kd, .int wm, .int wb, .int ww, .int (-1 : Int32)]) (rest := []) ⟨hx, hb, hml, hown, hts⟩ (c_X5_attacks l g md r1 r2 r3 r4 mF mR th tb bu gr mt mk mw mm mb ms ml my kd wm wb ww (by assumption) (by assumption)) (cwV 5 hts (W0_gV w_806 w_808 w_53 w_82 w_809) rfl rfl rfl (by decide +kernel) ⟨Nat.le_of_ble_eq_true rfl, Nat.le_of_ble_eq_true rfl⟩) (et_preV hP hC [0, 1, 2, 3, 4] rfl (ci := 5) (q0 := 0) rfl rfl) rfl rfl hl.1 rfl (lv_room (Nat.le_of_ble_eq_true rfl)) dX5_isPosition_127 ⟨Nat.le_of_ble_eq_true rfl, Nat.le_of_ble_eq_true rfl⟩) ?_
                              refine lv_if_ne (tgt := 137) hx hb dX5_isPosition_130 (by decide) (fun c_15 => ?_) (fun c_15 => ?_)
                              ·
                                refine lv_iconst (v := (0 : Int32)) hx hb dX5_isPosition_137 (by decide) ?_
                                have hfin : false = (mX5_isPosition mF mR kd ww wm wb who) := (by rw [mX5_isPosition, if_neg c_1, if_neg c_2, if_neg c_3, if_neg c_4, if_neg c_5, if_neg c_6, if_neg c_7, if_pos c_8, if_neg c_9, if_neg c_10, if_neg c_11, if_neg c_12, if_neg c_13, if_neg c_14, if_neg c_15])
                                exact et_zret hx hb hr hlocks dX5_isPosition_138 (congrArg zI (hfin))
                              ·
                                refine lv_iconst (v := (1 : Int32)) hx hb dX5_isPosition_133 (by decide) ?_
                                refine lv_goto (tgt := 138) hx hb dX5_isPosition_134 (by decide) ?_
                                have hfin : true = (mX5_isPosition mF mR kd ww wm wb who) := (by rw [mX5_isPosition, if_neg c_1, if_neg c_2, if_neg c_3, if_neg c_4, if_neg c_5, if_neg c_6, if_neg c_7, if_pos c_8, if_neg c_9, if_neg c_10, if_neg c_11, if_neg c_12, if_neg c_13, if_neg c_14, if_pos c_15])
                                exact et_zret hx hb hr hlocks dX5_isPosition_138 (congrArg zI (hfin))
                          ·
                            refine lv_iload_n hx hb dX5_isPosition_92 rfl (lv_at hl 3 rfl) ?_
                            refine lv_bipush (v := (8 : Int32)) hx hb dX5_isPosition_93 (by decide) ?_
                            refine lv_idiv hx hb dX5_isPosition_95 (by decide) ?_
                            refine lv_if_eq (tgt := 112) hx hb dX5_isPosition_96 (by decide) (fun c_16 => ?_) (fun c_16 => ?_)
                            ·
                              refine lv_iconst (v := (0 : Int32)) hx hb dX5_isPosition_112 (by decide) ?_
                              have hfin : false = (mX5_isPosition mF mR kd ww wm wb who) := (by rw [mX5_isPosition, if_neg c_1, if_neg c_2, if_neg c_3, if_neg c_4, if_neg c_5, if_neg c_6, if_neg c_7, if_pos c_8, if_neg c_9, if_neg c_10, if_neg c_11, if_neg c_12, if_pos c_13, if_pos c_16])
                              exact et_zret hx hb hr hlocks dX5_isPosition_113 (congrArg zI (hfin))
                            ·
                              refine lv_iload_n hx hb dX5_isPosition_99 rfl (lv_at hl 3 rfl) ?_
                              refine lv_bipush (v := (8 : Int32)) hx hb dX5_isPosition_100 (by decide) ?_
                              refine lv_idiv hx hb dX5_isPosition_102 (by decide) ?_
                              refine lv_aload_n hx hb dX5_isPosition_103 rfl (lv_at hl 0 rfl) ?_
                              refine va_get (D := gD g) (ci := 5) (v := .int mR) (C := RX5) (T := TX5) (N := 14) hx hb hts inW_X5 hown hC.1 hP 0 rfl rfl 2 (by decide) (hts _ w_735) (fun _ h9 => h9) rfl dX5_isPosition_104 ?_
                              refine lv_iconst (v := (1 : Int32)) hx hb dX5_isPosition_107 (by decide) ?_
                              refine lv_isub hx hb dX5_isPosition_108 ?_
                              refine lv_icmp_ne (tgt := 114) hx hb dX5_isPosition_109 (by decide) (fun c_17 => ?_) (fun c_17 => ?_)
                              ·
                                refine lv_iload hx hb dX5_isPosition_114 (lv_at hl 5 rfl) ?_
                                refine lv_iconst (v := (1 : Int32)) hx hb dX5_isPosition_116 (by decide) ?_
                                refine lv_icmp_eq (tgt := 133) hx hb dX5_isPosition_117 (by decide) (fun c_18 => ?_) (fun c_18 => ?_)
                                ·
                                  refine lv_iconst (v := (1 : Int32)) hx hb dX5_isPosition_133 (by decide) ?_
                                  refine lv_goto (tgt := 138) hx hb dX5_isPosition_134 (by decide) ?_
                                  have hfin : true = (mX5_isPosition mF mR kd ww wm wb who) := (by rw [mX5_isPosition, if_neg c_1, if_neg c_2, if_neg c_3, if_neg c_4, if_neg c_5, if_neg c_6, if_neg c_7, if_pos c_8, if_neg c_9, if_neg c_10, if_neg c_11, if_neg c_12, if_pos c_13, if_neg c_16, if_neg c_17, if_pos c_18])
                                  exact et_zret hx hb hr hlocks dX5_isPosition_138 (congrArg zI (hfin))
                                ·
                                  refine lv_aload_n hx hb dX5_isPosition_120 rfl (lv_at hl 0 rfl) ?_
                                  refine lv_iload_n hx hb dX5_isPosition_121 rfl (lv_at hl 1 rfl) ?_
                                  refine lv_iload_n hx hb dX5_isPosition_122 rfl (lv_at hl 3 rfl) ?_
                                  refine lv_iload hx hb dX5_isPosition_123 (lv_at hl 4 rfl) ?_
                                  refine lv_iload_n hx hb dX5_isPosition_125 rfl (lv_at hl 2 rfl) ?_
                                  refine lv_iconst (v := (-1 : Int32)) hx hb dX5_isPosition_126 (by decide) ?_
                                  refine et_callP1 (v := .int (zI (mX5_attacks mF mR kd wm wb ww))) (va_runV (As := [.int kd, .int wm, .int wb, .int ww, .int (-1 : Int32)]) (rest := []) ⟨hx, hb, hml, hown, hts⟩ (c_X5_attacks l g md r1 r2 r3 r4 mF mR th tb bu gr mt mk mw mm mb ms ml my kd wm wb ww (by assumption) (by assumption)) (cwV 5 hts (W0_gV w_806 w_808 w_53 w_82 w_809) rfl rfl rfl (by decide +kernel) ⟨Nat.le_of_ble_eq_true rfl, Nat.le_of_ble_eq_true rfl⟩) (et_preV hP hC [0, 1, 2, 3, 4] rfl (ci := 5) (q0 := 0) rfl rfl) rfl rfl hl.1 rfl (lv_room (Nat.le_of_ble_eq_true rfl)) dX5_isPosition_127 ⟨Nat.le_of_ble_eq_true rfl, Nat.le_of_ble_eq_true rfl⟩) ?_
                                  refine lv_if_ne (tgt := 137) hx hb dX5_isPosition_130 (by decide) (fun c_19 => ?_) (fun c_19 => ?_)
                                  ·
                                    refine lv_iconst (v := (0 : Int32)) hx hb dX5_isPosition_137 (by decide) ?_
                                    have hfin : false = (mX5_isPosition mF mR kd ww wm wb who) := (by rw [mX5_isPosition, if_neg c_1, if_neg c_2, if_neg c_3, if_neg c_4, if_neg c_5, if_neg c_6, if_neg c_7, if_pos c_8, if_neg c_9, if_neg c_10, if_neg c_11, if_neg c_12, if_pos c_13, if_neg c_16, if_neg c_17, if_neg c_18, if_neg c_19])
                                    exact et_zret hx hb hr hlocks dX5_isPosition_138 (congrArg zI (hfin))
                                  ·
                                    refine lv_iconst (v := (1 : Int32)) hx hb dX5_isPosition_133 (by decide) ?_
                                    refine lv_goto (tgt := 138) hx hb dX5_isPosition_134 (by decide) ?_
                                    have hfin : true = (mX5_isPosition mF mR kd ww wm wb who) := (by rw [mX5_isPosition, if_neg c_1, if_neg c_2, if_neg c_3, if_neg c_4, if_neg c_5, if_neg c_6, if_neg c_7, if_pos c_8, if_neg c_9, if_neg c_10, if_neg c_11, if_neg c_12, if_pos c_13, if_neg c_16, if_neg c_17, if_neg c_18, if_pos c_19])
                                    exact et_zret hx hb hr hlocks dX5_isPosition_138 (congrArg zI (hfin))
                              ·
                                refine lv_iconst (v := (0 : Int32)) hx hb dX5_isPosition_112 (by decide) ?_
                                have hfin : false = (mX5_isPosition mF mR kd ww wm wb who) := (by rw [mX5_isPosition, if_neg c_1, if_neg c_2, if_neg c_3, if_neg c_4, if_neg c_5, if_neg c_6, if_neg c_7, if_pos c_8, if_neg c_9, if_neg c_10, if_neg c_11, if_neg c_12, if_pos c_13, if_neg c_16, if_pos c_17])
                                exact et_zret hx hb hr hlocks dX5_isPosition_113 (congrArg zI (hfin))
                  ·
                    refine lv_iload_n hx hb dX5_isPosition_58 rfl (lv_at hl 3 rfl) ?_
                    refine lv_if_ne (tgt := 66) hx hb dX5_isPosition_59 (by decide) (fun c_20 => ?_) (fun c_20 => ?_)
                    ·
                      refine lv_iconst (v := (0 : Int32)) hx hb dX5_isPosition_66 (by decide) ?_
                      have hfin : false = (mX5_isPosition mF mR kd ww wm wb who) := (by rw [mX5_isPosition, if_neg c_1, if_neg c_2, if_neg c_3, if_neg c_4, if_neg c_5, if_neg c_6, if_neg c_7, if_pos c_8, if_pos c_9, if_neg c_20])
                      exact et_zret hx hb hr hlocks dX5_isPosition_67 (congrArg zI (hfin))
                    ·
                      refine lv_iconst (v := (1 : Int32)) hx hb dX5_isPosition_62 (by decide) ?_
                      refine lv_goto (tgt := 67) hx hb dX5_isPosition_63 (by decide) ?_
                      have hfin : true = (mX5_isPosition mF mR kd ww wm wb who) := (by rw [mX5_isPosition, if_neg c_1, if_neg c_2, if_neg c_3, if_neg c_4, if_neg c_5, if_neg c_6, if_neg c_7, if_pos c_8, if_pos c_9, if_pos c_20])
                      exact et_zret hx hb hr hlocks dX5_isPosition_67 (congrArg zI (hfin))
                ·
                  refine lv_iconst (v := (0 : Int32)) hx hb dX5_isPosition_52 (by decide) ?_
                  have hfin : false = (mX5_isPosition mF mR kd ww wm wb who) := (by rw [mX5_isPosition, if_neg c_1, if_neg c_2, if_neg c_3, if_neg c_4, if_neg c_5, if_neg c_6, if_neg c_7, if_neg c_8])
                  exact et_zret hx hb hr hlocks dX5_isPosition_53 (congrArg zI (hfin))

def mX5_cell (kd : Int32) (who : Int32) (ww : Int32) (wm : Int32) (wb : Int32) : Int32 :=
  (((((2 : Int32) * (kd - (1 : Int32))) + who) * (262144 : Int32)) + (((ww * (64 : Int32)) + wm) * (64 : Int32))) + wb
theorem et_cellN {k o w u v : Nat} : mX5_cell (nI (k + 1)) (nI o) (nI w) (nI u) (nI v) = nI ((2 * k + o) * 262144 + (w * 64 + u) * 64 + v) := by
  show ((2 : Int32) * (nI (k + 1) - (1 : Int32)) + nI o) * (262144 : Int32) + (nI w * (64 : Int32) + nI u) * (64 : Int32) + nI v = _
  rw [nI_pred, show (2 : Int32) = nI 2 from rfl, show (262144 : Int32) = nI 262144 from rfl, show (64 : Int32) = nI 64 from rfl]
  simp only [pk_mul, nI_add]
theorem et_sdn {x : Int32} (h : et_sd x) : ∃ j : Nat, j ≤ 1 ∧ x = nI j := by
  rcases h with rfl | rfl
  · exact ⟨0, by omega, rfl⟩
  · exact ⟨1, by omega, rfl⟩
theorem et_cell_in {kd who ww wm wb : Int32} (h1 : et_kd kd) (h2 : et_sd who) (h3 : et_r64 ww) (h4 : et_r64 wm) (h5 : et_r64 wb) : vp_in (mX5_cell kd who ww wm wb >>> ((3 : Int32) &&& 31)) 327680 := by
  obtain ⟨k, a1, a2, rfl⟩ := h1
  obtain ⟨o, b2, rfl⟩ := et_sdn h2
  obtain ⟨w, c2, rfl⟩ := h3
  obtain ⟨u, d2, rfl⟩ := h4
  obtain ⟨v, e2, rfl⟩ := h5
  obtain ⟨k, rfl⟩ : ∃ n, k = n + 1 := ⟨k - 1, by omega⟩
  rw [et_cellN, pk_shrN (by omega) ((3 : Int32) &&& 31) 3 (by decide)]
  exact vp_in_nI (by omega) (by omega)
set_option maxHeartbeats 4000000 in
set_option maxRecDepth 100000 in
theorem c_X5_cell (l : Launch) (g : et_G) (kd : Int32) (who : Int32) (ww : Int32) (wm : Int32) (wb : Int32)  : Met l yX5_cell (Cond.code yX5_cell cX5_cell 5 (some (.int)) :: W0) ({ frames := 0, cells := 0, slots := 0, locals := 0 } : Room) (et_Pc g ([]) [.int kd, .int who, .int ww, .int wm, .int wb]) (et_QP (some (.int ((mX5_cell kd who ww wm wb))))) 0 0 et_no := by
  refine et_startP (by decide) rfl (Nat.le_of_ble_eq_true rfl) ?_
  intro p e s m args below meth c hx hb hr hts0 hown hlocks hml hP hC ls hl
  have hts : ∀ w ∈ W0, w.before args s = true := fun w h => hts0 w (List.mem_cons_of_mem _ h)
  have hown : s.vm.findClass RX5 = some m.cls := hown
  have hl : lv_has ls 5 [(0, .int kd), (1, .int who), (2, .int ww), (3, .int wm), (4, .int wb)] := hl
  refine lv_iconst (v := (2 : Int32)) hx hb dX5_cell_0 (by decide) ?_
  refine lv_iload_n hx hb dX5_cell_1 rfl (lv_at hl 0 rfl) ?_
  refine lv_iconst (v := (1 : Int32)) hx hb dX5_cell_2 (by decide) ?_
  refine lv_isub hx hb dX5_cell_3 ?_
  refine lv_imul hx hb dX5_cell_4 ?_
  refine lv_iload_n hx hb dX5_cell_5 rfl (lv_at hl 1 rfl) ?_
  refine lv_iadd hx hb dX5_cell_6 ?_
  refine lv_ldc hx hb hown (hts _ w_844) dX5_cell_7 ?_
  refine lv_imul hx hb dX5_cell_9 ?_
  refine lv_iload_n hx hb dX5_cell_10 rfl (lv_at hl 2 rfl) ?_
  refine lv_bipush (v := (64 : Int32)) hx hb dX5_cell_11 (by decide) ?_
  refine lv_imul hx hb dX5_cell_13 ?_
  refine lv_iload_n hx hb dX5_cell_14 rfl (lv_at hl 3 rfl) ?_
  refine lv_iadd hx hb dX5_cell_15 ?_
  refine lv_bipush (v := (64 : Int32)) hx hb dX5_cell_16 (by decide) ?_
  refine lv_imul hx hb dX5_cell_18 ?_
  refine lv_iadd hx hb dX5_cell_19 ?_
  refine lv_iload hx hb dX5_cell_20 (lv_at hl 4 rfl) ?_
  refine lv_iadd hx hb dX5_cell_22 ?_
  have hfin : (((((2 : Int32) * (kd - (1 : Int32))) + who) * (262144 : Int32)) + (((ww * (64 : Int32)) + wm) * (64 : Int32))) + wb = (mX5_cell kd who ww wm wb) := (by rw [mX5_cell])
  exact et_iret hx hb hr hlocks dX5_cell_23 (hfin)

def mX5_known (tb : Nat → Int64) (kd : Int32) (who : Int32) (ww : Int32) (wm : Int32) (wb : Int32) : Int32 :=
  ((((tb ((mX5_cell kd who ww wm wb) >>> ((3 : Int32) &&& 31)).toNatClampNeg) >>> (((8 : Int32) * ((mX5_cell kd who ww wm wb) &&& (7 : Int32))).toInt64 &&& 63)) &&& (255 : Int64)).toInt32) - (1 : Int32)
set_option maxHeartbeats 4000000 in
set_option maxRecDepth 100000 in
theorem c_X5_known (l : Launch) (g : et_G) (md : Nat) (r1 : Nat) (r2 : Nat) (r3 : Nat) (r4 : Nat) (mF : Int32) (mR : Int32) (th : Int32) (tb : Nat → Int64) (bu : Nat → Int32) (gr : Nat → Int32) (mt : Bool) (mk : Int32) (mw : Int32) (mm : Int32) (mb : Int32) (ms : Int32) (ml : Nat → Int32) (my : Int32) (kd : Int32) (who : Int32) (ww : Int32) (wm : Int32) (wb : Int32) (hkd : et_kd kd) (hwho : et_sd who) (hww : et_r64 ww) (hwm : et_r64 wm) (hwb : et_r64 wb) : Met l yX5_known (Cond.code yX5_known cX5_known 7 (some (.int)) :: W0) ({ frames := 1, cells := 0, slots := 0, locals := 24 } : Room) (et_Pc g ([(md, .inr (5, [.int th, .int mF, .int mR, .ref r1, .ref r2, .ref r3, .int (zI mt), .int mk, .int mw, .int mm, .int mb, .int ms, .ref r4, .int my])), (r1, .inl (gJ g, 327680, .inr (.inl tb))), (r2, .inl (gZ g, 6, .inl bu)), (r3, .inl (gI g, 6, .inl gr)), (r4, .inl (gI g, 64, .inl ml))]) [.ref md, .int kd, .int who, .int ww, .int wm, .int wb]) (et_QP (some (.int ((mX5_known tb kd who ww wm wb))))) 0 0 et_no := by
  refine et_startP (by decide) rfl (Nat.le_of_ble_eq_true rfl) ?_
  intro p e s m args below meth c hx hb hr hts0 hown hlocks hml hP hC ls hl
  have hts : ∀ w ∈ W0, w.before args s = true := fun w h => hts0 w (List.mem_cons_of_mem _ h)
  have hown : s.vm.findClass RX5 = some m.cls := hown
  have hl : lv_has ls 7 [(0, .ref md), (1, .int kd), (2, .int who), (3, .int ww), (4, .int wm), (5, .int wb)] := hl
  refine lv_iload_n hx hb dX5_known_0 rfl (lv_at hl 1 rfl) ?_
  refine lv_iload_n hx hb dX5_known_1 rfl (lv_at hl 2 rfl) ?_
  refine lv_iload_n hx hb dX5_known_2 rfl (lv_at hl 3 rfl) ?_
  refine lv_iload hx hb dX5_known_3 (lv_at hl 4 rfl) ?_
  refine lv_iload hx hb dX5_known_5 (lv_at hl 5 rfl) ?_
  refine et_callP1 (v := .int (mX5_cell kd who ww wm wb)) (va_runS (As := [.int kd, .int who, .int ww, .int wm, .int wb]) (rest := []) ⟨hx, hb, hml, hown, hts⟩ (c_X5_cell l g kd who ww wm wb) (va_cwS 5 hts (W0_gS w_841 w_842 w_82 w_843) rfl rfl rfl (by decide +kernel) ⟨Nat.le_of_ble_eq_true rfl, Nat.le_of_ble_eq_true rfl⟩) (et_preS hP hC [] rfl) rfl rfl hl.1 rfl (lv_room (Nat.le_of_ble_eq_true rfl)) dX5_known_7 ⟨Nat.le_of_ble_eq_true rfl, Nat.le_of_ble_eq_true rfl⟩) ?_
  refine lv_istore (lv' := [(6, .int (mX5_cell kd who ww wm wb)), (0, .ref md), (1, .int kd), (2, .int who), (3, .int ww), (4, .int wm), (5, .int wb)]) hx hb dX5_known_10 hl (by decide) rfl (fun ls hl => ?_)
  refine lv_aload_n hx hb dX5_known_12 rfl (lv_at hl 1 rfl) ?_
  refine va_get (D := gD g) (ci := 5) (v := .ref r1) (C := RX5) (T := TX5) (N := 14) hx hb hts inW_X5 hown hC.1 hP 0 rfl rfl 3 (by decide) (hts _ w_736) (fun _ h9 => h9) rfl dX5_known_13 ?_
  refine lv_iload hx hb dX5_known_16 (lv_at hl 0 rfl) ?_
  refine lv_iconst (v := (3 : Int32)) hx hb dX5_known_18 (by decide) ?_
  refine lv_ishr hx hb dX5_known_19 ?_
  refine va_lald (D := gD g) hx hb hC.1 hP 1 1 rfl rfl (et_cell_in hkd hwho hww hwm hwb) dX5_known_20 ?_
  refine lv_bipush (v := (8 : Int32)) hx hb dX5_known_21 (by decide) ?_
  refine lv_iload hx hb dX5_known_23 (lv_at hl 0 rfl) ?_
  refine lv_bipush (v := (7 : Int32)) hx hb dX5_known_25 (by decide) ?_
  refine lv_iand hx hb dX5_known_27 ?_
  refine lv_imul hx hb dX5_known_28 ?_
  refine lv_lshr (v := (tb ((mX5_cell kd who ww wm wb) >>> ((3 : Int32) &&& 31)).toNatClampNeg) >>> (((8 : Int32) * ((mX5_cell kd who ww wm wb) &&& (7 : Int32))).toInt64 &&& 63)) hx hb dX5_known_29 rfl ?_
  refine lv_ldc2 hx hb hown (hts _ w_845) dX5_known_30 ?_
  refine lv_land hx hb dX5_known_33 ?_
  refine lv_l2i (v := (((tb ((mX5_cell kd who ww wm wb) >>> ((3 : Int32) &&& 31)).toNatClampNeg) >>> (((8 : Int32) * ((mX5_cell kd who ww wm wb) &&& (7 : Int32))).toInt64 &&& 63)) &&& (255 : Int64)).toInt32) hx hb dX5_known_34 rfl ?_
  refine lv_iconst (v := (1 : Int32)) hx hb dX5_known_35 (by decide) ?_
  refine lv_isub hx hb dX5_known_36 ?_
  have hfin : ((((tb ((mX5_cell kd who ww wm wb) >>> ((3 : Int32) &&& 31)).toNatClampNeg) >>> (((8 : Int32) * ((mX5_cell kd who ww wm wb) &&& (7 : Int32))).toInt64 &&& 63)) &&& (255 : Int64)).toInt32) - (1 : Int32) = (mX5_known tb kd who ww wm wb) := (by rw [mX5_known])
  exact et_iret hx hb hr hlocks dX5_known_37 (hfin)

def mX5_note (tb : Nat → Int64) (kd : Int32) (who : Int32) (ww : Int32) (wm : Int32) (wb : Int32) (dd : Int32) : (Nat → Int64) :=
  vp_updL tb ((mX5_cell kd who ww wm wb) >>> ((3 : Int32) &&& 31)).toNatClampNeg ((tb ((mX5_cell kd who ww wm wb) >>> ((3 : Int32) &&& 31)).toNatClampNeg) ||| (((dd + (1 : Int32)).toInt64) <<< (((8 : Int32) * ((mX5_cell kd who ww wm wb) &&& (7 : Int32))).toInt64 &&& 63)))
set_option maxHeartbeats 4000000 in
set_option maxRecDepth 100000 in
theorem c_X5_note (l : Launch) (g : et_G) (md : Nat) (r1 : Nat) (r2 : Nat) (r3 : Nat) (r4 : Nat) (mF : Int32) (mR : Int32) (th : Int32) (tb : Nat → Int64) (bu : Nat → Int32) (gr : Nat → Int32) (mt : Bool) (mk : Int32) (mw : Int32) (mm : Int32) (mb : Int32) (ms : Int32) (ml : Nat → Int32) (my : Int32) (kd : Int32) (who : Int32) (ww : Int32) (wm : Int32) (wb : Int32) (dd : Int32) (hkd : et_kd kd) (hwho : et_sd who) (hww : et_r64 ww) (hwm : et_r64 wm) (hwb : et_r64 wb) : Met l yX5_note (Cond.code yX5_note cX5_note 8 none :: W0) ({ frames := 1, cells := 0, slots := 0, locals := 24 } : Room) (et_PcW g ([(md, .inr (5, [.int th, .int mF, .int mR, .ref r1, .ref r2, .ref r3, .int (zI mt), .int mk, .int mw, .int mm, .int mb, .int ms, .ref r4, .int my])), (r1, .inl (gJ g, 327680, .inr (.inl tb))), (r2, .inl (gZ g, 6, .inl bu)), (r3, .inl (gI g, 6, .inl gr)), (r4, .inl (gI g, 64, .inl ml))]) [.ref md, .int kd, .int who, .int ww, .int wm, .int wb, .int dd]) (et_QW g ([(md, .inr (5, [.int th, .int mF, .int mR, .ref r1, .ref r2, .ref r3, .int (zI mt), .int mk, .int mw, .int mm, .int mb, .int ms, .ref r4, .int my])), (r1, .inl (gJ g, 327680, .inr (.inl tb))), (r2, .inl (gZ g, 6, .inl bu)), (r3, .inl (gI g, 6, .inl gr)), (r4, .inl (gI g, 64, .inl ml))]) ([(md, .inr (5, [.int th, .int mF, .int mR, .ref r1, .ref r2, .ref r3, .int (zI mt), .int mk, .int mw, .int mm, .int mb, .int ms, .ref r4, .int my])), (r1, .inl (gJ g, 327680, .inr (.inl ((mX5_note tb kd who ww wm wb dd))))), (r2, .inl (gZ g, 6, .inl bu)), (r3, .inl (gI g, 6, .inl gr)), (r4, .inl (gI g, 64, .inl ml))]) none) 0 0 (et_ad ([(md, .inr (5, [.int th, .int mF, .int mR, .ref r1, .ref r2, .ref r3, .int (zI mt), .int mk, .int mw, .int mm, .int mb, .int ms, .ref r4, .int my])), (r1, .inl (gJ g, 327680, .inr (.inl tb))), (r2, .inl (gZ g, 6, .inl bu)), (r3, .inl (gI g, 6, .inl gr)), (r4, .inl (gI g, 64, .inl ml))])) := by
  refine et_startW (by decide) rfl (Nat.le_of_ble_eq_true rfl) ?_
  intro p e s m args below meth c hx hb hr hts0 hown hlocks hml hP hC hD hS ls hl
  have hts : ∀ w ∈ W0, w.before args s = true := fun w h => hts0 w (List.mem_cons_of_mem _ h)
  have hown : s.vm.findClass RX5 = some m.cls := hown
  have hl : lv_has ls 8 [(0, .ref md), (1, .int kd), (2, .int who), (3, .int ww), (4, .int wm), (5, .int wb), (6, .int dd)] := hl
  refine lv_iload_n hx hb dX5_note_0 rfl (lv_at hl 1 rfl) ?_
  refine lv_iload_n hx hb dX5_note_1 rfl (lv_at hl 2 rfl) ?_
  refine lv_iload_n hx hb dX5_note_2 rfl (lv_at hl 3 rfl) ?_
  refine lv_iload hx hb dX5_note_3 (lv_at hl 4 rfl) ?_
  refine lv_iload hx hb dX5_note_5 (lv_at hl 5 rfl) ?_
  refine et_callP1 (v := .int (mX5_cell kd who ww wm wb)) (va_runS (As := [.int kd, .int who, .int ww, .int wm, .int wb]) (rest := []) ⟨hx, hb, hml, hown, hts⟩ (c_X5_cell l g kd who ww wm wb) (va_cwS 5 hts (W0_gS w_841 w_842 w_82 w_843) rfl rfl rfl (by decide +kernel) ⟨Nat.le_of_ble_eq_true rfl, Nat.le_of_ble_eq_true rfl⟩) (et_preS hP hC [] rfl) rfl rfl hl.1 rfl (lv_room (Nat.le_of_ble_eq_true rfl)) dX5_note_7 ⟨Nat.le_of_ble_eq_true rfl, Nat.le_of_ble_eq_true rfl⟩) ?_
  refine lv_istore (lv' := [(7, .int (mX5_cell kd who ww wm wb)), (0, .ref md), (1, .int kd), (2, .int who), (3, .int ww), (4, .int wm), (5, .int wb), (6, .int dd)]) hx hb dX5_note_10 hl (by decide) rfl (fun ls hl => ?_)
  refine lv_aload_n hx hb dX5_note_12 rfl (lv_at hl 1 rfl) ?_
  refine va_get (D := gD g) (ci := 5) (v := .ref r1) (C := RX5) (T := TX5) (N := 14) hx hb hts inW_X5 hown hC.1 hP 0 rfl rfl 3 (by decide) (hts _ w_736) (fun _ h9 => h9) rfl dX5_note_13 ?_
  refine lv_iload hx hb dX5_note_16 (lv_at hl 0 rfl) ?_
  refine lv_iconst (v := (3 : Int32)) hx hb dX5_note_18 (by decide) ?_
  refine lv_ishr hx hb dX5_note_19 ?_
  refine lv_aload_n hx hb dX5_note_20 rfl (lv_at hl 1 rfl) ?_
  refine va_get (D := gD g) (ci := 5) (v := .ref r1) (C := RX5) (T := TX5) (N := 14) hx hb hts inW_X5 hown hC.1 hP 0 rfl rfl 3 (by decide) (hts _ w_736) (fun _ h9 => h9) rfl dX5_note_21 ?_
  refine lv_iload hx hb dX5_note_24 (lv_at hl 0 rfl) ?_
  refine lv_iconst (v := (3 : Int32)) hx hb dX5_note_26 (by decide) ?_
  refine lv_ishr hx hb dX5_note_27 ?_
  refine va_lald (D := gD g) hx hb hC.1 hP 1 1 rfl rfl (et_cell_in hkd hwho hww hwm hwb) dX5_note_28 ?_
  refine lv_iload hx hb dX5_note_29 (lv_at hl 7 rfl) ?_
  refine lv_iconst (v := (1 : Int32)) hx hb dX5_note_31 (by decide) ?_
  refine lv_iadd hx hb dX5_note_32 ?_
  refine lv_i2l (v := (dd + (1 : Int32)).toInt64) hx hb dX5_note_33 rfl ?_
  refine lv_bipush (v := (8 : Int32)) hx hb dX5_note_34 (by decide) ?_
  refine lv_iload hx hb dX5_note_36 (lv_at hl 0 rfl) ?_
  refine lv_bipush (v := (7 : Int32)) hx hb dX5_note_38 (by decide) ?_
  refine lv_iand hx hb dX5_note_40 ?_
  refine lv_imul hx hb dX5_note_41 ?_
  refine lv_lshl (v := ((dd + (1 : Int32)).toInt64) <<< (((8 : Int32) * ((mX5_cell kd who ww wm wb) &&& (7 : Int32))).toInt64 &&& 63)) hx hb dX5_note_42 rfl ?_
  refine lv_lor hx hb dX5_note_43 ?_
  refine va_last (D := gD g) hx hb hC.1 hP hD hS 1 1 rfl rfl (et_cell_in hkd hwho hww hwm hwb) dX5_note_44 (fun H locs hP hD hS => ?_)
  have hP : va_P (gD g) vwCl ([(md, .inr (5, [.int th, .int mF, .int mR, .ref r1, .ref r2, .ref r3, .int (zI mt), .int mk, .int mw, .int mm, .int mb, .int ms, .ref r4, .int my])), (r1, .inl (gJ g, 327680, .inr (.inl (vp_updL tb ((mX5_cell kd who ww wm wb) >>> ((3 : Int32) &&& 31)).toNatClampNeg ((tb ((mX5_cell kd who ww wm wb) >>> ((3 : Int32) &&& 31)).toNatClampNeg) ||| (((dd + (1 : Int32)).toInt64) <<< (((8 : Int32) * ((mX5_cell kd who ww wm wb) &&& (7 : Int32))).toInt64 &&& 63))))))), (r2, .inl (gZ g, 6, .inl bu)), (r3, .inl (gI g, 6, .inl gr)), (r4, .inl (gI g, 64, .inl ml))]) H := hP
  have hD : va_D (et_ad ([(md, .inr (5, [.int th, .int mF, .int mR, .ref r1, .ref r2, .ref r3, .int (zI mt), .int mk, .int mw, .int mm, .int mb, .int ms, .ref r4, .int my])), (r1, .inl (gJ g, 327680, .inr (.inl tb))), (r2, .inl (gZ g, 6, .inl bu)), (r3, .inl (gI g, 6, .inl gr)), (r4, .inl (gI g, 64, .inl ml))])) ([(md, .inr (5, [.int th, .int mF, .int mR, .ref r1, .ref r2, .ref r3, .int (zI mt), .int mk, .int mw, .int mm, .int mb, .int ms, .ref r4, .int my])), (r1, .inl (gJ g, 327680, .inr (.inl (vp_updL tb ((mX5_cell kd who ww wm wb) >>> ((3 : Int32) &&& 31)).toNatClampNeg ((tb ((mX5_cell kd who ww wm wb) >>> ((3 : Int32) &&& 31)).toNatClampNeg) ||| (((dd + (1 : Int32)).toInt64) <<< (((8 : Int32) * ((mX5_cell kd who ww wm wb) &&& (7 : Int32))).toInt64 &&& 63))))))), (r2, .inl (gZ g, 6, .inl bu)), (r3, .inl (gI g, 6, .inl gr)), (r4, .inl (gI g, 64, .inl ml))]) := hD
  have hfin : vp_updL tb ((mX5_cell kd who ww wm wb) >>> ((3 : Int32) &&& 31)).toNatClampNeg ((tb ((mX5_cell kd who ww wm wb) >>> ((3 : Int32) &&& 31)).toNatClampNeg) ||| (((dd + (1 : Int32)).toInt64) <<< (((8 : Int32) * ((mX5_cell kd who ww wm wb) &&& (7 : Int32))).toInt64 &&& 63))) = (mX5_note tb kd who ww wm wb dd) := (by rw [mX5_note])
  exact et_vretW hx hb hr hlocks dX5_note_45 hP hS (by rw [← hfin])

def mX5_mayGo (mF : Int32) (mR : Int32) (kd : Int32) (ww : Int32) (wm : Int32) (to_ : Int32) : Bool :=
  if to_ < 0 then
    false
  else
    if (zI (mX5_isNext to_ ww)) = 0 then
      if to_ = ww then
        false
      else
        if kd ≤ 0 then
          if kd = 0 then
            true
          else
            if (zI (mX5_attacks mF mR kd wm to_ ww)) = 0 then
              true
            else
              false
        else
          if to_ = wm then
            true
          else
            if kd = 0 then
              true
            else
              if (zI (mX5_attacks mF mR kd wm to_ ww)) = 0 then
                true
              else
                false
    else
      false
theorem et_mayGo_ge {mF mR kd ww wm to_ : Int32} (h : ¬ zI (mX5_mayGo mF mR kd ww wm to_) = 0) : ¬ to_ < 0 := by
  intro h2
  apply h
  rw [mX5_mayGo, if_pos h2]
  rfl
set_option maxHeartbeats 4000000 in
set_option maxRecDepth 100000 in
theorem c_X5_mayGo (l : Launch) (g : et_G) (md : Nat) (r1 : Nat) (r2 : Nat) (r3 : Nat) (r4 : Nat) (mF : Int32) (mR : Int32) (th : Int32) (tb : Nat → Int64) (bu : Nat → Int32) (gr : Nat → Int32) (mt : Bool) (mk : Int32) (mw : Int32) (mm : Int32) (mb : Int32) (ms : Int32) (ml : Nat → Int32) (my : Int32) (kd : Int32) (ww : Int32) (wm : Int32) (to_ : Int32) (hF : et_b8 mF) (hR : et_b8 mR) : Met l yX5_mayGo (Cond.code yX5_mayGo cX5_mayGo 5 (some (.boolean)) :: W0) ({ frames := 2, cells := 0, slots := 0, locals := 55 } : Room) (et_Pc g ([(md, .inr (5, [.int th, .int mF, .int mR, .ref r1, .ref r2, .ref r3, .int (zI mt), .int mk, .int mw, .int mm, .int mb, .int ms, .ref r4, .int my])), (r1, .inl (gJ g, 327680, .inr (.inl tb))), (r2, .inl (gZ g, 6, .inl bu)), (r3, .inl (gI g, 6, .inl gr)), (r4, .inl (gI g, 64, .inl ml))]) [.ref md, .int kd, .int ww, .int wm, .int to_]) (et_QP (some (.int (zI ((mX5_mayGo mF mR kd ww wm to_)))))) 0 0 et_no := by
  refine et_startP (by decide) rfl (Nat.le_of_ble_eq_true rfl) ?_
  intro p e s m args below meth c hx hb hr hts0 hown hlocks hml hP hC ls hl
  have hts : ∀ w ∈ W0, w.before args s = true := fun w h => hts0 w (List.mem_cons_of_mem _ h)
  have hown : s.vm.findClass RX5 = some m.cls := hown
  have hl : lv_has ls 5 [(0, .ref md), (1, .int kd), (2, .int ww), (3, .int wm), (4, .int to_)] := hl
  refine lv_iload hx hb dX5_mayGo_0 (lv_at hl 4 rfl) ?_
  refine lv_if_lt (tgt := 51) hx hb dX5_mayGo_2 (by decide) (fun c_1 => ?_) (fun c_1 => ?_)
  ·
    refine lv_iconst (v := (0 : Int32)) hx hb dX5_mayGo_51 (by decide) ?_
    have hfin : false = (mX5_mayGo mF mR kd ww wm to_) := (by rw [mX5_mayGo, if_pos c_1])
    exact et_zret hx hb hr hlocks dX5_mayGo_52 (congrArg zI (hfin))
  ·
    refine lv_iload hx hb dX5_mayGo_5 (lv_at hl 4 rfl) ?_
    refine lv_iload_n hx hb dX5_mayGo_7 rfl (lv_at hl 2 rfl) ?_
    refine et_callP1 (v := .int (zI (mX5_isNext to_ ww))) (va_runS (As := [.int to_, .int ww]) (rest := []) ⟨hx, hb, hml, hown, hts⟩ (c_X5_isNext l g to_ ww) (va_cwS 2 hts (W0_gS w_800 w_801 w_82 w_802) rfl rfl rfl (by decide +kernel) ⟨Nat.le_of_ble_eq_true rfl, Nat.le_of_ble_eq_true rfl⟩) (et_preS hP hC [] rfl) rfl rfl hl.1 rfl (lv_room (Nat.le_of_ble_eq_true rfl)) dX5_mayGo_8 ⟨Nat.le_of_ble_eq_true rfl, Nat.le_of_ble_eq_true rfl⟩) ?_
    refine lv_if_ne (tgt := 51) hx hb dX5_mayGo_11 (by decide) (fun c_2 => ?_) (fun c_2 => ?_)
    ·
      refine lv_iconst (v := (0 : Int32)) hx hb dX5_mayGo_51 (by decide) ?_
      have hfin : false = (mX5_mayGo mF mR kd ww wm to_) := (by rw [mX5_mayGo, if_neg c_1, if_neg c_2])
      exact et_zret hx hb hr hlocks dX5_mayGo_52 (congrArg zI (hfin))
    ·
      refine lv_iload hx hb dX5_mayGo_14 (lv_at hl 4 rfl) ?_
      refine lv_iload_n hx hb dX5_mayGo_16 rfl (lv_at hl 2 rfl) ?_
      refine lv_icmp_eq (tgt := 51) hx hb dX5_mayGo_17 (by decide) (fun c_3 => ?_) (fun c_3 => ?_)
      ·
        refine lv_iconst (v := (0 : Int32)) hx hb dX5_mayGo_51 (by decide) ?_
        have hfin : false = (mX5_mayGo mF mR kd ww wm to_) := (by rw [mX5_mayGo, if_neg c_1, if_pos c_2, if_pos c_3])
        exact et_zret hx hb hr hlocks dX5_mayGo_52 (congrArg zI (hfin))
      ·
        refine lv_iload_n hx hb dX5_mayGo_20 rfl (lv_at hl 1 rfl) ?_
        refine lv_if_le (tgt := 30) hx hb dX5_mayGo_21 (by decide) (fun c_4 => ?_) (fun c_4 => ?_)
        ·
          refine lv_iload_n hx hb dX5_mayGo_30 rfl (lv_at hl 1 rfl) ?_
          refine lv_if_eq (tgt := 47) hx hb dX5_mayGo_31 (by decide) (fun c_5 => ?_) (fun c_5 => ?_)
          ·
            refine lv_iconst (v := (1 : Int32)) hx hb dX5_mayGo_47 (by decide) ?_
            refine lv_goto (tgt := 52) hx hb dX5_mayGo_48 (by decide) ?_
            have hfin : true = (mX5_mayGo mF mR kd ww wm to_) := (by rw [mX5_mayGo, if_neg c_1, if_pos c_2, if_neg c_3, if_pos c_4, if_pos c_5])
            exact et_zret hx hb hr hlocks dX5_mayGo_52 (congrArg zI (hfin))
          ·
            refine lv_aload_n hx hb dX5_mayGo_34 rfl (lv_at hl 0 rfl) ?_
            refine lv_iload_n hx hb dX5_mayGo_35 rfl (lv_at hl 1 rfl) ?_
            refine lv_iload_n hx hb dX5_mayGo_36 rfl (lv_at hl 3 rfl) ?_
            refine lv_iload hx hb dX5_mayGo_37 (lv_at hl 4 rfl) ?_
            refine lv_iload_n hx hb dX5_mayGo_39 rfl (lv_at hl 2 rfl) ?_
            refine lv_iconst (v := (-1 : Int32)) hx hb dX5_mayGo_40 (by decide) ?_
            refine et_callP1 (v := .int (zI (mX5_attacks mF mR kd wm to_ ww))) (va_runV (As := [.int kd, .int wm, .int to_, .int ww, .int (-1 : Int32)]) (rest := []) ⟨hx, hb, hml, hown, hts⟩ (c_X5_attacks l g md r1 r2 r3 r4 mF mR th tb bu gr mt mk mw mm mb ms ml my kd wm to_ ww (by assumption) (by assumption)) (cwV 5 hts (W0_gV w_806 w_808 w_53 w_82 w_809) rfl rfl rfl (by decide +kernel) ⟨Nat.le_of_ble_eq_true rfl, Nat.le_of_ble_eq_true rfl⟩) (et_preV hP hC [0, 1, 2, 3, 4] rfl (ci := 5) (q0 := 0) rfl rfl) rfl rfl hl.1 rfl (lv_room (Nat.le_of_ble_eq_true rfl)) dX5_mayGo_41 ⟨Nat.le_of_ble_eq_true rfl, Nat.le_of_ble_eq_true rfl⟩) ?_
            refine lv_if_ne (tgt := 51) hx hb dX5_mayGo_44 (by decide) (fun c_6 => ?_) (fun c_6 => ?_)
            ·
              refine lv_iconst (v := (0 : Int32)) hx hb dX5_mayGo_51 (by decide) ?_
              have hfin : false = (mX5_mayGo mF mR kd ww wm to_) := (by rw [mX5_mayGo, if_neg c_1, if_pos c_2, if_neg c_3, if_pos c_4, if_neg c_5, if_neg c_6])
              exact et_zret hx hb hr hlocks dX5_mayGo_52 (congrArg zI (hfin))
            ·
              refine lv_iconst (v := (1 : Int32)) hx hb dX5_mayGo_47 (by decide) ?_
              refine lv_goto (tgt := 52) hx hb dX5_mayGo_48 (by decide) ?_
              have hfin : true = (mX5_mayGo mF mR kd ww wm to_) := (by rw [mX5_mayGo, if_neg c_1, if_pos c_2, if_neg c_3, if_pos c_4, if_neg c_5, if_pos c_6])
              exact et_zret hx hb hr hlocks dX5_mayGo_52 (congrArg zI (hfin))
        ·
          refine lv_iload hx hb dX5_mayGo_24 (lv_at hl 4 rfl) ?_
          refine lv_iload_n hx hb dX5_mayGo_26 rfl (lv_at hl 3 rfl) ?_
          refine lv_icmp_eq (tgt := 47) hx hb dX5_mayGo_27 (by decide) (fun c_7 => ?_) (fun c_7 => ?_)
          ·
            refine lv_iconst (v := (1 : Int32)) hx hb dX5_mayGo_47 (by decide) ?_
            refine lv_goto (tgt := 52) hx hb dX5_mayGo_48 (by decide) ?_
            have hfin : true = (mX5_mayGo mF mR kd ww wm to_) := (by rw [mX5_mayGo, if_neg c_1, if_pos c_2, if_neg c_3, if_neg c_4, if_pos c_7])
            exact et_zret hx hb hr hlocks dX5_mayGo_52 (congrArg zI (hfin))
          ·
            refine lv_iload_n hx hb dX5_mayGo_30 rfl (lv_at hl 1 rfl) ?_
            refine lv_if_eq (tgt := 47) hx hb dX5_mayGo_31 (by decide) (fun c_8 => ?_) (fun c_8 => ?_)
            ·
              refine lv_iconst (v := (1 : Int32)) hx hb dX5_mayGo_47 (by decide) ?_
              refine lv_goto (tgt := 52) hx hb dX5_mayGo_48 (by decide) ?_
              have hfin : true = (mX5_mayGo mF mR kd ww wm to_) := (by rw [mX5_mayGo, if_neg c_1, if_pos c_2, if_neg c_3, if_neg c_4, if_neg c_7, if_pos c_8])
              exact et_zret hx hb hr hlocks dX5_mayGo_52 (congrArg zI (hfin))
            ·
              refine lv_aload_n hx hb dX5_mayGo_34 rfl (lv_at hl 0 rfl) ?_
              refine lv_iload_n hx hb dX5_mayGo_35 rfl (lv_at hl 1 rfl) ?_
              refine lv_iload_n hx hb dX5_mayGo_36 rfl (lv_at hl 3 rfl) ?_
              refine lv_iload hx hb dX5_mayGo_37 (lv_at hl 4 rfl) ?_
              refine lv_iload_n hx hb dX5_mayGo_39 rfl (lv_at hl 2 rfl) ?_
              refine lv_iconst (v := (-1 : Int32)) hx hb dX5_mayGo_40 (by decide) ?_
              refine et_callP1 (v := .int (zI (mX5_attacks mF mR kd wm to_ ww))) (va_runV (As := [.int kd, .int wm, .int to_, .int ww, .int (-1 : Int32)]) (rest := []) ⟨hx, hb, hml, hown, hts⟩ (c_X5_attacks l g md r1 r2 r3 r4 mF mR th tb bu gr mt mk mw mm mb ms ml my kd wm to_ ww (by assumption) (by assumption)) (cwV 5 hts (W0_gV w_806 w_808 w_53 w_82 w_809) rfl rfl rfl (by decide +kernel) ⟨Nat.le_of_ble_eq_true rfl, Nat.le_of_ble_eq_true rfl⟩) (et_preV hP hC [0, 1, 2, 3, 4] rfl (ci := 5) (q0 := 0) rfl rfl) rfl rfl hl.1 rfl (lv_room (Nat.le_of_ble_eq_true rfl)) dX5_mayGo_41 ⟨Nat.le_of_ble_eq_true rfl, Nat.le_of_ble_eq_true rfl⟩) ?_
              refine lv_if_ne (tgt := 51) hx hb dX5_mayGo_44 (by decide) (fun c_9 => ?_) (fun c_9 => ?_)
              ·
                refine lv_iconst (v := (0 : Int32)) hx hb dX5_mayGo_51 (by decide) ?_
                have hfin : false = (mX5_mayGo mF mR kd ww wm to_) := (by rw [mX5_mayGo, if_neg c_1, if_pos c_2, if_neg c_3, if_neg c_4, if_neg c_7, if_neg c_8, if_neg c_9])
                exact et_zret hx hb hr hlocks dX5_mayGo_52 (congrArg zI (hfin))
              ·
                refine lv_iconst (v := (1 : Int32)) hx hb dX5_mayGo_47 (by decide) ?_
                refine lv_goto (tgt := 52) hx hb dX5_mayGo_48 (by decide) ?_
                have hfin : true = (mX5_mayGo mF mR kd ww wm to_) := (by rw [mX5_mayGo, if_neg c_1, if_pos c_2, if_neg c_3, if_neg c_4, if_neg c_7, if_neg c_8, if_pos c_9])
                exact et_zret hx hb hr hlocks dX5_mayGo_52 (congrArg zI (hfin))

def mX5_isLost_V1 (mF : Int32) (mR : Int32) (wb : Int32) (i2 : Nat) (i1 : Nat) : Int32 :=
  if (nI i1 - 1) = 0 then
    if (nI i2 - 1) = 0 then
      (-1 : Int32)
    else
      (mX5_step mF mR wb (nI i1 - 1) (nI i2 - 1))
  else
    (mX5_step mF mR wb (nI i1 - 1) (nI i2 - 1))
def mX5_isLost_V2 (mF : Int32) (mR : Int32) (tb : Nat → Int64) (kd : Int32) (ww : Int32) (wm : Int32) (wb : Int32) (i2 : Nat) (all2 : Bool) (i1 : Nat) : Bool :=
  if (zI all2) = 0 then
    false
  else
    if (mX5_isLost_V1 mF mR wb i2 i1) = wm then
      false
    else
      if (mX5_known tb kd (0 : Int32) ww wm (mX5_isLost_V1 mF mR wb i2 i1)) < 0 then
        false
      else
        true
def mX5_isLost_L2 (mF : Int32) (mR : Int32) (tb : Nat → Int64) (kd : Int32) (ww : Int32) (wm : Int32) (wb : Int32) (i1 : Nat) : Nat → Nat → Int32 → Bool → Int32 × Bool
  | 0, i2, moves2, all2 =>
    (moves2, all2)
  | k2 + 1, i2, moves2, all2 =>
    if (zI (mX5_mayGo mF mR kd ww wm (mX5_isLost_V1 mF mR wb i2 i1))) = 0 then
      mX5_isLost_L2 mF mR tb kd ww wm wb i1 k2 (i2 + 1) moves2 all2
    else
      mX5_isLost_L2 mF mR tb kd ww wm wb i1 k2 (i2 + 1) (moves2 + (1 : Int32)) (mX5_isLost_V2 mF mR tb kd ww wm wb i2 all2 i1)
def mX5_isLost_L1 (mF : Int32) (mR : Int32) (tb : Nat → Int64) (kd : Int32) (ww : Int32) (wm : Int32) (wb : Int32) : Nat → Nat → Int32 → Bool → Int32 × Bool
  | 0, i1, moves1, all1 =>
    (moves1, all1)
  | k1 + 1, i1, moves1, all1 =>
    mX5_isLost_L1 mF mR tb kd ww wm wb k1 (i1 + 1) ((mX5_isLost_L2 mF mR tb kd ww wm wb i1 3 0 moves1 all1).1) ((mX5_isLost_L2 mF mR tb kd ww wm wb i1 3 0 moves1 all1).2)
def mX5_isLost (mF : Int32) (mR : Int32) (tb : Nat → Int64) (kd : Int32) (ww : Int32) (wm : Int32) (wb : Int32) (mate : Bool) : Bool :=
  if (zI mate) = 0 then
    if ((mX5_isLost_L1 mF mR tb kd ww wm wb 3 0 (0 : Int32) true).1) ≤ 0 then
      false
    else
      if (zI ((mX5_isLost_L1 mF mR tb kd ww wm wb 3 0 (0 : Int32) true).2)) = 0 then
        false
      else
        true
  else
    if ((mX5_isLost_L1 mF mR tb kd ww wm wb 3 0 (0 : Int32) true).1) = 0 then
      if (zI (mX5_attacks mF mR kd wm wb ww)) = 0 then
        false
      else
        true
    else
      false
theorem et_lostV {mF mR wb : Int32} {i1 i2 : Nat} (hF : et_b8 mF) (hR : et_b8 mR) : mX5_isLost_V1 mF mR wb i1 i2 = (-1 : Int32) ∨ et_r64 (mX5_isLost_V1 mF mR wb i1 i2) := by
  unfold mX5_isLost_V1
  split
  · split
    · exact Or.inl rfl
    · exact et_step_r hF hR
  · exact et_step_r hF hR
set_option maxHeartbeats 4000000 in
set_option maxRecDepth 100000 in
theorem c_X5_isLost (l : Launch) (g : et_G) (md : Nat) (r1 : Nat) (r2 : Nat) (r3 : Nat) (r4 : Nat) (mF : Int32) (mR : Int32) (th : Int32) (tb : Nat → Int64) (bu : Nat → Int32) (gr : Nat → Int32) (mt : Bool) (mk : Int32) (mw : Int32) (mm : Int32) (mb : Int32) (ms : Int32) (ml : Nat → Int32) (my : Int32) (kd : Int32) (ww : Int32) (wm : Int32) (wb : Int32) (mate : Bool) (hF : et_b8 mF) (hR : et_b8 mR) (hkd : et_kd kd) (hww : et_r64 ww) (hwm : et_r64 wm) : Met l yX5_isLost (Cond.code yX5_isLost cX5_isLost 11 (some (.boolean)) :: W0) ({ frames := 3, cells := 0, slots := 0, locals := 79 } : Room) (et_Pc g ([(md, .inr (5, [.int th, .int mF, .int mR, .ref r1, .ref r2, .ref r3, .int (zI mt), .int mk, .int mw, .int mm, .int mb, .int ms, .ref r4, .int my])), (r1, .inl (gJ g, 327680, .inr (.inl tb))), (r2, .inl (gZ g, 6, .inl bu)), (r3, .inl (gI g, 6, .inl gr)), (r4, .inl (gI g, 64, .inl ml))]) [.ref md, .int kd, .int ww, .int wm, .int wb, .int (zI mate)]) (et_QP (some (.int (zI ((mX5_isLost mF mR tb kd ww wm wb mate)))))) 0 0 et_no := by
  refine et_startP (by decide) rfl (Nat.le_of_ble_eq_true rfl) ?_
  intro p e s m args below meth c hx hb hr hts0 hown hlocks hml hP hC ls hl
  have hts : ∀ w ∈ W0, w.before args s = true := fun w h => hts0 w (List.mem_cons_of_mem _ h)
  have hown : s.vm.findClass RX5 = some m.cls := hown
  have hl : lv_has ls 11 [(0, .ref md), (1, .int kd), (2, .int ww), (3, .int wm), (4, .int wb), (5, .int (zI mate))] := hl
  refine lv_iconst (v := (0 : Int32)) hx hb dX5_isLost_0 (by decide) ?_
  refine lv_istore (lv' := [(6, .int (0 : Int32)), (0, .ref md), (1, .int kd), (2, .int ww), (3, .int wm), (4, .int wb), (5, .int (zI mate))]) hx hb dX5_isLost_1 hl (by decide) rfl (fun ls hl => ?_)
  refine lv_iconst (v := (1 : Int32)) hx hb dX5_isLost_3 (by decide) ?_
  refine lv_istore (lv' := [(7, .int (1 : Int32)), (6, .int (0 : Int32)), (0, .ref md), (1, .int kd), (2, .int ww), (3, .int wm), (4, .int wb), (5, .int (zI mate))]) hx hb dX5_isLost_4 hl (by decide) rfl (fun ls hl => ?_)
  refine lv_iconst (v := (-1 : Int32)) hx hb dX5_isLost_6 (by decide) ?_
  refine lv_istore (lv' := [(8, .int (-1 : Int32)), (7, .int (1 : Int32)), (6, .int (0 : Int32)), (0, .ref md), (1, .int kd), (2, .int ww), (3, .int wm), (4, .int wb), (5, .int (zI mate))]) hx hb dX5_isLost_7 hl (by decide) rfl (fun ls hl => ?_)
  have hx1 : ∀ ls : Array Slot, lv_has ls 11 [(6, .int ((mX5_isLost_L1 mF mR tb kd ww wm wb 3 0 (0 : Int32) true).1)), (7, .int (zI ((mX5_isLost_L1 mF mR tb kd ww wm wb 3 0 (0 : Int32) true).2))), (0, .ref md), (1, .int kd), (2, .int ww), (3, .int wm), (4, .int wb), (5, .int (zI mate))] → W p l e ({ frames := 3, cells := 0, slots := 0, locals := 79 } : Room) s m args below meth c s.heap [] 0 0 (MQ below (et_QP (some (.int (zI ((mX5_isLost mF mR tb kd ww wm wb mate)))))) args s 0 0 et_no) (F0 m 108 ls []) := by
    intro ls hl
    refine lv_iload hx hb dX5_isLost_108 (lv_at hl 7 rfl) ?_
    refine lv_if_eq (tgt := 139) hx hb dX5_isLost_110 (by decide) (fun c_1 => ?_) (fun c_1 => ?_)
    ·
      refine lv_iload hx hb dX5_isLost_139 (lv_at hl 0 rfl) ?_
      refine lv_if_le (tgt := 153) hx hb dX5_isLost_141 (by decide) (fun c_2 => ?_) (fun c_2 => ?_)
      ·
        refine lv_iconst (v := (0 : Int32)) hx hb dX5_isLost_153 (by decide) ?_
        have hfin : false = (mX5_isLost mF mR tb kd ww wm wb mate) := (by rw [mX5_isLost, if_pos c_1, if_pos c_2])
        exact et_zret hx hb hr hlocks dX5_isLost_154 (congrArg zI (hfin))
      ·
        refine lv_iload hx hb dX5_isLost_144 (lv_at hl 1 rfl) ?_
        refine lv_if_eq (tgt := 153) hx hb dX5_isLost_146 (by decide) (fun c_3 => ?_) (fun c_3 => ?_)
        ·
          refine lv_iconst (v := (0 : Int32)) hx hb dX5_isLost_153 (by decide) ?_
          have hfin : false = (mX5_isLost mF mR tb kd ww wm wb mate) := (by rw [mX5_isLost, if_pos c_1, if_neg c_2, if_pos c_3])
          exact et_zret hx hb hr hlocks dX5_isLost_154 (congrArg zI (hfin))
        ·
          refine lv_iconst (v := (1 : Int32)) hx hb dX5_isLost_149 (by decide) ?_
          refine lv_goto (tgt := 154) hx hb dX5_isLost_150 (by decide) ?_
          have hfin : true = (mX5_isLost mF mR tb kd ww wm wb mate) := (by rw [mX5_isLost, if_pos c_1, if_neg c_2, if_neg c_3])
          exact et_zret hx hb hr hlocks dX5_isLost_154 (congrArg zI (hfin))
    ·
      refine lv_iload hx hb dX5_isLost_113 (lv_at hl 0 rfl) ?_
      refine lv_if_ne (tgt := 135) hx hb dX5_isLost_115 (by decide) (fun c_4 => ?_) (fun c_4 => ?_)
      ·
        refine lv_iconst (v := (0 : Int32)) hx hb dX5_isLost_135 (by decide) ?_
        refine lv_goto (tgt := 154) hx hb dX5_isLost_136 (by decide) ?_
        have hfin : false = (mX5_isLost mF mR tb kd ww wm wb mate) := (by rw [mX5_isLost, if_neg c_1, if_neg c_4])
        exact et_zret hx hb hr hlocks dX5_isLost_154 (congrArg zI (hfin))
      ·
        refine lv_aload_n hx hb dX5_isLost_118 rfl (lv_at hl 2 rfl) ?_
        refine lv_iload_n hx hb dX5_isLost_119 rfl (lv_at hl 3 rfl) ?_
        refine lv_iload_n hx hb dX5_isLost_120 rfl (lv_at hl 5 rfl) ?_
        refine lv_iload hx hb dX5_isLost_121 (lv_at hl 6 rfl) ?_
        refine lv_iload_n hx hb dX5_isLost_123 rfl (lv_at hl 4 rfl) ?_
        refine lv_iconst (v := (-1 : Int32)) hx hb dX5_isLost_124 (by decide) ?_
        refine et_callP1 (v := .int (zI (mX5_attacks mF mR kd wm wb ww))) (va_runV (As := [.int kd, .int wm, .int wb, .int ww, .int (-1 : Int32)]) (rest := []) ⟨hx, hb, hml, hown, hts⟩ (c_X5_attacks l g md r1 r2 r3 r4 mF mR th tb bu gr mt mk mw mm mb ms ml my kd wm wb ww (by assumption) (by assumption)) (cwV 5 hts (W0_gV w_806 w_808 w_53 w_82 w_809) rfl rfl rfl (by decide +kernel) ⟨Nat.le_of_ble_eq_true rfl, Nat.le_of_ble_eq_true rfl⟩) (et_preV hP hC [0, 1, 2, 3, 4] rfl (ci := 5) (q0 := 0) rfl rfl) rfl rfl hl.1 rfl (lv_room (Nat.le_of_ble_eq_true rfl)) dX5_isLost_125 ⟨Nat.le_of_ble_eq_true rfl, Nat.le_of_ble_eq_true rfl⟩) ?_
        refine lv_if_eq (tgt := 135) hx hb dX5_isLost_128 (by decide) (fun c_5 => ?_) (fun c_5 => ?_)
        ·
          refine lv_iconst (v := (0 : Int32)) hx hb dX5_isLost_135 (by decide) ?_
          refine lv_goto (tgt := 154) hx hb dX5_isLost_136 (by decide) ?_
          have hfin : false = (mX5_isLost mF mR tb kd ww wm wb mate) := (by rw [mX5_isLost, if_neg c_1, if_pos c_4, if_pos c_5])
          exact et_zret hx hb hr hlocks dX5_isLost_154 (congrArg zI (hfin))
        ·
          refine lv_iconst (v := (1 : Int32)) hx hb dX5_isLost_131 (by decide) ?_
          refine lv_goto (tgt := 154) hx hb dX5_isLost_132 (by decide) ?_
          have hfin : true = (mX5_isLost mF mR tb kd ww wm wb mate) := (by rw [mX5_isLost, if_neg c_1, if_pos c_4, if_neg c_5])
          exact et_zret hx hb hr hlocks dX5_isLost_154 (congrArg zI (hfin))
  have hL1 : ∀ (k1 i1 : Nat) (moves1 : Int32) (all1 : Bool), i1 + k1 = 3 → mX5_isLost_L1 mF mR tb kd ww wm wb k1 i1 moves1 all1 = (mX5_isLost_L1 mF mR tb kd ww wm wb 3 0 (0 : Int32) true) → ∀ ls : Array Slot, lv_has ls 11 [(8, .int (nI i1 - 1)), (6, .int moves1), (7, .int (zI all1)), (0, .ref md), (1, .int kd), (2, .int ww), (3, .int wm), (4, .int wb), (5, .int (zI mate))] → W p l e ({ frames := 3, cells := 0, slots := 0, locals := 79 } : Room) s m args below meth c s.heap [] 0 0 (MQ below (et_QP (some (.int (zI ((mX5_isLost mF mR tb kd ww wm wb mate)))))) args s 0 0 et_no) (F0 m 9 ls []) := by
    intro k1
    induction k1 with
    | zero =>
      intro i1 moves1 all1 hik  hm ls hl
      refine lv_iload hx hb dX5_isLost_9 (lv_at hl 0 rfl) ?_
      refine lv_iconst (v := (2 : Int32)) hx hb dX5_isLost_11 (by decide) ?_
      refine lv_icmp_ge (tgt := 108) hx hb dX5_isLost_12 (by decide) (fun c_6 => ?_) (fun c_6 => ?_)
      rotate_left
      · exact absurd (et_fT (by omega)) c_6
      have hq1 : (moves1, all1) = (mX5_isLost_L1 mF mR tb kd ww wm wb 3 0 (0 : Int32) true) := (by rw [mX5_isLost_L1] : mX5_isLost_L1 mF mR tb kd ww wm wb 0 i1 moves1 all1 = (moves1, all1)).symm.trans hm
      have hq1_0 : moves1 = (mX5_isLost_L1 mF mR tb kd ww wm wb 3 0 (0 : Int32) true).1 := congrArg (fun z => z.1) hq1
      have hq1_1 : all1 = (mX5_isLost_L1 mF mR tb kd ww wm wb 3 0 (0 : Int32) true).2 := congrArg (fun z => z.2) hq1
      exact hx1 ls (by rw [← hq1_0, ← hq1_1]; exact lv_sub hl [1, 2, 3, 4, 5, 6, 7, 8] rfl)
    | succ k1 ih1 =>
      intro i1 moves1 all1 hik  hm ls hl
      refine lv_iload hx hb dX5_isLost_9 (lv_at hl 0 rfl) ?_
      refine lv_iconst (v := (2 : Int32)) hx hb dX5_isLost_11 (by decide) ?_
      refine lv_icmp_ge (tgt := 108) hx hb dX5_isLost_12 (by decide) (fun c_7 => ?_) (fun c_7 => ?_)
      · exact absurd c_7 (et_fF (by omega))
      refine lv_iconst (v := (-1 : Int32)) hx hb dX5_isLost_15 (by decide) ?_
      refine lv_istore (lv' := [(9, .int (-1 : Int32)), (8, .int (nI i1 - 1)), (6, .int moves1), (7, .int (zI all1)), (0, .ref md), (1, .int kd), (2, .int ww), (3, .int wm), (4, .int wb), (5, .int (zI mate))]) hx hb dX5_isLost_16 hl (by decide) rfl (fun ls hl => ?_)
      have hx2 : ∀ ls : Array Slot, lv_has ls 11 [(6, .int ((mX5_isLost_L2 mF mR tb kd ww wm wb i1 3 0 moves1 all1).1)), (7, .int (zI ((mX5_isLost_L2 mF mR tb kd ww wm wb i1 3 0 moves1 all1).2))), (8, .int (nI i1 - 1)), (0, .ref md), (1, .int kd), (2, .int ww), (3, .int wm), (4, .int wb), (5, .int (zI mate))] → W p l e ({ frames := 3, cells := 0, slots := 0, locals := 79 } : Room) s m args below meth c s.heap [] 0 0 (MQ below (et_QP (some (.int (zI ((mX5_isLost mF mR tb kd ww wm wb mate)))))) args s 0 0 et_no) (F0 m 102 ls []) := by
        intro ls hl
        refine lv_iinc (v := nI (i1 + 1) - 1) (lv' := [(8, .int (nI (i1 + 1) - 1)), (6, .int ((mX5_isLost_L2 mF mR tb kd ww wm wb i1 3 0 moves1 all1).1)), (7, .int (zI ((mX5_isLost_L2 mF mR tb kd ww wm wb i1 3 0 moves1 all1).2))), (0, .ref md), (1, .int kd), (2, .int ww), (3, .int wm), (4, .int wb), (5, .int (zI mate))]) hx hb dX5_isLost_102 hl (k := 2) rfl (et_incM 1 i1) (by decide) rfl (fun ls hl => ?_)
        refine lv_goto (tgt := 9) hx hb dX5_isLost_105 (by decide) ?_
        exact ih1 (i1 + 1) ((mX5_isLost_L2 mF mR tb kd ww wm wb i1 3 0 moves1 all1).1) ((mX5_isLost_L2 mF mR tb kd ww wm wb i1 3 0 moves1 all1).2) (by omega) ((by rw [mX5_isLost_L1] : mX5_isLost_L1 mF mR tb kd ww wm wb (k1 + 1) i1 moves1 all1 = mX5_isLost_L1 mF mR tb kd ww wm wb k1 (i1 + 1) ((mX5_isLost_L2 mF mR tb kd ww wm wb i1 3 0 moves1 all1).1) ((mX5_isLost_L2 mF mR tb kd ww wm wb i1 3 0 moves1 all1).2)).symm.trans hm) ls (lv_sub hl [0, 1, 2, 3, 4, 5, 6, 7, 8] rfl)
      have hL2 : ∀ (k2 i2 : Nat) (moves2 : Int32) (all2 : Bool), i2 + k2 = 3 → mX5_isLost_L2 mF mR tb kd ww wm wb i1 k2 i2 moves2 all2 = (mX5_isLost_L2 mF mR tb kd ww wm wb i1 3 0 moves1 all1) → ∀ ls : Array Slot, lv_has ls 11 [(9, .int (nI i2 - 1)), (6, .int moves2), (7, .int (zI all2)), (8, .int (nI i1 - 1)), (0, .ref md), (1, .int kd), (2, .int ww), (3, .int wm), (4, .int wb), (5, .int (zI mate))] → W p l e ({ frames := 3, cells := 0, slots := 0, locals := 79 } : Room) s m args below meth c s.heap [] 0 0 (MQ below (et_QP (some (.int (zI ((mX5_isLost mF mR tb kd ww wm wb mate)))))) args s 0 0 et_no) (F0 m 18 ls []) := by
        intro k2
        induction k2 with
        | zero =>
          intro i2 moves2 all2 hik  hm ls hl
          refine lv_iload hx hb dX5_isLost_18 (lv_at hl 0 rfl) ?_
          refine lv_iconst (v := (2 : Int32)) hx hb dX5_isLost_20 (by decide) ?_
          refine lv_icmp_ge (tgt := 102) hx hb dX5_isLost_21 (by decide) (fun c_8 => ?_) (fun c_8 => ?_)
          rotate_left
          · exact absurd (et_fT (by omega)) c_8
          have hq2 : (moves2, all2) = (mX5_isLost_L2 mF mR tb kd ww wm wb i1 3 0 moves1 all1) := (by rw [mX5_isLost_L2] : mX5_isLost_L2 mF mR tb kd ww wm wb i1 0 i2 moves2 all2 = (moves2, all2)).symm.trans hm
          have hq2_0 : moves2 = (mX5_isLost_L2 mF mR tb kd ww wm wb i1 3 0 moves1 all1).1 := congrArg (fun z => z.1) hq2
          have hq2_1 : all2 = (mX5_isLost_L2 mF mR tb kd ww wm wb i1 3 0 moves1 all1).2 := congrArg (fun z => z.2) hq2
          exact hx2 ls (by rw [← hq2_0, ← hq2_1]; exact lv_sub hl [1, 2, 3, 4, 5, 6, 7, 8, 9] rfl)
        | succ k2 ih2 =>
          intro i2 moves2 all2 hik  hm ls hl
          refine lv_iload hx hb dX5_isLost_18 (lv_at hl 0 rfl) ?_
          refine lv_iconst (v := (2 : Int32)) hx hb dX5_isLost_20 (by decide) ?_
          refine lv_icmp_ge (tgt := 102) hx hb dX5_isLost_21 (by decide) (fun c_9 => ?_) (fun c_9 => ?_)
          · exact absurd c_9 (et_fF (by omega))
          have hj1 : ∀ ls : Array Slot, lv_has ls 11 [(9, .int (nI i2 - 1)), (6, .int moves2), (7, .int (zI all2)), (8, .int (nI i1 - 1)), (0, .ref md), (1, .int kd), (2, .int ww), (3, .int wm), (4, .int wb), (5, .int (zI mate))] → W p l e ({ frames := 3, cells := 0, slots := 0, locals := 79 } : Room) s m args below meth c s.heap [] 0 0 (MQ below (et_QP (some (.int (zI ((mX5_isLost mF mR tb kd ww wm wb mate)))))) args s 0 0 et_no) (F0 m 48 ls [.int (mX5_isLost_V1 mF mR wb i2 i1)]) := by
            intro ls hl
            refine lv_istore (lv' := [(10, .int (mX5_isLost_V1 mF mR wb i2 i1)), (9, .int (nI i2 - 1)), (6, .int moves2), (7, .int (zI all2)), (8, .int (nI i1 - 1)), (0, .ref md), (1, .int kd), (2, .int ww), (3, .int wm), (4, .int wb), (5, .int (zI mate))]) hx hb dX5_isLost_48 hl (by decide) rfl (fun ls hl => ?_)
            refine lv_aload_n hx hb dX5_isLost_50 rfl (lv_at hl 5 rfl) ?_
            refine lv_iload_n hx hb dX5_isLost_51 rfl (lv_at hl 6 rfl) ?_
            refine lv_iload_n hx hb dX5_isLost_52 rfl (lv_at hl 7 rfl) ?_
            refine lv_iload_n hx hb dX5_isLost_53 rfl (lv_at hl 8 rfl) ?_
            refine lv_iload hx hb dX5_isLost_54 (lv_at hl 0 rfl) ?_
            refine et_callP1 (v := .int (zI (mX5_mayGo mF mR kd ww wm (mX5_isLost_V1 mF mR wb i2 i1)))) (va_runV (As := [.int kd, .int ww, .int wm, .int (mX5_isLost_V1 mF mR wb i2 i1)]) (rest := []) ⟨hx, hb, hml, hown, hts⟩ (c_X5_mayGo l g md r1 r2 r3 r4 mF mR th tb bu gr mt mk mw mm mb ms ml my kd ww wm (mX5_isLost_V1 mF mR wb i2 i1) (by assumption) (by assumption)) (cwV 4 hts (W0_gV w_850 w_852 w_62 w_82 w_853) rfl rfl rfl (by decide +kernel) ⟨Nat.le_of_ble_eq_true rfl, Nat.le_of_ble_eq_true rfl⟩) (et_preV hP hC [0, 1, 2, 3, 4] rfl (ci := 5) (q0 := 0) rfl rfl) rfl rfl hl.1 rfl (lv_room (Nat.le_of_ble_eq_true rfl)) dX5_isLost_56 ⟨Nat.le_of_ble_eq_true rfl, Nat.le_of_ble_eq_true rfl⟩) ?_
            refine lv_if_eq (tgt := 96) hx hb dX5_isLost_59 (by decide) (fun c_10 => ?_) (fun c_10 => ?_)
            ·
              refine lv_iinc (v := nI (i2 + 1) - 1) (lv' := [(9, .int (nI (i2 + 1) - 1)), (10, .int (mX5_isLost_V1 mF mR wb i2 i1)), (6, .int moves2), (7, .int (zI all2)), (8, .int (nI i1 - 1)), (0, .ref md), (1, .int kd), (2, .int ww), (3, .int wm), (4, .int wb), (5, .int (zI mate))]) hx hb dX5_isLost_96 hl (k := 1) rfl (et_incM 1 i2) (by decide) rfl (fun ls hl => ?_)
              refine lv_goto (tgt := 18) hx hb dX5_isLost_99 (by decide) ?_
              exact ih2 (i2 + 1) moves2 all2 (by omega) ((by rw [mX5_isLost_L2, if_pos c_10] : mX5_isLost_L2 mF mR tb kd ww wm wb i1 (k2 + 1) i2 moves2 all2 = mX5_isLost_L2 mF mR tb kd ww wm wb i1 k2 (i2 + 1) moves2 all2).symm.trans hm) ls (lv_sub hl [0, 2, 3, 4, 5, 6, 7, 8, 9, 10] rfl)
            ·
              refine lv_iinc (v := moves2 + (1 : Int32)) (lv' := [(6, .int (moves2 + (1 : Int32))), (10, .int (mX5_isLost_V1 mF mR wb i2 i1)), (9, .int (nI i2 - 1)), (7, .int (zI all2)), (8, .int (nI i1 - 1)), (0, .ref md), (1, .int kd), (2, .int ww), (3, .int wm), (4, .int wb), (5, .int (zI mate))]) hx hb dX5_isLost_62 hl (k := 2) rfl rfl (by decide) rfl (fun ls hl => ?_)
              have hj2 : ∀ ls : Array Slot, lv_has ls 11 [(6, .int (moves2 + (1 : Int32))), (10, .int (mX5_isLost_V1 mF mR wb i2 i1)), (9, .int (nI i2 - 1)), (7, .int (zI all2)), (8, .int (nI i1 - 1)), (0, .ref md), (1, .int kd), (2, .int ww), (3, .int wm), (4, .int wb), (5, .int (zI mate))] → W p l e ({ frames := 3, cells := 0, slots := 0, locals := 79 } : Room) s m args below meth c s.heap [] 0 0 (MQ below (et_QP (some (.int (zI ((mX5_isLost mF mR tb kd ww wm wb mate)))))) args s 0 0 et_no) (F0 m 94 ls [.int (zI (mX5_isLost_V2 mF mR tb kd ww wm wb i2 all2 i1))]) := by
                intro ls hl
                refine lv_istore (lv' := [(7, .int (zI (mX5_isLost_V2 mF mR tb kd ww wm wb i2 all2 i1))), (6, .int (moves2 + (1 : Int32))), (10, .int (mX5_isLost_V1 mF mR wb i2 i1)), (9, .int (nI i2 - 1)), (8, .int (nI i1 - 1)), (0, .ref md), (1, .int kd), (2, .int ww), (3, .int wm), (4, .int wb), (5, .int (zI mate))]) hx hb dX5_isLost_94 hl (by decide) rfl (fun ls hl => ?_)
                refine lv_iinc (v := nI (i2 + 1) - 1) (lv' := [(9, .int (nI (i2 + 1) - 1)), (7, .int (zI (mX5_isLost_V2 mF mR tb kd ww wm wb i2 all2 i1))), (6, .int (moves2 + (1 : Int32))), (10, .int (mX5_isLost_V1 mF mR wb i2 i1)), (8, .int (nI i1 - 1)), (0, .ref md), (1, .int kd), (2, .int ww), (3, .int wm), (4, .int wb), (5, .int (zI mate))]) hx hb dX5_isLost_96 hl (k := 3) rfl (et_incM 1 i2) (by decide) rfl (fun ls hl => ?_)
                refine lv_goto (tgt := 18) hx hb dX5_isLost_99 (by decide) ?_
                exact ih2 (i2 + 1) (moves2 + (1 : Int32)) (mX5_isLost_V2 mF mR tb kd ww wm wb i2 all2 i1) (by omega) ((by rw [mX5_isLost_L2, if_neg c_10] : mX5_isLost_L2 mF mR tb kd ww wm wb i1 (k2 + 1) i2 moves2 all2 = mX5_isLost_L2 mF mR tb kd ww wm wb i1 k2 (i2 + 1) (moves2 + (1 : Int32)) (mX5_isLost_V2 mF mR tb kd ww wm wb i2 all2 i1)).symm.trans hm) ls (lv_sub hl [0, 2, 1, 4, 5, 6, 7, 8, 9, 10] rfl)
              refine lv_iload hx hb dX5_isLost_65 (lv_at hl 3 rfl) ?_
              refine lv_if_eq (tgt := 93) hx hb dX5_isLost_67 (by decide) (fun c_11 => ?_) (fun c_11 => ?_)
              ·
                refine lv_iconst (v := (0 : Int32)) hx hb dX5_isLost_93 (by decide) ?_
                have he3 : (false : Bool) = (mX5_isLost_V2 mF mR tb kd ww wm wb i2 all2 i1) := (by rw [mX5_isLost_V2, if_pos c_11])
                exact et_stki (congrArg zI he3) (hj2 ls (lv_sub hl [0, 1, 2, 3, 4, 5, 6, 7, 8, 9, 10] rfl))
              ·
                refine lv_iload hx hb dX5_isLost_70 (lv_at hl 1 rfl) ?_
                refine lv_iload_n hx hb dX5_isLost_72 rfl (lv_at hl 8 rfl) ?_
                refine lv_icmp_eq (tgt := 93) hx hb dX5_isLost_73 (by decide) (fun c_12 => ?_) (fun c_12 => ?_)
                ·
                  refine lv_iconst (v := (0 : Int32)) hx hb dX5_isLost_93 (by decide) ?_
                  have he4 : (false : Bool) = (mX5_isLost_V2 mF mR tb kd ww wm wb i2 all2 i1) := (by rw [mX5_isLost_V2, if_neg c_11, if_pos c_12])
                  exact et_stki (congrArg zI he4) (hj2 ls (lv_sub hl [0, 1, 2, 3, 4, 5, 6, 7, 8, 9, 10] rfl))
                ·
                  refine lv_aload_n hx hb dX5_isLost_76 rfl (lv_at hl 5 rfl) ?_
                  refine lv_iload_n hx hb dX5_isLost_77 rfl (lv_at hl 6 rfl) ?_
                  refine lv_iconst (v := (0 : Int32)) hx hb dX5_isLost_78 (by decide) ?_
                  refine lv_iload_n hx hb dX5_isLost_79 rfl (lv_at hl 7 rfl) ?_
                  refine lv_iload_n hx hb dX5_isLost_80 rfl (lv_at hl 8 rfl) ?_
                  refine lv_iload hx hb dX5_isLost_81 (lv_at hl 1 rfl) ?_
                  refine et_callP1 (v := .int (mX5_known tb kd (0 : Int32) ww wm (mX5_isLost_V1 mF mR wb i2 i1))) (va_runV (As := [.int kd, .int (0 : Int32), .int ww, .int wm, .int (mX5_isLost_V1 mF mR wb i2 i1)]) (rest := []) ⟨hx, hb, hml, hown, hts⟩ (c_X5_known l g md r1 r2 r3 r4 mF mR th tb bu gr mt mk mw mm mb ms ml my kd (0 : Int32) ww wm (mX5_isLost_V1 mF mR wb i2 i1) (by assumption) et_sd0 (by assumption) (by assumption) (et_m1_r (et_lostV hF hR) (et_mayGo_ge (by assumption)))) (cwV 5 hts (W0_gV w_837 w_839 w_60 w_82 w_840) rfl rfl rfl (by decide +kernel) ⟨Nat.le_of_ble_eq_true rfl, Nat.le_of_ble_eq_true rfl⟩) (et_preV hP hC [0, 1, 2, 3, 4] rfl (ci := 5) (q0 := 0) rfl rfl) rfl rfl hl.1 rfl (lv_room (Nat.le_of_ble_eq_true rfl)) dX5_isLost_83 ⟨Nat.le_of_ble_eq_true rfl, Nat.le_of_ble_eq_true rfl⟩) ?_
                  refine lv_if_lt (tgt := 93) hx hb dX5_isLost_86 (by decide) (fun c_13 => ?_) (fun c_13 => ?_)
                  ·
                    refine lv_iconst (v := (0 : Int32)) hx hb dX5_isLost_93 (by decide) ?_
                    have he5 : (false : Bool) = (mX5_isLost_V2 mF mR tb kd ww wm wb i2 all2 i1) := (by rw [mX5_isLost_V2, if_neg c_11, if_neg c_12, if_pos c_13])
                    exact et_stki (congrArg zI he5) (hj2 ls (lv_sub hl [0, 1, 2, 3, 4, 5, 6, 7, 8, 9, 10] rfl))
                  ·
                    refine lv_iconst (v := (1 : Int32)) hx hb dX5_isLost_89 (by decide) ?_
                    refine lv_goto (tgt := 94) hx hb dX5_isLost_90 (by decide) ?_
                    have he6 : (true : Bool) = (mX5_isLost_V2 mF mR tb kd ww wm wb i2 all2 i1) := (by rw [mX5_isLost_V2, if_neg c_11, if_neg c_12, if_neg c_13])
                    exact et_stki (congrArg zI he6) (hj2 ls (lv_sub hl [0, 1, 2, 3, 4, 5, 6, 7, 8, 9, 10] rfl))
          refine lv_iload hx hb dX5_isLost_24 (lv_at hl 3 rfl) ?_
          refine lv_if_ne (tgt := 38) hx hb dX5_isLost_26 (by decide) (fun c_14 => ?_) (fun c_14 => ?_)
          ·
            refine lv_aload_n hx hb dX5_isLost_38 rfl (lv_at hl 4 rfl) ?_
            refine lv_iload hx hb dX5_isLost_39 (lv_at hl 8 rfl) ?_
            refine lv_iload hx hb dX5_isLost_41 (lv_at hl 3 rfl) ?_
            refine lv_iload hx hb dX5_isLost_43 (lv_at hl 0 rfl) ?_
            refine et_callP1 (v := .int (mX5_step mF mR wb (nI i1 - 1) (nI i2 - 1))) (va_runV (As := [.int wb, .int (nI i1 - 1), .int (nI i2 - 1)]) (rest := []) ⟨hx, hb, hml, hown, hts⟩ (c_X5_step l g md r1 r2 r3 r4 mF mR th tb bu gr mt mk mw mm mb ms ml my wb (nI i1 - 1) (nI i2 - 1)) (cwV 3 hts (W0_gV w_813 w_815 w_54 w_82 w_816) rfl rfl rfl (by decide +kernel) ⟨Nat.le_of_ble_eq_true rfl, Nat.le_of_ble_eq_true rfl⟩) (et_preV hP hC [0, 1, 2, 3, 4] rfl (ci := 5) (q0 := 0) rfl rfl) rfl rfl hl.1 rfl (lv_room (Nat.le_of_ble_eq_true rfl)) dX5_isLost_45 ⟨Nat.le_of_ble_eq_true rfl, Nat.le_of_ble_eq_true rfl⟩) ?_
            have he7 : ((mX5_step mF mR wb (nI i1 - 1) (nI i2 - 1)) : Int32) = (mX5_isLost_V1 mF mR wb i2 i1) := (by rw [mX5_isLost_V1, if_neg c_14])
            exact et_stki he7 (hj1 ls (lv_sub hl [0, 1, 2, 3, 4, 5, 6, 7, 8, 9] rfl))
          ·
            refine lv_iload hx hb dX5_isLost_29 (lv_at hl 0 rfl) ?_
            refine lv_if_ne (tgt := 38) hx hb dX5_isLost_31 (by decide) (fun c_15 => ?_) (fun c_15 => ?_)
            ·
              refine lv_aload_n hx hb dX5_isLost_38 rfl (lv_at hl 4 rfl) ?_
              refine lv_iload hx hb dX5_isLost_39 (lv_at hl 8 rfl) ?_
              refine lv_iload hx hb dX5_isLost_41 (lv_at hl 3 rfl) ?_
              refine lv_iload hx hb dX5_isLost_43 (lv_at hl 0 rfl) ?_
              refine et_callP1 (v := .int (mX5_step mF mR wb (nI i1 - 1) (nI i2 - 1))) (va_runV (As := [.int wb, .int (nI i1 - 1), .int (nI i2 - 1)]) (rest := []) ⟨hx, hb, hml, hown, hts⟩ (c_X5_step l g md r1 r2 r3 r4 mF mR th tb bu gr mt mk mw mm mb ms ml my wb (nI i1 - 1) (nI i2 - 1)) (cwV 3 hts (W0_gV w_813 w_815 w_54 w_82 w_816) rfl rfl rfl (by decide +kernel) ⟨Nat.le_of_ble_eq_true rfl, Nat.le_of_ble_eq_true rfl⟩) (et_preV hP hC [0, 1, 2, 3, 4] rfl (ci := 5) (q0 := 0) rfl rfl) rfl rfl hl.1 rfl (lv_room (Nat.le_of_ble_eq_true rfl)) dX5_isLost_45 ⟨Nat.le_of_ble_eq_true rfl, Nat.le_of_ble_eq_true rfl⟩) ?_
              have he8 : ((mX5_step mF mR wb (nI i1 - 1) (nI i2 - 1)) : Int32) = (mX5_isLost_V1 mF mR wb i2 i1) := (by rw [mX5_isLost_V1, if_pos c_14, if_neg c_15])
              exact et_stki he8 (hj1 ls (lv_sub hl [0, 1, 2, 3, 4, 5, 6, 7, 8, 9] rfl))
            ·
              refine lv_iconst (v := (-1 : Int32)) hx hb dX5_isLost_34 (by decide) ?_
              refine lv_goto (tgt := 48) hx hb dX5_isLost_35 (by decide) ?_
              have he9 : ((-1 : Int32) : Int32) = (mX5_isLost_V1 mF mR wb i2 i1) := (by rw [mX5_isLost_V1, if_pos c_14, if_pos c_15])
              exact et_stki he9 (hj1 ls (lv_sub hl [0, 1, 2, 3, 4, 5, 6, 7, 8, 9] rfl))
      exact hL2 3 0 moves1 all1 (by omega) rfl ls (by rw [show (nI 0 - 1 : Int32) = (-1 : Int32) from (by decide)]; exact lv_sub hl [0, 2, 3, 1, 4, 5, 6, 7, 8, 9] rfl)
  exact hL1 3 0 (0 : Int32) true (by omega) rfl ls (by rw [show (nI 0 - 1 : Int32) = (-1 : Int32) from (by decide)]; exact lv_sub hl [0, 2, 1, 3, 4, 5, 6, 7, 8] rfl)

def mX5_reaches (tb : Nat → Int64) (kd : Int32) (ww : Int32) (wm : Int32) (wb : Int32) (dd : Int32) : Bool :=
  if (mX5_known tb kd (1 : Int32) ww wm wb) = dd then
    true
  else
    false
set_option maxHeartbeats 4000000 in
set_option maxRecDepth 100000 in
theorem c_X5_reaches (l : Launch) (g : et_G) (md : Nat) (r1 : Nat) (r2 : Nat) (r3 : Nat) (r4 : Nat) (mF : Int32) (mR : Int32) (th : Int32) (tb : Nat → Int64) (bu : Nat → Int32) (gr : Nat → Int32) (mt : Bool) (mk : Int32) (mw : Int32) (mm : Int32) (mb : Int32) (ms : Int32) (ml : Nat → Int32) (my : Int32) (kd : Int32) (ww : Int32) (wm : Int32) (wb : Int32) (dd : Int32) (hkd : et_kd kd) (hww : et_r64 ww) (hwm : et_r64 wm) (hwb : et_r64 wb) : Met l yX5_reaches (Cond.code yX5_reaches cX5_reaches 6 (some (.boolean)) :: W0) ({ frames := 2, cells := 0, slots := 0, locals := 50 } : Room) (et_Pc g ([(md, .inr (5, [.int th, .int mF, .int mR, .ref r1, .ref r2, .ref r3, .int (zI mt), .int mk, .int mw, .int mm, .int mb, .int ms, .ref r4, .int my])), (r1, .inl (gJ g, 327680, .inr (.inl tb))), (r2, .inl (gZ g, 6, .inl bu)), (r3, .inl (gI g, 6, .inl gr)), (r4, .inl (gI g, 64, .inl ml))]) [.ref md, .int kd, .int ww, .int wm, .int wb, .int dd]) (et_QP (some (.int (zI ((mX5_reaches tb kd ww wm wb dd)))))) 0 0 et_no := by
  refine et_startP (by decide) rfl (Nat.le_of_ble_eq_true rfl) ?_
  intro p e s m args below meth c hx hb hr hts0 hown hlocks hml hP hC ls hl
  have hts : ∀ w ∈ W0, w.before args s = true := fun w h => hts0 w (List.mem_cons_of_mem _ h)
  have hown : s.vm.findClass RX5 = some m.cls := hown
  have hl : lv_has ls 6 [(0, .ref md), (1, .int kd), (2, .int ww), (3, .int wm), (4, .int wb), (5, .int dd)] := hl
  refine lv_aload_n hx hb dX5_reaches_0 rfl (lv_at hl 0 rfl) ?_
  refine lv_iload_n hx hb dX5_reaches_1 rfl (lv_at hl 1 rfl) ?_
  refine lv_iconst (v := (1 : Int32)) hx hb dX5_reaches_2 (by decide) ?_
  refine lv_iload_n hx hb dX5_reaches_3 rfl (lv_at hl 2 rfl) ?_
  refine lv_iload_n hx hb dX5_reaches_4 rfl (lv_at hl 3 rfl) ?_
  refine lv_iload hx hb dX5_reaches_5 (lv_at hl 4 rfl) ?_
  refine et_callP1 (v := .int (mX5_known tb kd (1 : Int32) ww wm wb)) (va_runV (As := [.int kd, .int (1 : Int32), .int ww, .int wm, .int wb]) (rest := []) ⟨hx, hb, hml, hown, hts⟩ (c_X5_known l g md r1 r2 r3 r4 mF mR th tb bu gr mt mk mw mm mb ms ml my kd (1 : Int32) ww wm wb (by assumption) et_sd1 (by assumption) (by assumption) (by assumption)) (cwV 5 hts (W0_gV w_837 w_839 w_60 w_82 w_840) rfl rfl rfl (by decide +kernel) ⟨Nat.le_of_ble_eq_true rfl, Nat.le_of_ble_eq_true rfl⟩) (et_preV hP hC [0, 1, 2, 3, 4] rfl (ci := 5) (q0 := 0) rfl rfl) rfl rfl hl.1 rfl (lv_room (Nat.le_of_ble_eq_true rfl)) dX5_reaches_7 ⟨Nat.le_of_ble_eq_true rfl, Nat.le_of_ble_eq_true rfl⟩) ?_
  refine lv_iload hx hb dX5_reaches_10 (lv_at hl 5 rfl) ?_
  refine lv_icmp_ne (tgt := 19) hx hb dX5_reaches_12 (by decide) (fun c_1 => ?_) (fun c_1 => ?_)
  ·
    refine lv_iconst (v := (0 : Int32)) hx hb dX5_reaches_19 (by decide) ?_
    have hfin : false = (mX5_reaches tb kd ww wm wb dd) := (by rw [mX5_reaches, if_neg c_1])
    exact et_zret hx hb hr hlocks dX5_reaches_20 (congrArg zI (hfin))
  ·
    refine lv_iconst (v := (1 : Int32)) hx hb dX5_reaches_15 (by decide) ?_
    refine lv_goto (tgt := 20) hx hb dX5_reaches_16 (by decide) ?_
    have hfin : true = (mX5_reaches tb kd ww wm wb dd) := (by rw [mX5_reaches, if_pos c_1])
    exact et_zret hx hb hr hlocks dX5_reaches_20 (congrArg zI (hfin))

def mX5_kingReaches_V1 (mF : Int32) (mR : Int32) (ww : Int32) (i2 : Nat) (i1 : Nat) : Int32 :=
  if (nI i1 - 1) = 0 then
    if (nI i2 - 1) = 0 then
      (-1 : Int32)
    else
      (mX5_step mF mR ww (nI i1 - 1) (nI i2 - 1))
  else
    (mX5_step mF mR ww (nI i1 - 1) (nI i2 - 1))
def mX5_kingReaches_V2 (mF : Int32) (mR : Int32) (tb : Nat → Int64) (kd : Int32) (ww : Int32) (wm : Int32) (wb : Int32) (dd : Int32) (i2 : Nat) (some2 : Bool) (i1 : Nat) : Bool :=
  if (zI some2) = 0 then
    if (mX5_kingReaches_V1 mF mR ww i2 i1) < 0 then
      false
    else
      if (mX5_kingReaches_V1 mF mR ww i2 i1) = wm then
        false
      else
        if (mX5_kingReaches_V1 mF mR ww i2 i1) = wb then
          false
        else
          if (zI (mX5_isNext (mX5_kingReaches_V1 mF mR ww i2 i1) wb)) = 0 then
            if (zI (mX5_reaches tb kd (mX5_kingReaches_V1 mF mR ww i2 i1) wm wb dd)) = 0 then
              false
            else
              true
          else
            false
  else
    true
def mX5_kingReaches_L2 (mF : Int32) (mR : Int32) (tb : Nat → Int64) (kd : Int32) (ww : Int32) (wm : Int32) (wb : Int32) (dd : Int32) (i1 : Nat) : Nat → Nat → Bool → Bool
  | 0, i2, some2 =>
    some2
  | k2 + 1, i2, some2 =>
    mX5_kingReaches_L2 mF mR tb kd ww wm wb dd i1 k2 (i2 + 1) (mX5_kingReaches_V2 mF mR tb kd ww wm wb dd i2 some2 i1)
def mX5_kingReaches_L1 (mF : Int32) (mR : Int32) (tb : Nat → Int64) (kd : Int32) (ww : Int32) (wm : Int32) (wb : Int32) (dd : Int32) : Nat → Nat → Bool → Bool
  | 0, i1, some1 =>
    some1
  | k1 + 1, i1, some1 =>
    mX5_kingReaches_L1 mF mR tb kd ww wm wb dd k1 (i1 + 1) (mX5_kingReaches_L2 mF mR tb kd ww wm wb dd i1 3 0 some1)
def mX5_kingReaches (mF : Int32) (mR : Int32) (tb : Nat → Int64) (kd : Int32) (ww : Int32) (wm : Int32) (wb : Int32) (dd : Int32) : Bool :=
  (mX5_kingReaches_L1 mF mR tb kd ww wm wb dd 3 0 false)
theorem et_kingV {mF mR ww : Int32} {i1 i2 : Nat} (hF : et_b8 mF) (hR : et_b8 mR) : mX5_kingReaches_V1 mF mR ww i1 i2 = (-1 : Int32) ∨ et_r64 (mX5_kingReaches_V1 mF mR ww i1 i2) := by
  unfold mX5_kingReaches_V1
  split
  · split
    · exact Or.inl rfl
    · exact et_step_r hF hR
  · exact et_step_r hF hR
set_option maxHeartbeats 4000000 in
set_option maxRecDepth 100000 in
theorem c_X5_kingReaches (l : Launch) (g : et_G) (md : Nat) (r1 : Nat) (r2 : Nat) (r3 : Nat) (r4 : Nat) (mF : Int32) (mR : Int32) (th : Int32) (tb : Nat → Int64) (bu : Nat → Int32) (gr : Nat → Int32) (mt : Bool) (mk : Int32) (mw : Int32) (mm : Int32) (mb : Int32) (ms : Int32) (ml : Nat → Int32) (my : Int32) (kd : Int32) (ww : Int32) (wm : Int32) (wb : Int32) (dd : Int32) (hF : et_b8 mF) (hR : et_b8 mR) (hkd : et_kd kd) (hwm : et_r64 wm) (hwb : et_r64 wb) : Met l yX5_kingReaches (Cond.code yX5_kingReaches cX5_kingReaches 10 (some (.boolean)) :: W0) ({ frames := 3, cells := 0, slots := 0, locals := 75 } : Room) (et_Pc g ([(md, .inr (5, [.int th, .int mF, .int mR, .ref r1, .ref r2, .ref r3, .int (zI mt), .int mk, .int mw, .int mm, .int mb, .int ms, .ref r4, .int my])), (r1, .inl (gJ g, 327680, .inr (.inl tb))), (r2, .inl (gZ g, 6, .inl bu)), (r3, .inl (gI g, 6, .inl gr)), (r4, .inl (gI g, 64, .inl ml))]) [.ref md, .int kd, .int ww, .int wm, .int wb, .int dd]) (et_QP (some (.int (zI ((mX5_kingReaches mF mR tb kd ww wm wb dd)))))) 0 0 et_no := by
  refine et_startP (by decide) rfl (Nat.le_of_ble_eq_true rfl) ?_
  intro p e s m args below meth c hx hb hr hts0 hown hlocks hml hP hC ls hl
  have hts : ∀ w ∈ W0, w.before args s = true := fun w h => hts0 w (List.mem_cons_of_mem _ h)
  have hown : s.vm.findClass RX5 = some m.cls := hown
  have hl : lv_has ls 10 [(0, .ref md), (1, .int kd), (2, .int ww), (3, .int wm), (4, .int wb), (5, .int dd)] := hl
  refine lv_iconst (v := (0 : Int32)) hx hb dX5_kingReaches_0 (by decide) ?_
  refine lv_istore (lv' := [(6, .int (0 : Int32)), (0, .ref md), (1, .int kd), (2, .int ww), (3, .int wm), (4, .int wb), (5, .int dd)]) hx hb dX5_kingReaches_1 hl (by decide) rfl (fun ls hl => ?_)
  refine lv_iconst (v := (-1 : Int32)) hx hb dX5_kingReaches_3 (by decide) ?_
  refine lv_istore (lv' := [(7, .int (-1 : Int32)), (6, .int (0 : Int32)), (0, .ref md), (1, .int kd), (2, .int ww), (3, .int wm), (4, .int wb), (5, .int dd)]) hx hb dX5_kingReaches_4 hl (by decide) rfl (fun ls hl => ?_)
  have hx1 : ∀ ls : Array Slot, lv_has ls 10 [(6, .int (zI (mX5_kingReaches_L1 mF mR tb kd ww wm wb dd 3 0 false))), (0, .ref md), (1, .int kd), (2, .int ww), (3, .int wm), (4, .int wb), (5, .int dd)] → W p l e ({ frames := 3, cells := 0, slots := 0, locals := 75 } : Room) s m args below meth c s.heap [] 0 0 (MQ below (et_QP (some (.int (zI ((mX5_kingReaches mF mR tb kd ww wm wb dd)))))) args s 0 0 et_no) (F0 m 113 ls []) := by
    intro ls hl
    refine lv_iload hx hb dX5_kingReaches_113 (lv_at hl 0 rfl) ?_
    have hfin : (mX5_kingReaches_L1 mF mR tb kd ww wm wb dd 3 0 false) = (mX5_kingReaches mF mR tb kd ww wm wb dd) := (by rw [mX5_kingReaches])
    exact et_zret hx hb hr hlocks dX5_kingReaches_115 (congrArg zI (hfin))
  have hL1 : ∀ (k1 i1 : Nat) (some1 : Bool), i1 + k1 = 3 → mX5_kingReaches_L1 mF mR tb kd ww wm wb dd k1 i1 some1 = (mX5_kingReaches_L1 mF mR tb kd ww wm wb dd 3 0 false) → ∀ ls : Array Slot, lv_has ls 10 [(7, .int (nI i1 - 1)), (6, .int (zI some1)), (0, .ref md), (1, .int kd), (2, .int ww), (3, .int wm), (4, .int wb), (5, .int dd)] → W p l e ({ frames := 3, cells := 0, slots := 0, locals := 75 } : Room) s m args below meth c s.heap [] 0 0 (MQ below (et_QP (some (.int (zI ((mX5_kingReaches mF mR tb kd ww wm wb dd)))))) args s 0 0 et_no) (F0 m 6 ls []) := by
    intro k1
    induction k1 with
    | zero =>
      intro i1 some1 hik  hm ls hl
      refine lv_iload hx hb dX5_kingReaches_6 (lv_at hl 0 rfl) ?_
      refine lv_iconst (v := (2 : Int32)) hx hb dX5_kingReaches_8 (by decide) ?_
      refine lv_icmp_ge (tgt := 113) hx hb dX5_kingReaches_9 (by decide) (fun c_1 => ?_) (fun c_1 => ?_)
      rotate_left
      · exact absurd (et_fT (by omega)) c_1
      have hq1 : some1 = (mX5_kingReaches_L1 mF mR tb kd ww wm wb dd 3 0 false) := (by rw [mX5_kingReaches_L1] : mX5_kingReaches_L1 mF mR tb kd ww wm wb dd 0 i1 some1 = some1).symm.trans hm
      exact hx1 ls (by rw [← hq1]; exact lv_sub hl [1, 2, 3, 4, 5, 6, 7] rfl)
    | succ k1 ih1 =>
      intro i1 some1 hik  hm ls hl
      refine lv_iload hx hb dX5_kingReaches_6 (lv_at hl 0 rfl) ?_
      refine lv_iconst (v := (2 : Int32)) hx hb dX5_kingReaches_8 (by decide) ?_
      refine lv_icmp_ge (tgt := 113) hx hb dX5_kingReaches_9 (by decide) (fun c_2 => ?_) (fun c_2 => ?_)
      · exact absurd c_2 (et_fF (by omega))
      refine lv_iconst (v := (-1 : Int32)) hx hb dX5_kingReaches_12 (by decide) ?_
      refine lv_istore (lv' := [(8, .int (-1 : Int32)), (7, .int (nI i1 - 1)), (6, .int (zI some1)), (0, .ref md), (1, .int kd), (2, .int ww), (3, .int wm), (4, .int wb), (5, .int dd)]) hx hb dX5_kingReaches_13 hl (by decide) rfl (fun ls hl => ?_)
      have hx2 : ∀ ls : Array Slot, lv_has ls 10 [(6, .int (zI (mX5_kingReaches_L2 mF mR tb kd ww wm wb dd i1 3 0 some1))), (7, .int (nI i1 - 1)), (0, .ref md), (1, .int kd), (2, .int ww), (3, .int wm), (4, .int wb), (5, .int dd)] → W p l e ({ frames := 3, cells := 0, slots := 0, locals := 75 } : Room) s m args below meth c s.heap [] 0 0 (MQ below (et_QP (some (.int (zI ((mX5_kingReaches mF mR tb kd ww wm wb dd)))))) args s 0 0 et_no) (F0 m 107 ls []) := by
        intro ls hl
        refine lv_iinc (v := nI (i1 + 1) - 1) (lv' := [(7, .int (nI (i1 + 1) - 1)), (6, .int (zI (mX5_kingReaches_L2 mF mR tb kd ww wm wb dd i1 3 0 some1))), (0, .ref md), (1, .int kd), (2, .int ww), (3, .int wm), (4, .int wb), (5, .int dd)]) hx hb dX5_kingReaches_107 hl (k := 1) rfl (et_incM 1 i1) (by decide) rfl (fun ls hl => ?_)
        refine lv_goto (tgt := 6) hx hb dX5_kingReaches_110 (by decide) ?_
        exact ih1 (i1 + 1) (mX5_kingReaches_L2 mF mR tb kd ww wm wb dd i1 3 0 some1) (by omega) ((by rw [mX5_kingReaches_L1] : mX5_kingReaches_L1 mF mR tb kd ww wm wb dd (k1 + 1) i1 some1 = mX5_kingReaches_L1 mF mR tb kd ww wm wb dd k1 (i1 + 1) (mX5_kingReaches_L2 mF mR tb kd ww wm wb dd i1 3 0 some1)).symm.trans hm) ls (lv_sub hl [0, 1, 2, 3, 4, 5, 6, 7] rfl)
      have hL2 : ∀ (k2 i2 : Nat) (some2 : Bool), i2 + k2 = 3 → mX5_kingReaches_L2 mF mR tb kd ww wm wb dd i1 k2 i2 some2 = (mX5_kingReaches_L2 mF mR tb kd ww wm wb dd i1 3 0 some1) → ∀ ls : Array Slot, lv_has ls 10 [(8, .int (nI i2 - 1)), (6, .int (zI some2)), (7, .int (nI i1 - 1)), (0, .ref md), (1, .int kd), (2, .int ww), (3, .int wm), (4, .int wb), (5, .int dd)] → W p l e ({ frames := 3, cells := 0, slots := 0, locals := 75 } : Room) s m args below meth c s.heap [] 0 0 (MQ below (et_QP (some (.int (zI ((mX5_kingReaches mF mR tb kd ww wm wb dd)))))) args s 0 0 et_no) (F0 m 15 ls []) := by
        intro k2
        induction k2 with
        | zero =>
          intro i2 some2 hik  hm ls hl
          refine lv_iload hx hb dX5_kingReaches_15 (lv_at hl 0 rfl) ?_
          refine lv_iconst (v := (2 : Int32)) hx hb dX5_kingReaches_17 (by decide) ?_
          refine lv_icmp_ge (tgt := 107) hx hb dX5_kingReaches_18 (by decide) (fun c_3 => ?_) (fun c_3 => ?_)
          rotate_left
          · exact absurd (et_fT (by omega)) c_3
          have hq2 : some2 = (mX5_kingReaches_L2 mF mR tb kd ww wm wb dd i1 3 0 some1) := (by rw [mX5_kingReaches_L2] : mX5_kingReaches_L2 mF mR tb kd ww wm wb dd i1 0 i2 some2 = some2).symm.trans hm
          exact hx2 ls (by rw [← hq2]; exact lv_sub hl [1, 2, 3, 4, 5, 6, 7, 8] rfl)
        | succ k2 ih2 =>
          intro i2 some2 hik  hm ls hl
          refine lv_iload hx hb dX5_kingReaches_15 (lv_at hl 0 rfl) ?_
          refine lv_iconst (v := (2 : Int32)) hx hb dX5_kingReaches_17 (by decide) ?_
          refine lv_icmp_ge (tgt := 107) hx hb dX5_kingReaches_18 (by decide) (fun c_4 => ?_) (fun c_4 => ?_)
          · exact absurd c_4 (et_fF (by omega))
          have hj1 : ∀ ls : Array Slot, lv_has ls 10 [(8, .int (nI i2 - 1)), (6, .int (zI some2)), (7, .int (nI i1 - 1)), (0, .ref md), (1, .int kd), (2, .int ww), (3, .int wm), (4, .int wb), (5, .int dd)] → W p l e ({ frames := 3, cells := 0, slots := 0, locals := 75 } : Room) s m args below meth c s.heap [] 0 0 (MQ below (et_QP (some (.int (zI ((mX5_kingReaches mF mR tb kd ww wm wb dd)))))) args s 0 0 et_no) (F0 m 44 ls [.int (mX5_kingReaches_V1 mF mR ww i2 i1)]) := by
            intro ls hl
            refine lv_istore (lv' := [(9, .int (mX5_kingReaches_V1 mF mR ww i2 i1)), (8, .int (nI i2 - 1)), (6, .int (zI some2)), (7, .int (nI i1 - 1)), (0, .ref md), (1, .int kd), (2, .int ww), (3, .int wm), (4, .int wb), (5, .int dd)]) hx hb dX5_kingReaches_44 hl (by decide) rfl (fun ls hl => ?_)
            have hj2 : ∀ ls : Array Slot, lv_has ls 10 [(9, .int (mX5_kingReaches_V1 mF mR ww i2 i1)), (8, .int (nI i2 - 1)), (6, .int (zI some2)), (7, .int (nI i1 - 1)), (0, .ref md), (1, .int kd), (2, .int ww), (3, .int wm), (4, .int wb), (5, .int dd)] → W p l e ({ frames := 3, cells := 0, slots := 0, locals := 75 } : Room) s m args below meth c s.heap [] 0 0 (MQ below (et_QP (some (.int (zI ((mX5_kingReaches mF mR tb kd ww wm wb dd)))))) args s 0 0 et_no) (F0 m 99 ls [.int (zI (mX5_kingReaches_V2 mF mR tb kd ww wm wb dd i2 some2 i1))]) := by
              intro ls hl
              refine lv_istore (lv' := [(6, .int (zI (mX5_kingReaches_V2 mF mR tb kd ww wm wb dd i2 some2 i1))), (9, .int (mX5_kingReaches_V1 mF mR ww i2 i1)), (8, .int (nI i2 - 1)), (7, .int (nI i1 - 1)), (0, .ref md), (1, .int kd), (2, .int ww), (3, .int wm), (4, .int wb), (5, .int dd)]) hx hb dX5_kingReaches_99 hl (by decide) rfl (fun ls hl => ?_)
              refine lv_iinc (v := nI (i2 + 1) - 1) (lv' := [(8, .int (nI (i2 + 1) - 1)), (6, .int (zI (mX5_kingReaches_V2 mF mR tb kd ww wm wb dd i2 some2 i1))), (9, .int (mX5_kingReaches_V1 mF mR ww i2 i1)), (7, .int (nI i1 - 1)), (0, .ref md), (1, .int kd), (2, .int ww), (3, .int wm), (4, .int wb), (5, .int dd)]) hx hb dX5_kingReaches_101 hl (k := 2) rfl (et_incM 1 i2) (by decide) rfl (fun ls hl => ?_)
              refine lv_goto (tgt := 15) hx hb dX5_kingReaches_104 (by decide) ?_
              exact ih2 (i2 + 1) (mX5_kingReaches_V2 mF mR tb kd ww wm wb dd i2 some2 i1) (by omega) ((by rw [mX5_kingReaches_L2] : mX5_kingReaches_L2 mF mR tb kd ww wm wb dd i1 (k2 + 1) i2 some2 = mX5_kingReaches_L2 mF mR tb kd ww wm wb dd i1 k2 (i2 + 1) (mX5_kingReaches_V2 mF mR tb kd ww wm wb dd i2 some2 i1)).symm.trans hm) ls (lv_sub hl [0, 1, 3, 4, 5, 6, 7, 8, 9] rfl)
            refine lv_iload hx hb dX5_kingReaches_46 (lv_at hl 2 rfl) ?_
            refine lv_if_ne (tgt := 94) hx hb dX5_kingReaches_48 (by decide) (fun c_5 => ?_) (fun c_5 => ?_)
            ·
              refine lv_iconst (v := (1 : Int32)) hx hb dX5_kingReaches_94 (by decide) ?_
              refine lv_goto (tgt := 99) hx hb dX5_kingReaches_95 (by decide) ?_
              have he3 : (true : Bool) = (mX5_kingReaches_V2 mF mR tb kd ww wm wb dd i2 some2 i1) := (by rw [mX5_kingReaches_V2, if_neg c_5])
              exact et_stki (congrArg zI he3) (hj2 ls (lv_sub hl [0, 1, 2, 3, 4, 5, 6, 7, 8, 9] rfl))
            ·
              refine lv_iload hx hb dX5_kingReaches_51 (lv_at hl 0 rfl) ?_
              refine lv_if_lt (tgt := 98) hx hb dX5_kingReaches_53 (by decide) (fun c_6 => ?_) (fun c_6 => ?_)
              ·
                refine lv_iconst (v := (0 : Int32)) hx hb dX5_kingReaches_98 (by decide) ?_
                have he4 : (false : Bool) = (mX5_kingReaches_V2 mF mR tb kd ww wm wb dd i2 some2 i1) := (by rw [mX5_kingReaches_V2, if_pos c_5, if_pos c_6])
                exact et_stki (congrArg zI he4) (hj2 ls (lv_sub hl [0, 1, 2, 3, 4, 5, 6, 7, 8, 9] rfl))
              ·
                refine lv_iload hx hb dX5_kingReaches_56 (lv_at hl 0 rfl) ?_
                refine lv_iload_n hx hb dX5_kingReaches_58 rfl (lv_at hl 7 rfl) ?_
                refine lv_icmp_eq (tgt := 98) hx hb dX5_kingReaches_59 (by decide) (fun c_7 => ?_) (fun c_7 => ?_)
                ·
                  refine lv_iconst (v := (0 : Int32)) hx hb dX5_kingReaches_98 (by decide) ?_
                  have he5 : (false : Bool) = (mX5_kingReaches_V2 mF mR tb kd ww wm wb dd i2 some2 i1) := (by rw [mX5_kingReaches_V2, if_pos c_5, if_neg c_6, if_pos c_7])
                  exact et_stki (congrArg zI he5) (hj2 ls (lv_sub hl [0, 1, 2, 3, 4, 5, 6, 7, 8, 9] rfl))
                ·
                  refine lv_iload hx hb dX5_kingReaches_62 (lv_at hl 0 rfl) ?_
                  refine lv_iload hx hb dX5_kingReaches_64 (lv_at hl 8 rfl) ?_
                  refine lv_icmp_eq (tgt := 98) hx hb dX5_kingReaches_66 (by decide) (fun c_8 => ?_) (fun c_8 => ?_)
                  ·
                    refine lv_iconst (v := (0 : Int32)) hx hb dX5_kingReaches_98 (by decide) ?_
                    have he6 : (false : Bool) = (mX5_kingReaches_V2 mF mR tb kd ww wm wb dd i2 some2 i1) := (by rw [mX5_kingReaches_V2, if_pos c_5, if_neg c_6, if_neg c_7, if_pos c_8])
                    exact et_stki (congrArg zI he6) (hj2 ls (lv_sub hl [0, 1, 2, 3, 4, 5, 6, 7, 8, 9] rfl))
                  ·
                    refine lv_iload hx hb dX5_kingReaches_69 (lv_at hl 0 rfl) ?_
                    refine lv_iload hx hb dX5_kingReaches_71 (lv_at hl 8 rfl) ?_
                    refine et_callP1 (v := .int (zI (mX5_isNext (mX5_kingReaches_V1 mF mR ww i2 i1) wb))) (va_runS (As := [.int (mX5_kingReaches_V1 mF mR ww i2 i1), .int wb]) (rest := []) ⟨hx, hb, hml, hown, hts⟩ (c_X5_isNext l g (mX5_kingReaches_V1 mF mR ww i2 i1) wb) (va_cwS 2 hts (W0_gS w_800 w_801 w_82 w_802) rfl rfl rfl (by decide +kernel) ⟨Nat.le_of_ble_eq_true rfl, Nat.le_of_ble_eq_true rfl⟩) (et_preS hP hC [] rfl) rfl rfl hl.1 rfl (lv_room (Nat.le_of_ble_eq_true rfl)) dX5_kingReaches_73 ⟨Nat.le_of_ble_eq_true rfl, Nat.le_of_ble_eq_true rfl⟩) ?_
                    refine lv_if_ne (tgt := 98) hx hb dX5_kingReaches_76 (by decide) (fun c_9 => ?_) (fun c_9 => ?_)
                    ·
                      refine lv_iconst (v := (0 : Int32)) hx hb dX5_kingReaches_98 (by decide) ?_
                      have he7 : (false : Bool) = (mX5_kingReaches_V2 mF mR tb kd ww wm wb dd i2 some2 i1) := (by rw [mX5_kingReaches_V2, if_pos c_5, if_neg c_6, if_neg c_7, if_neg c_8, if_neg c_9])
                      exact et_stki (congrArg zI he7) (hj2 ls (lv_sub hl [0, 1, 2, 3, 4, 5, 6, 7, 8, 9] rfl))
                    ·
                      refine lv_aload_n hx hb dX5_kingReaches_79 rfl (lv_at hl 4 rfl) ?_
                      refine lv_iload_n hx hb dX5_kingReaches_80 rfl (lv_at hl 5 rfl) ?_
                      refine lv_iload hx hb dX5_kingReaches_81 (lv_at hl 0 rfl) ?_
                      refine lv_iload_n hx hb dX5_kingReaches_83 rfl (lv_at hl 7 rfl) ?_
                      refine lv_iload hx hb dX5_kingReaches_84 (lv_at hl 8 rfl) ?_
                      refine lv_iload hx hb dX5_kingReaches_86 (lv_at hl 9 rfl) ?_
                      refine et_callP1 (v := .int (zI (mX5_reaches tb kd (mX5_kingReaches_V1 mF mR ww i2 i1) wm wb dd))) (va_runV (As := [.int kd, .int (mX5_kingReaches_V1 mF mR ww i2 i1), .int wm, .int wb, .int dd]) (rest := []) ⟨hx, hb, hml, hown, hts⟩ (c_X5_reaches l g md r1 r2 r3 r4 mF mR th tb bu gr mt mk mw mm mb ms ml my kd (mX5_kingReaches_V1 mF mR ww i2 i1) wm wb dd (by assumption) (et_m1_r (et_kingV hF hR) (by assumption)) (by assumption) (by assumption)) (cwV 5 hts (W0_gV w_858 w_860 w_64 w_82 w_861) rfl rfl rfl (by decide +kernel) ⟨Nat.le_of_ble_eq_true rfl, Nat.le_of_ble_eq_true rfl⟩) (et_preV hP hC [0, 1, 2, 3, 4] rfl (ci := 5) (q0 := 0) rfl rfl) rfl rfl hl.1 rfl (lv_room (Nat.le_of_ble_eq_true rfl)) dX5_kingReaches_88 ⟨Nat.le_of_ble_eq_true rfl, Nat.le_of_ble_eq_true rfl⟩) ?_
                      refine lv_if_eq (tgt := 98) hx hb dX5_kingReaches_91 (by decide) (fun c_10 => ?_) (fun c_10 => ?_)
                      ·
                        refine lv_iconst (v := (0 : Int32)) hx hb dX5_kingReaches_98 (by decide) ?_
                        have he8 : (false : Bool) = (mX5_kingReaches_V2 mF mR tb kd ww wm wb dd i2 some2 i1) := (by rw [mX5_kingReaches_V2, if_pos c_5, if_neg c_6, if_neg c_7, if_neg c_8, if_pos c_9, if_pos c_10])
                        exact et_stki (congrArg zI he8) (hj2 ls (lv_sub hl [0, 1, 2, 3, 4, 5, 6, 7, 8, 9] rfl))
                      ·
                        refine lv_iconst (v := (1 : Int32)) hx hb dX5_kingReaches_94 (by decide) ?_
                        refine lv_goto (tgt := 99) hx hb dX5_kingReaches_95 (by decide) ?_
                        have he9 : (true : Bool) = (mX5_kingReaches_V2 mF mR tb kd ww wm wb dd i2 some2 i1) := (by rw [mX5_kingReaches_V2, if_pos c_5, if_neg c_6, if_neg c_7, if_neg c_8, if_pos c_9, if_neg c_10])
                        exact et_stki (congrArg zI he9) (hj2 ls (lv_sub hl [0, 1, 2, 3, 4, 5, 6, 7, 8, 9] rfl))
          refine lv_iload hx hb dX5_kingReaches_21 (lv_at hl 2 rfl) ?_
          refine lv_if_ne (tgt := 35) hx hb dX5_kingReaches_23 (by decide) (fun c_11 => ?_) (fun c_11 => ?_)
          ·
            refine lv_aload_n hx hb dX5_kingReaches_35 rfl (lv_at hl 3 rfl) ?_
            refine lv_iload_n hx hb dX5_kingReaches_36 rfl (lv_at hl 5 rfl) ?_
            refine lv_iload hx hb dX5_kingReaches_37 (lv_at hl 2 rfl) ?_
            refine lv_iload hx hb dX5_kingReaches_39 (lv_at hl 0 rfl) ?_
            refine et_callP1 (v := .int (mX5_step mF mR ww (nI i1 - 1) (nI i2 - 1))) (va_runV (As := [.int ww, .int (nI i1 - 1), .int (nI i2 - 1)]) (rest := []) ⟨hx, hb, hml, hown, hts⟩ (c_X5_step l g md r1 r2 r3 r4 mF mR th tb bu gr mt mk mw mm mb ms ml my ww (nI i1 - 1) (nI i2 - 1)) (cwV 3 hts (W0_gV w_813 w_815 w_54 w_82 w_816) rfl rfl rfl (by decide +kernel) ⟨Nat.le_of_ble_eq_true rfl, Nat.le_of_ble_eq_true rfl⟩) (et_preV hP hC [0, 1, 2, 3, 4] rfl (ci := 5) (q0 := 0) rfl rfl) rfl rfl hl.1 rfl (lv_room (Nat.le_of_ble_eq_true rfl)) dX5_kingReaches_41 ⟨Nat.le_of_ble_eq_true rfl, Nat.le_of_ble_eq_true rfl⟩) ?_
            have he10 : ((mX5_step mF mR ww (nI i1 - 1) (nI i2 - 1)) : Int32) = (mX5_kingReaches_V1 mF mR ww i2 i1) := (by rw [mX5_kingReaches_V1, if_neg c_11])
            exact et_stki he10 (hj1 ls (lv_sub hl [0, 1, 2, 3, 4, 5, 6, 7, 8] rfl))
          ·
            refine lv_iload hx hb dX5_kingReaches_26 (lv_at hl 0 rfl) ?_
            refine lv_if_ne (tgt := 35) hx hb dX5_kingReaches_28 (by decide) (fun c_12 => ?_) (fun c_12 => ?_)
            ·
              refine lv_aload_n hx hb dX5_kingReaches_35 rfl (lv_at hl 3 rfl) ?_
              refine lv_iload_n hx hb dX5_kingReaches_36 rfl (lv_at hl 5 rfl) ?_
              refine lv_iload hx hb dX5_kingReaches_37 (lv_at hl 2 rfl) ?_
              refine lv_iload hx hb dX5_kingReaches_39 (lv_at hl 0 rfl) ?_
              refine et_callP1 (v := .int (mX5_step mF mR ww (nI i1 - 1) (nI i2 - 1))) (va_runV (As := [.int ww, .int (nI i1 - 1), .int (nI i2 - 1)]) (rest := []) ⟨hx, hb, hml, hown, hts⟩ (c_X5_step l g md r1 r2 r3 r4 mF mR th tb bu gr mt mk mw mm mb ms ml my ww (nI i1 - 1) (nI i2 - 1)) (cwV 3 hts (W0_gV w_813 w_815 w_54 w_82 w_816) rfl rfl rfl (by decide +kernel) ⟨Nat.le_of_ble_eq_true rfl, Nat.le_of_ble_eq_true rfl⟩) (et_preV hP hC [0, 1, 2, 3, 4] rfl (ci := 5) (q0 := 0) rfl rfl) rfl rfl hl.1 rfl (lv_room (Nat.le_of_ble_eq_true rfl)) dX5_kingReaches_41 ⟨Nat.le_of_ble_eq_true rfl, Nat.le_of_ble_eq_true rfl⟩) ?_
              have he11 : ((mX5_step mF mR ww (nI i1 - 1) (nI i2 - 1)) : Int32) = (mX5_kingReaches_V1 mF mR ww i2 i1) := (by rw [mX5_kingReaches_V1, if_pos c_11, if_neg c_12])
              exact et_stki he11 (hj1 ls (lv_sub hl [0, 1, 2, 3, 4, 5, 6, 7, 8] rfl))
            ·
              refine lv_iconst (v := (-1 : Int32)) hx hb dX5_kingReaches_31 (by decide) ?_
              refine lv_goto (tgt := 44) hx hb dX5_kingReaches_32 (by decide) ?_
              have he12 : ((-1 : Int32) : Int32) = (mX5_kingReaches_V1 mF mR ww i2 i1) := (by rw [mX5_kingReaches_V1, if_pos c_11, if_pos c_12])
              exact et_stki he12 (hj1 ls (lv_sub hl [0, 1, 2, 3, 4, 5, 6, 7, 8] rfl))
      exact hL2 3 0 some1 (by omega) rfl ls (by rw [show (nI 0 - 1 : Int32) = (-1 : Int32) from (by decide)]; exact lv_sub hl [0, 2, 1, 3, 4, 5, 6, 7, 8] rfl)
  exact hL1 3 0 false (by omega) rfl ls (by rw [show (nI 0 - 1 : Int32) = (-1 : Int32) from (by decide)]; exact lv_sub hl [0, 1, 2, 3, 4, 5, 6, 7] rfl)
