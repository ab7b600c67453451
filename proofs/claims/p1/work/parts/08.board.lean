def mX0_bit (cell : Int32) : Int64 :=
  if cell < 0 then
    (0 : Int64)
  else
    if cell ≤ (63 : Int32) then
      (1 : Int64) <<< (cell.toInt64 &&& 63)
    else
      (0 : Int64)
set_option maxHeartbeats 4000000 in
set_option maxRecDepth 100000 in
theorem c_X0_bit (l : Launch) (g : et_G) (cell : Int32)  : Met l yX0_bit (Cond.code yX0_bit cX0_bit 1 (some (.long)) :: W0) ({ frames := 0, cells := 0, slots := 0, locals := 0 } : Room) (et_Pc g ([]) [.int cell]) (et_QP (some (.long ((mX0_bit cell))))) 0 0 et_no := by
  refine et_startP (by decide) rfl (Nat.le_of_ble_eq_true rfl) ?_
  intro p e s m args below meth c hx hb hr hts0 hown hlocks hml hP hC ls hl
  have hts : ∀ w ∈ W0, w.before args s = true := fun w h => hts0 w (List.mem_cons_of_mem _ h)
  have hown : s.vm.findClass RX0 = some m.cls := hown
  have hl : lv_has ls 1 [(0, .int cell)] := hl
  refine lv_iload_n hx hb dX0_bit_0 rfl (lv_at hl 0 rfl) ?_
  refine lv_if_lt (tgt := 10) hx hb dX0_bit_1 (by decide) (fun c_1 => ?_) (fun c_1 => ?_)
  ·
    refine lv_lconst (v := (0 : Int64)) hx hb dX0_bit_10 rfl ?_
    refine lv_goto (tgt := 17) hx hb dX0_bit_11 (by decide) ?_
    have hfin : (0 : Int64) = (mX0_bit cell) := (by rw [mX0_bit, if_pos c_1])
    exact et_lret hx hb hr hlocks dX0_bit_17 (hfin)
  ·
    refine lv_iload_n hx hb dX0_bit_4 rfl (lv_at hl 0 rfl) ?_
    refine lv_bipush (v := (63 : Int32)) hx hb dX0_bit_5 (by decide) ?_
    refine lv_icmp_le (tgt := 14) hx hb dX0_bit_7 (by decide) (fun c_2 => ?_) (fun c_2 => ?_)
    ·
      refine lv_lconst (v := (1 : Int64)) hx hb dX0_bit_14 rfl ?_
      refine lv_iload_n hx hb dX0_bit_15 rfl (lv_at hl 0 rfl) ?_
      refine lv_lshl (v := (1 : Int64) <<< (cell.toInt64 &&& 63)) hx hb dX0_bit_16 rfl ?_
      have hfin : (1 : Int64) <<< (cell.toInt64 &&& 63) = (mX0_bit cell) := (by rw [mX0_bit, if_neg c_1, if_pos c_2])
      exact et_lret hx hb hr hlocks dX0_bit_17 (hfin)
    ·
      refine lv_lconst (v := (0 : Int64)) hx hb dX0_bit_10 rfl ?_
      refine lv_goto (tgt := 17) hx hb dX0_bit_11 (by decide) ?_
      have hfin : (0 : Int64) = (mX0_bit cell) := (by rw [mX0_bit, if_neg c_1, if_neg c_2])
      exact et_lret hx hb hr hlocks dX0_bit_17 (hfin)

def mX4_isMan (kind : Int32) : Bool :=
  if kind < (1 : Int32) then
    false
  else
    if (5 : Int32) < kind then
      false
    else
      true
set_option maxHeartbeats 4000000 in
set_option maxRecDepth 100000 in
theorem c_X4_isMan (l : Launch) (g : et_G) (kind : Int32)  : Met l yX4_isMan (Cond.code yX4_isMan cX4_isMan 1 (some (.boolean)) :: W0) ({ frames := 0, cells := 0, slots := 0, locals := 0 } : Room) (et_Pc g ([]) [.int kind]) (et_QP (some (.int (zI ((mX4_isMan kind)))))) 0 0 et_no := by
  refine et_startP (by decide) rfl (Nat.le_of_ble_eq_true rfl) ?_
  intro p e s m args below meth c hx hb hr hts0 hown hlocks hml hP hC ls hl
  have hts : ∀ w ∈ W0, w.before args s = true := fun w h => hts0 w (List.mem_cons_of_mem _ h)
  have hown : s.vm.findClass RX4 = some m.cls := hown
  have hl : lv_has ls 1 [(0, .int kind)] := hl
  refine lv_iload_n hx hb dX4_isMan_0 rfl (lv_at hl 0 rfl) ?_
  refine lv_iconst (v := (1 : Int32)) hx hb dX4_isMan_1 (by decide) ?_
  refine lv_icmp_lt (tgt := 14) hx hb dX4_isMan_2 (by decide) (fun c_1 => ?_) (fun c_1 => ?_)
  ·
    refine lv_iconst (v := (0 : Int32)) hx hb dX4_isMan_14 (by decide) ?_
    have hfin : false = (mX4_isMan kind) := (by rw [mX4_isMan, if_pos c_1])
    exact et_zret hx hb hr hlocks dX4_isMan_15 (congrArg zI (hfin))
  ·
    refine lv_iload_n hx hb dX4_isMan_5 rfl (lv_at hl 0 rfl) ?_
    refine lv_iconst (v := (5 : Int32)) hx hb dX4_isMan_6 (by decide) ?_
    refine lv_icmp_gt (tgt := 14) hx hb dX4_isMan_7 (by decide) (fun c_2 => ?_) (fun c_2 => ?_)
    ·
      refine lv_iconst (v := (0 : Int32)) hx hb dX4_isMan_14 (by decide) ?_
      have hfin : false = (mX4_isMan kind) := (by rw [mX4_isMan, if_neg c_1, if_pos c_2])
      exact et_zret hx hb hr hlocks dX4_isMan_15 (congrArg zI (hfin))
    ·
      refine lv_iconst (v := (1 : Int32)) hx hb dX4_isMan_10 (by decide) ?_
      refine lv_goto (tgt := 15) hx hb dX4_isMan_11 (by decide) ?_
      have hfin : true = (mX4_isMan kind) := (by rw [mX4_isMan, if_neg c_1, if_neg c_2])
      exact et_zret hx hb hr hlocks dX4_isMan_15 (congrArg zI (hfin))

def mX4_isSide (side : Int32) : Bool :=
  if side = 0 then
    true
  else
    if side = (1 : Int32) then
      true
    else
      false
set_option maxHeartbeats 4000000 in
set_option maxRecDepth 100000 in
theorem c_X4_isSide (l : Launch) (g : et_G) (side : Int32)  : Met l yX4_isSide (Cond.code yX4_isSide cX4_isSide 1 (some (.boolean)) :: W0) ({ frames := 0, cells := 0, slots := 0, locals := 0 } : Room) (et_Pc g ([]) [.int side]) (et_QP (some (.int (zI ((mX4_isSide side)))))) 0 0 et_no := by
  refine et_startP (by decide) rfl (Nat.le_of_ble_eq_true rfl) ?_
  intro p e s m args below meth c hx hb hr hts0 hown hlocks hml hP hC ls hl
  have hts : ∀ w ∈ W0, w.before args s = true := fun w h => hts0 w (List.mem_cons_of_mem _ h)
  have hown : s.vm.findClass RX4 = some m.cls := hown
  have hl : lv_has ls 1 [(0, .int side)] := hl
  refine lv_iload_n hx hb dX4_isSide_0 rfl (lv_at hl 0 rfl) ?_
  refine lv_if_eq (tgt := 9) hx hb dX4_isSide_1 (by decide) (fun c_1 => ?_) (fun c_1 => ?_)
  ·
    refine lv_iconst (v := (1 : Int32)) hx hb dX4_isSide_9 (by decide) ?_
    refine lv_goto (tgt := 14) hx hb dX4_isSide_10 (by decide) ?_
    have hfin : true = (mX4_isSide side) := (by rw [mX4_isSide, if_pos c_1])
    exact et_zret hx hb hr hlocks dX4_isSide_14 (congrArg zI (hfin))
  ·
    refine lv_iload_n hx hb dX4_isSide_4 rfl (lv_at hl 0 rfl) ?_
    refine lv_iconst (v := (1 : Int32)) hx hb dX4_isSide_5 (by decide) ?_
    refine lv_icmp_ne (tgt := 13) hx hb dX4_isSide_6 (by decide) (fun c_2 => ?_) (fun c_2 => ?_)
    ·
      refine lv_iconst (v := (0 : Int32)) hx hb dX4_isSide_13 (by decide) ?_
      have hfin : false = (mX4_isSide side) := (by rw [mX4_isSide, if_neg c_1, if_neg c_2])
      exact et_zret hx hb hr hlocks dX4_isSide_14 (congrArg zI (hfin))
    ·
      refine lv_iconst (v := (1 : Int32)) hx hb dX4_isSide_9 (by decide) ?_
      refine lv_goto (tgt := 14) hx hb dX4_isSide_10 (by decide) ?_
      have hfin : true = (mX4_isSide side) := (by rw [mX4_isSide, if_neg c_1, if_pos c_2])
      exact et_zret hx hb hr hlocks dX4_isSide_14 (congrArg zI (hfin))

def mX0_fit (length : Int32) : Int32 :=
  if length < (3 : Int32) then
    (8 : Int32)
  else
    if length ≤ (8 : Int32) then
      length
    else
      (8 : Int32)
set_option maxHeartbeats 4000000 in
set_option maxRecDepth 100000 in
theorem c_X0_fit (l : Launch) (g : et_G) (length : Int32)  : Met l yX0_fit (Cond.code yX0_fit cX0_fit 1 (some (.int)) :: W0) ({ frames := 0, cells := 0, slots := 0, locals := 0 } : Room) (et_Pc g ([]) [.int length]) (et_QP (some (.int ((mX0_fit length))))) 0 0 et_no := by
  refine et_startP (by decide) rfl (Nat.le_of_ble_eq_true rfl) ?_
  intro p e s m args below meth c hx hb hr hts0 hown hlocks hml hP hC ls hl
  have hts : ∀ w ∈ W0, w.before args s = true := fun w h => hts0 w (List.mem_cons_of_mem _ h)
  have hown : s.vm.findClass RX0 = some m.cls := hown
  have hl : lv_has ls 1 [(0, .int length)] := hl
  refine lv_iload_n hx hb dX0_fit_0 rfl (lv_at hl 0 rfl) ?_
  refine lv_iconst (v := (3 : Int32)) hx hb dX0_fit_1 (by decide) ?_
  refine lv_icmp_lt (tgt := 11) hx hb dX0_fit_2 (by decide) (fun c_1 => ?_) (fun c_1 => ?_)
  ·
    refine lv_bipush (v := (8 : Int32)) hx hb dX0_fit_11 (by decide) ?_
    refine lv_goto (tgt := 17) hx hb dX0_fit_13 (by decide) ?_
    have hfin : (8 : Int32) = (mX0_fit length) := (by rw [mX0_fit, if_pos c_1])
    exact et_iret hx hb hr hlocks dX0_fit_17 (hfin)
  ·
    refine lv_iload_n hx hb dX0_fit_5 rfl (lv_at hl 0 rfl) ?_
    refine lv_bipush (v := (8 : Int32)) hx hb dX0_fit_6 (by decide) ?_
    refine lv_icmp_le (tgt := 16) hx hb dX0_fit_8 (by decide) (fun c_2 => ?_) (fun c_2 => ?_)
    ·
      refine lv_iload_n hx hb dX0_fit_16 rfl (lv_at hl 0 rfl) ?_
      have hfin : length = (mX0_fit length) := (by rw [mX0_fit, if_neg c_1, if_pos c_2])
      exact et_iret hx hb hr hlocks dX0_fit_17 (hfin)
    ·
      refine lv_bipush (v := (8 : Int32)) hx hb dX0_fit_11 (by decide) ?_
      refine lv_goto (tgt := 17) hx hb dX0_fit_13 (by decide) ?_
      have hfin : (8 : Int32) = (mX0_fit length) := (by rw [mX0_fit, if_neg c_1, if_neg c_2])
      exact et_iret hx hb hr hlocks dX0_fit_17 (hfin)

def mX0_cellAt (FI : Int32) (RI : Int32) (file : Int32) (rank : Int32) : Int32 :=
  if file < 0 then
    (-1 : Int32)
  else
    if FI ≤ file then
      (-1 : Int32)
    else
      if rank < 0 then
        (-1 : Int32)
      else
        if RI ≤ rank then
          (-1 : Int32)
        else
          file + (FI * rank)
set_option maxHeartbeats 4000000 in
set_option maxRecDepth 100000 in
theorem c_X0_cellAt (l : Launch) (g : et_G) (b : Nat) (q1 : Nat) (q2 : Nat) (FI : Int32) (RI : Int32) (n : Nat) (al : Int64) (ff : Int64) (lf : Int64) (sqf : Nat → Int32) (stf : Nat → Int32) (file : Int32) (rank : Int32)  : Met l yX0_cellAt (Cond.code yX0_cellAt cX0_cellAt 4 (some (.int)) :: W0) ({ frames := 0, cells := 0, slots := 0, locals := 0 } : Room) (et_Pc g ([(b, .inr (0, [.int FI, .int RI, .int (nI n), .ref q1, .ref q2, .long al, .long ff, .long lf])), (q1, .inl (gI g, n, .inl sqf)), (q2, .inl (gI g, 16 * n, .inl stf))]) [.ref b, .int file, .int rank]) (et_QP (some (.int ((mX0_cellAt FI RI file rank))))) 0 0 et_no := by
  refine et_startP (by decide) rfl (Nat.le_of_ble_eq_true rfl) ?_
  intro p e s m args below meth c hx hb hr hts0 hown hlocks hml hP hC ls hl
  have hts : ∀ w ∈ W0, w.before args s = true := fun w h => hts0 w (List.mem_cons_of_mem _ h)
  have hown : s.vm.findClass RX0 = some m.cls := hown
  have hl : lv_has ls 4 [(0, .ref b), (1, .int file), (2, .int rank)] := hl
  refine lv_iload_n hx hb dX0_cellAt_0 rfl (lv_at hl 1 rfl) ?_
  refine lv_if_lt (tgt := 28) hx hb dX0_cellAt_1 (by decide) (fun c_1 => ?_) (fun c_1 => ?_)
  ·
    refine lv_iconst (v := (0 : Int32)) hx hb dX0_cellAt_28 (by decide) ?_
    refine lv_istore_n (lv' := [(3, .int (0 : Int32)), (0, .ref b), (1, .int file), (2, .int rank)]) hx hb dX0_cellAt_29 rfl hl (by decide) rfl (fun ls hl => ?_)
    refine lv_iload_n hx hb dX0_cellAt_30 rfl (lv_at hl 0 rfl) ?_
    refine lv_if_eq (tgt := 45) hx hb dX0_cellAt_31 (by decide) (fun c_2 => ?_) (fun c_2 => ?_)
    rotate_left
    · exact absurd c_2 (by decide)
    refine lv_iconst (v := (-1 : Int32)) hx hb dX0_cellAt_45 (by decide) ?_
    have hfin : (-1 : Int32) = (mX0_cellAt FI RI file rank) := (by rw [mX0_cellAt, if_pos c_1])
    exact et_iret hx hb hr hlocks dX0_cellAt_46 (hfin)
  ·
    refine lv_iload_n hx hb dX0_cellAt_4 rfl (lv_at hl 1 rfl) ?_
    refine lv_aload_n hx hb dX0_cellAt_5 rfl (lv_at hl 0 rfl) ?_
    refine va_get (D := gD g) (ci := 0) (v := .int FI) (C := RX0) (T := TX0) (N := 8) hx hb hts inW_X0 hown hC.1 hP 0 rfl rfl 0 (by decide) (hts _ w_123) (fun _ h9 => h9) rfl dX0_cellAt_6 ?_
    refine lv_icmp_ge (tgt := 28) hx hb dX0_cellAt_9 (by decide) (fun c_3 => ?_) (fun c_3 => ?_)
    ·
      refine lv_iconst (v := (0 : Int32)) hx hb dX0_cellAt_28 (by decide) ?_
      refine lv_istore_n (lv' := [(3, .int (0 : Int32)), (0, .ref b), (1, .int file), (2, .int rank)]) hx hb dX0_cellAt_29 rfl hl (by decide) rfl (fun ls hl => ?_)
      refine lv_iload_n hx hb dX0_cellAt_30 rfl (lv_at hl 0 rfl) ?_
      refine lv_if_eq (tgt := 45) hx hb dX0_cellAt_31 (by decide) (fun c_4 => ?_) (fun c_4 => ?_)
      rotate_left
      · exact absurd c_4 (by decide)
      refine lv_iconst (v := (-1 : Int32)) hx hb dX0_cellAt_45 (by decide) ?_
      have hfin : (-1 : Int32) = (mX0_cellAt FI RI file rank) := (by rw [mX0_cellAt, if_neg c_1, if_pos c_3])
      exact et_iret hx hb hr hlocks dX0_cellAt_46 (hfin)
    ·
      refine lv_iload_n hx hb dX0_cellAt_12 rfl (lv_at hl 2 rfl) ?_
      refine lv_if_lt (tgt := 28) hx hb dX0_cellAt_13 (by decide) (fun c_5 => ?_) (fun c_5 => ?_)
      ·
        refine lv_iconst (v := (0 : Int32)) hx hb dX0_cellAt_28 (by decide) ?_
        refine lv_istore_n (lv' := [(3, .int (0 : Int32)), (0, .ref b), (1, .int file), (2, .int rank)]) hx hb dX0_cellAt_29 rfl hl (by decide) rfl (fun ls hl => ?_)
        refine lv_iload_n hx hb dX0_cellAt_30 rfl (lv_at hl 0 rfl) ?_
        refine lv_if_eq (tgt := 45) hx hb dX0_cellAt_31 (by decide) (fun c_6 => ?_) (fun c_6 => ?_)
        rotate_left
        · exact absurd c_6 (by decide)
        refine lv_iconst (v := (-1 : Int32)) hx hb dX0_cellAt_45 (by decide) ?_
        have hfin : (-1 : Int32) = (mX0_cellAt FI RI file rank) := (by rw [mX0_cellAt, if_neg c_1, if_neg c_3, if_pos c_5])
        exact et_iret hx hb hr hlocks dX0_cellAt_46 (hfin)
      ·
        refine lv_iload_n hx hb dX0_cellAt_16 rfl (lv_at hl 2 rfl) ?_
        refine lv_aload_n hx hb dX0_cellAt_17 rfl (lv_at hl 0 rfl) ?_
        refine va_get (D := gD g) (ci := 0) (v := .int RI) (C := RX0) (T := TX0) (N := 8) hx hb hts inW_X0 hown hC.1 hP 0 rfl rfl 1 (by decide) (hts _ w_125) (fun _ h9 => h9) rfl dX0_cellAt_18 ?_
        refine lv_icmp_ge (tgt := 28) hx hb dX0_cellAt_21 (by decide) (fun c_7 => ?_) (fun c_7 => ?_)
        ·
          refine lv_iconst (v := (0 : Int32)) hx hb dX0_cellAt_28 (by decide) ?_
          refine lv_istore_n (lv' := [(3, .int (0 : Int32)), (0, .ref b), (1, .int file), (2, .int rank)]) hx hb dX0_cellAt_29 rfl hl (by decide) rfl (fun ls hl => ?_)
          refine lv_iload_n hx hb dX0_cellAt_30 rfl (lv_at hl 0 rfl) ?_
          refine lv_if_eq (tgt := 45) hx hb dX0_cellAt_31 (by decide) (fun c_8 => ?_) (fun c_8 => ?_)
          rotate_left
          · exact absurd c_8 (by decide)
          refine lv_iconst (v := (-1 : Int32)) hx hb dX0_cellAt_45 (by decide) ?_
          have hfin : (-1 : Int32) = (mX0_cellAt FI RI file rank) := (by rw [mX0_cellAt, if_neg c_1, if_neg c_3, if_neg c_5, if_pos c_7])
          exact et_iret hx hb hr hlocks dX0_cellAt_46 (hfin)
        ·
          refine lv_iconst (v := (1 : Int32)) hx hb dX0_cellAt_24 (by decide) ?_
          refine lv_goto (tgt := 29) hx hb dX0_cellAt_25 (by decide) ?_
          refine lv_istore_n (lv' := [(3, .int (1 : Int32)), (0, .ref b), (1, .int file), (2, .int rank)]) hx hb dX0_cellAt_29 rfl hl (by decide) rfl (fun ls hl => ?_)
          refine lv_iload_n hx hb dX0_cellAt_30 rfl (lv_at hl 0 rfl) ?_
          refine lv_if_eq (tgt := 45) hx hb dX0_cellAt_31 (by decide) (fun c_9 => ?_) (fun c_9 => ?_)
          · exact absurd c_9 (by decide)
          refine lv_iload_n hx hb dX0_cellAt_34 rfl (lv_at hl 2 rfl) ?_
          refine lv_aload_n hx hb dX0_cellAt_35 rfl (lv_at hl 1 rfl) ?_
          refine va_get (D := gD g) (ci := 0) (v := .int FI) (C := RX0) (T := TX0) (N := 8) hx hb hts inW_X0 hown hC.1 hP 0 rfl rfl 0 (by decide) (hts _ w_123) (fun _ h9 => h9) rfl dX0_cellAt_36 ?_
          refine lv_iload_n hx hb dX0_cellAt_39 rfl (lv_at hl 3 rfl) ?_
          refine lv_imul hx hb dX0_cellAt_40 ?_
          refine lv_iadd hx hb dX0_cellAt_41 ?_
          refine lv_goto (tgt := 46) hx hb dX0_cellAt_42 (by decide) ?_
          have hfin : file + (FI * rank) = (mX0_cellAt FI RI file rank) := (by rw [mX0_cellAt, if_neg c_1, if_neg c_3, if_neg c_5, if_neg c_7])
          exact et_iret hx hb hr hlocks dX0_cellAt_46 (hfin)

def mX0_cellOf (FI : Int32) (RI : Int32) (square : Int32) : Int32 :=
  if square < 0 then
    (-1 : Int32)
  else
    if square ≤ (63 : Int32) then
      (mX0_cellAt FI RI (square &&& (7 : Int32)) (square >>> ((3 : Int32) &&& 31)))
    else
      (-1 : Int32)
set_option maxHeartbeats 4000000 in
set_option maxRecDepth 100000 in
theorem c_X0_cellOf (l : Launch) (g : et_G) (b : Nat) (q1 : Nat) (q2 : Nat) (FI : Int32) (RI : Int32) (n : Nat) (al : Int64) (ff : Int64) (lf : Int64) (sqf : Nat → Int32) (stf : Nat → Int32) (square : Int32)  : Met l yX0_cellOf (Cond.code yX0_cellOf cX0_cellOf 2 (some (.int)) :: W0) ({ frames := 1, cells := 0, slots := 0, locals := 23 } : Room) (et_Pc g ([(b, .inr (0, [.int FI, .int RI, .int (nI n), .ref q1, .ref q2, .long al, .long ff, .long lf])), (q1, .inl (gI g, n, .inl sqf)), (q2, .inl (gI g, 16 * n, .inl stf))]) [.ref b, .int square]) (et_QP (some (.int ((mX0_cellOf FI RI square))))) 0 0 et_no := by
  refine et_startP (by decide) rfl (Nat.le_of_ble_eq_true rfl) ?_
  intro p e s m args below meth c hx hb hr hts0 hown hlocks hml hP hC ls hl
  have hts : ∀ w ∈ W0, w.before args s = true := fun w h => hts0 w (List.mem_cons_of_mem _ h)
  have hown : s.vm.findClass RX0 = some m.cls := hown
  have hl : lv_has ls 2 [(0, .ref b), (1, .int square)] := hl
  refine lv_iload_n hx hb dX0_cellOf_0 rfl (lv_at hl 1 rfl) ?_
  refine lv_if_lt (tgt := 10) hx hb dX0_cellOf_1 (by decide) (fun c_1 => ?_) (fun c_1 => ?_)
  ·
    refine lv_iconst (v := (-1 : Int32)) hx hb dX0_cellOf_10 (by decide) ?_
    refine lv_goto (tgt := 25) hx hb dX0_cellOf_11 (by decide) ?_
    have hfin : (-1 : Int32) = (mX0_cellOf FI RI square) := (by rw [mX0_cellOf, if_pos c_1])
    exact et_iret hx hb hr hlocks dX0_cellOf_25 (hfin)
  ·
    refine lv_iload_n hx hb dX0_cellOf_4 rfl (lv_at hl 1 rfl) ?_
    refine lv_bipush (v := (63 : Int32)) hx hb dX0_cellOf_5 (by decide) ?_
    refine lv_icmp_le (tgt := 14) hx hb dX0_cellOf_7 (by decide) (fun c_2 => ?_) (fun c_2 => ?_)
    ·
      refine lv_aload_n hx hb dX0_cellOf_14 rfl (lv_at hl 0 rfl) ?_
      refine lv_iload_n hx hb dX0_cellOf_15 rfl (lv_at hl 1 rfl) ?_
      refine lv_bipush (v := (7 : Int32)) hx hb dX0_cellOf_16 (by decide) ?_
      refine lv_iand hx hb dX0_cellOf_18 ?_
      refine lv_iload_n hx hb dX0_cellOf_19 rfl (lv_at hl 1 rfl) ?_
      refine lv_iconst (v := (3 : Int32)) hx hb dX0_cellOf_20 (by decide) ?_
      refine lv_ishr hx hb dX0_cellOf_21 ?_
      refine et_callP1 (v := .int (mX0_cellAt FI RI (square &&& (7 : Int32)) (square >>> ((3 : Int32) &&& 31)))) (va_runV (As := [.int (square &&& (7 : Int32)), .int (square >>> ((3 : Int32) &&& 31))]) (rest := []) ⟨hx, hb, hml, hown, hts⟩ (c_X0_cellAt l g b q1 q2 FI RI n al ff lf sqf stf (square &&& (7 : Int32)) (square >>> ((3 : Int32) &&& 31))) (cwV 2 hts (W0_gV w_114 w_116 w_1 w_77 w_117) rfl rfl rfl (by decide +kernel) ⟨Nat.le_of_ble_eq_true rfl, Nat.le_of_ble_eq_true rfl⟩) (et_preV hP hC [0, 1, 2] rfl (ci := 0) (q0 := 0) rfl rfl) rfl rfl hl.1 rfl (lv_room (Nat.le_of_ble_eq_true rfl)) dX0_cellOf_22 ⟨Nat.le_of_ble_eq_true rfl, Nat.le_of_ble_eq_true rfl⟩) ?_
      have hfin : (mX0_cellAt FI RI (square &&& (7 : Int32)) (square >>> ((3 : Int32) &&& 31))) = (mX0_cellOf FI RI square) := (by rw [mX0_cellOf, if_neg c_1, if_pos c_2])
      exact et_iret hx hb hr hlocks dX0_cellOf_25 (hfin)
    ·
      refine lv_iconst (v := (-1 : Int32)) hx hb dX0_cellOf_10 (by decide) ?_
      refine lv_goto (tgt := 25) hx hb dX0_cellOf_11 (by decide) ?_
      have hfin : (-1 : Int32) = (mX0_cellOf FI RI square) := (by rw [mX0_cellOf, if_neg c_1, if_neg c_2])
      exact et_iret hx hb hr hlocks dX0_cellOf_25 (hfin)

def mX0_squareOf (n : Nat) (sqf : Nat → Int32) (cell : Int32) : Int32 :=
  if cell < 0 then
    (0 : Int32)
  else
    if cell < (nI n) then
      sqf cell.toNatClampNeg
    else
      (0 : Int32)
set_option maxHeartbeats 4000000 in
set_option maxRecDepth 100000 in
theorem c_X0_squareOf (l : Launch) (g : et_G) (b : Nat) (q1 : Nat) (q2 : Nat) (FI : Int32) (RI : Int32) (n : Nat) (al : Int64) (ff : Int64) (lf : Int64) (sqf : Nat → Int32) (stf : Nat → Int32) (cell : Int32) (hn : n ≤ 64) : Met l yX0_squareOf (Cond.code yX0_squareOf cX0_squareOf 2 (some (.int)) :: W0) ({ frames := 0, cells := 0, slots := 0, locals := 0 } : Room) (et_Pc g ([(b, .inr (0, [.int FI, .int RI, .int (nI n), .ref q1, .ref q2, .long al, .long ff, .long lf])), (q1, .inl (gI g, n, .inl sqf)), (q2, .inl (gI g, 16 * n, .inl stf))]) [.ref b, .int cell]) (et_QP (some (.int ((mX0_squareOf n sqf cell))))) 0 0 et_no := by
  refine et_startP (by decide) rfl (Nat.le_of_ble_eq_true rfl) ?_
  intro p e s m args below meth c hx hb hr hts0 hown hlocks hml hP hC ls hl
  have hts : ∀ w ∈ W0, w.before args s = true := fun w h => hts0 w (List.mem_cons_of_mem _ h)
  have hown : s.vm.findClass RX0 = some m.cls := hown
  have hl : lv_has ls 2 [(0, .ref b), (1, .int cell)] := hl
  refine lv_iload_n hx hb dX0_squareOf_0 rfl (lv_at hl 1 rfl) ?_
  refine lv_if_lt (tgt := 12) hx hb dX0_squareOf_1 (by decide) (fun c_1 => ?_) (fun c_1 => ?_)
  ·
    refine lv_iconst (v := (0 : Int32)) hx hb dX0_squareOf_12 (by decide) ?_
    refine lv_goto (tgt := 22) hx hb dX0_squareOf_13 (by decide) ?_
    have hfin : (0 : Int32) = (mX0_squareOf n sqf cell) := (by rw [mX0_squareOf, if_pos c_1])
    exact et_iret hx hb hr hlocks dX0_squareOf_22 (hfin)
  ·
    refine lv_iload_n hx hb dX0_squareOf_4 rfl (lv_at hl 1 rfl) ?_
    refine lv_aload_n hx hb dX0_squareOf_5 rfl (lv_at hl 0 rfl) ?_
    refine va_get (D := gD g) (ci := 0) (v := .int (nI n)) (C := RX0) (T := TX0) (N := 8) hx hb hts inW_X0 hown hC.1 hP 0 rfl rfl 2 (by decide) (hts _ w_130) (fun _ h9 => h9) rfl dX0_squareOf_6 ?_
    refine lv_icmp_lt (tgt := 16) hx hb dX0_squareOf_9 (by decide) (fun c_2 => ?_) (fun c_2 => ?_)
    ·
      refine lv_aload_n hx hb dX0_squareOf_16 rfl (lv_at hl 0 rfl) ?_
      refine va_get (D := gD g) (ci := 0) (v := .ref q1) (C := RX0) (T := TX0) (N := 8) hx hb hts inW_X0 hown hC.1 hP 0 rfl rfl 3 (by decide) (hts _ w_132) (fun _ h9 => h9) rfl dX0_squareOf_17 ?_
      refine lv_iload_n hx hb dX0_squareOf_20 rfl (lv_at hl 1 rfl) ?_
      refine va_iald (D := gD g) hx hb hC.1 hP 1 0 rfl rfl (by first | exact et_in (N := n) (by assumption) (by assumption) (by omega) | exact et_in2 (N := n) (by assumption) (by assumption) (by omega)) dX0_squareOf_21 ?_
      have hfin : sqf cell.toNatClampNeg = (mX0_squareOf n sqf cell) := (by rw [mX0_squareOf, if_neg c_1, if_pos c_2])
      exact et_iret hx hb hr hlocks dX0_squareOf_22 (hfin)
    ·
      refine lv_iconst (v := (0 : Int32)) hx hb dX0_squareOf_12 (by decide) ?_
      refine lv_goto (tgt := 22) hx hb dX0_squareOf_13 (by decide) ?_
      have hfin : (0 : Int32) = (mX0_squareOf n sqf cell) := (by rw [mX0_squareOf, if_neg c_1, if_neg c_2])
      exact et_iret hx hb hr hlocks dX0_squareOf_22 (hfin)

def mX0_rankOf (n : Nat) (sqf : Nat → Int32) (cell : Int32) : Int32 :=
  (mX0_squareOf n sqf cell) >>> ((3 : Int32) &&& 31)
set_option maxHeartbeats 4000000 in
set_option maxRecDepth 100000 in
theorem c_X0_rankOf (l : Launch) (g : et_G) (b : Nat) (q1 : Nat) (q2 : Nat) (FI : Int32) (RI : Int32) (n : Nat) (al : Int64) (ff : Int64) (lf : Int64) (sqf : Nat → Int32) (stf : Nat → Int32) (cell : Int32) (hn : n ≤ 64) : Met l yX0_rankOf (Cond.code yX0_rankOf cX0_rankOf 2 (some (.int)) :: W0) ({ frames := 1, cells := 0, slots := 0, locals := 21 } : Room) (et_Pc g ([(b, .inr (0, [.int FI, .int RI, .int (nI n), .ref q1, .ref q2, .long al, .long ff, .long lf])), (q1, .inl (gI g, n, .inl sqf)), (q2, .inl (gI g, 16 * n, .inl stf))]) [.ref b, .int cell]) (et_QP (some (.int ((mX0_rankOf n sqf cell))))) 0 0 et_no := by
  refine et_startP (by decide) rfl (Nat.le_of_ble_eq_true rfl) ?_
  intro p e s m args below meth c hx hb hr hts0 hown hlocks hml hP hC ls hl
  have hts : ∀ w ∈ W0, w.before args s = true := fun w h => hts0 w (List.mem_cons_of_mem _ h)
  have hown : s.vm.findClass RX0 = some m.cls := hown
  have hl : lv_has ls 2 [(0, .ref b), (1, .int cell)] := hl
  refine lv_aload_n hx hb dX0_rankOf_0 rfl (lv_at hl 0 rfl) ?_
  refine lv_iload_n hx hb dX0_rankOf_1 rfl (lv_at hl 1 rfl) ?_
  refine et_callP1 (v := .int (mX0_squareOf n sqf cell)) (va_runV (As := [.int cell]) (rest := []) ⟨hx, hb, hml, hown, hts⟩ (c_X0_squareOf l g b q1 q2 FI RI n al ff lf sqf stf cell (by assumption)) (cwV 1 hts (W0_gV w_307 w_309 w_8 w_77 w_310) rfl rfl rfl (by decide +kernel) ⟨Nat.le_of_ble_eq_true rfl, Nat.le_of_ble_eq_true rfl⟩) (et_preV hP hC [0, 1, 2] rfl (ci := 0) (q0 := 0) rfl rfl) rfl rfl hl.1 rfl (lv_room (Nat.le_of_ble_eq_true rfl)) dX0_rankOf_2 ⟨Nat.le_of_ble_eq_true rfl, Nat.le_of_ble_eq_true rfl⟩) ?_
  refine lv_iconst (v := (3 : Int32)) hx hb dX0_rankOf_5 (by decide) ?_
  refine lv_ishr hx hb dX0_rankOf_6 ?_
  have hfin : (mX0_squareOf n sqf cell) >>> ((3 : Int32) &&& 31) = (mX0_rankOf n sqf cell) := (by rw [mX0_rankOf])
  exact et_iret hx hb hr hlocks dX0_rankOf_7 (hfin)

theorem et_step_in {cell way : Int32} {n : Nat} (hn : n ≤ 64) (h1 : ¬ cell < 0) (h2 : ¬ nI n ≤ cell) (h3 : ¬ way < 0) (h4 : way < 16) : vp_in (way * nI n + cell) (16 * n) := by
  rcases pk_ix cell (n := n) (by omega) with h | h | ⟨j, hj, rfl⟩
  · exact absurd h h1
  · exact absurd h h2
  · rcases pk_ix way (n := 16) (by omega) with h | h | ⟨w, hw, rfl⟩
    · exact absurd h h3
    · exact absurd h4 (Int32.not_lt.mpr h)
    · rw [pk_mul, nI_add]
      have h5 : w * n ≤ 15 * n := Nat.mul_le_mul_right n (by omega)
      exact vp_in_nI (by omega) (by omega)

def mX0_step (n : Nat) (stf : Nat → Int32) (cell : Int32) (way : Int32) : Int32 :=
  if cell < 0 then
    (-1 : Int32)
  else
    if (nI n) ≤ cell then
      (-1 : Int32)
    else
      if way < 0 then
        (-1 : Int32)
      else
        if way < (16 : Int32) then
          stf ((way * (nI n)) + cell).toNatClampNeg
        else
          (-1 : Int32)
set_option maxHeartbeats 4000000 in
set_option maxRecDepth 100000 in
theorem c_X0_step (l : Launch) (g : et_G) (b : Nat) (q1 : Nat) (q2 : Nat) (FI : Int32) (RI : Int32) (n : Nat) (al : Int64) (ff : Int64) (lf : Int64) (sqf : Nat → Int32) (stf : Nat → Int32) (cell : Int32) (way : Int32) (hn : n ≤ 64) : Met l yX0_step (Cond.code yX0_step cX0_step 3 (some (.int)) :: W0) ({ frames := 0, cells := 0, slots := 0, locals := 0 } : Room) (et_Pc g ([(b, .inr (0, [.int FI, .int RI, .int (nI n), .ref q1, .ref q2, .long al, .long ff, .long lf])), (q1, .inl (gI g, n, .inl sqf)), (q2, .inl (gI g, 16 * n, .inl stf))]) [.ref b, .int cell, .int way]) (et_QP (some (.int ((mX0_step n stf cell way))))) 0 0 et_no := by
  refine et_startP (by decide) rfl (Nat.le_of_ble_eq_true rfl) ?_
  intro p e s m args below meth c hx hb hr hts0 hown hlocks hml hP hC ls hl
  have hts : ∀ w ∈ W0, w.before args s = true := fun w h => hts0 w (List.mem_cons_of_mem _ h)
  have hown : s.vm.findClass RX0 = some m.cls := hown
  have hl : lv_has ls 3 [(0, .ref b), (1, .int cell), (2, .int way)] := hl
  refine lv_iload_n hx hb dX0_step_0 rfl (lv_at hl 1 rfl) ?_
  refine lv_if_lt (tgt := 22) hx hb dX0_step_1 (by decide) (fun c_1 => ?_) (fun c_1 => ?_)
  ·
    refine lv_iconst (v := (-1 : Int32)) hx hb dX0_step_22 (by decide) ?_
    have hfin : (-1 : Int32) = (mX0_step n stf cell way) := (by rw [mX0_step, if_pos c_1])
    exact et_iret hx hb hr hlocks dX0_step_23 (hfin)
  ·
    refine lv_iload_n hx hb dX0_step_4 rfl (lv_at hl 1 rfl) ?_
    refine lv_aload_n hx hb dX0_step_5 rfl (lv_at hl 0 rfl) ?_
    refine va_get (D := gD g) (ci := 0) (v := .int (nI n)) (C := RX0) (T := TX0) (N := 8) hx hb hts inW_X0 hown hC.1 hP 0 rfl rfl 2 (by decide) (hts _ w_130) (fun _ h9 => h9) rfl dX0_step_6 ?_
    refine lv_icmp_ge (tgt := 22) hx hb dX0_step_9 (by decide) (fun c_2 => ?_) (fun c_2 => ?_)
    ·
      refine lv_iconst (v := (-1 : Int32)) hx hb dX0_step_22 (by decide) ?_
      have hfin : (-1 : Int32) = (mX0_step n stf cell way) := (by rw [mX0_step, if_neg c_1, if_pos c_2])
      exact et_iret hx hb hr hlocks dX0_step_23 (hfin)
    ·
      refine lv_iload_n hx hb dX0_step_12 rfl (lv_at hl 2 rfl) ?_
      refine lv_if_lt (tgt := 22) hx hb dX0_step_13 (by decide) (fun c_3 => ?_) (fun c_3 => ?_)
      ·
        refine lv_iconst (v := (-1 : Int32)) hx hb dX0_step_22 (by decide) ?_
        have hfin : (-1 : Int32) = (mX0_step n stf cell way) := (by rw [mX0_step, if_neg c_1, if_neg c_2, if_pos c_3])
        exact et_iret hx hb hr hlocks dX0_step_23 (hfin)
      ·
        refine lv_iload_n hx hb dX0_step_16 rfl (lv_at hl 2 rfl) ?_
        refine lv_bipush (v := (16 : Int32)) hx hb dX0_step_17 (by decide) ?_
        refine lv_icmp_lt (tgt := 24) hx hb dX0_step_19 (by decide) (fun c_4 => ?_) (fun c_4 => ?_)
        ·
          refine lv_aload_n hx hb dX0_step_24 rfl (lv_at hl 0 rfl) ?_
          refine va_get (D := gD g) (ci := 0) (v := .ref q2) (C := RX0) (T := TX0) (N := 8) hx hb hts inW_X0 hown hC.1 hP 0 rfl rfl 4 (by decide) (hts _ w_133) (fun _ h9 => h9) rfl dX0_step_25 ?_
          refine lv_iload_n hx hb dX0_step_28 rfl (lv_at hl 2 rfl) ?_
          refine lv_aload_n hx hb dX0_step_29 rfl (lv_at hl 0 rfl) ?_
          refine va_get (D := gD g) (ci := 0) (v := .int (nI n)) (C := RX0) (T := TX0) (N := 8) hx hb hts inW_X0 hown hC.1 hP 0 rfl rfl 2 (by decide) (hts _ w_130) (fun _ h9 => h9) rfl dX0_step_30 ?_
          refine lv_imul hx hb dX0_step_33 ?_
          refine lv_iload_n hx hb dX0_step_34 rfl (lv_at hl 1 rfl) ?_
          refine lv_iadd hx hb dX0_step_35 ?_
          refine va_iald (D := gD g) hx hb hC.1 hP 2 0 rfl rfl (et_step_in hn (by assumption) (by assumption) (by assumption) (by assumption)) dX0_step_36 ?_
          have hfin : stf ((way * (nI n)) + cell).toNatClampNeg = (mX0_step n stf cell way) := (by rw [mX0_step, if_neg c_1, if_neg c_2, if_neg c_3, if_pos c_4])
          exact et_iret hx hb hr hlocks dX0_step_37 (hfin)
        ·
          refine lv_iconst (v := (-1 : Int32)) hx hb dX0_step_22 (by decide) ?_
          have hfin : (-1 : Int32) = (mX0_step n stf cell way) := (by rw [mX0_step, if_neg c_1, if_neg c_2, if_neg c_3, if_neg c_4])
          exact et_iret hx hb hr hlocks dX0_step_23 (hfin)

def mX0_nextTo (FI : Int32) (al : Int64) (ff : Int64) (lf : Int64) (set : Int64) : Int64 :=
  ((((((set &&& (ff ^^^ (-1 : Int64))).toUInt64 >>> ((1 : Int32).toInt64.toUInt64 &&& Int64.toUInt64 63)).toInt64) ||| ((set &&& (lf ^^^ (-1 : Int64))) <<< ((1 : Int32).toInt64 &&& 63))) ||| (((set ||| (((set &&& (ff ^^^ (-1 : Int64))).toUInt64 >>> ((1 : Int32).toInt64.toUInt64 &&& Int64.toUInt64 63)).toInt64)) ||| ((set &&& (lf ^^^ (-1 : Int64))) <<< ((1 : Int32).toInt64 &&& 63))) <<< (FI.toInt64 &&& 63))) ||| ((((set ||| (((set &&& (ff ^^^ (-1 : Int64))).toUInt64 >>> ((1 : Int32).toInt64.toUInt64 &&& Int64.toUInt64 63)).toInt64)) ||| ((set &&& (lf ^^^ (-1 : Int64))) <<< ((1 : Int32).toInt64 &&& 63))).toUInt64 >>> (FI.toInt64.toUInt64 &&& Int64.toUInt64 63)).toInt64)) &&& al
set_option maxHeartbeats 4000000 in
set_option maxRecDepth 100000 in
theorem c_X0_nextTo (l : Launch) (g : et_G) (b : Nat) (q1 : Nat) (q2 : Nat) (FI : Int32) (RI : Int32) (n : Nat) (al : Int64) (ff : Int64) (lf : Int64) (sqf : Nat → Int32) (stf : Nat → Int32) (set : Int64)  : Met l yX0_nextTo (Cond.code yX0_nextTo cX0_nextTo 9 (some (.long)) :: W0) ({ frames := 0, cells := 0, slots := 0, locals := 0 } : Room) (et_Pc g ([(b, .inr (0, [.int FI, .int RI, .int (nI n), .ref q1, .ref q2, .long al, .long ff, .long lf])), (q1, .inl (gI g, n, .inl sqf)), (q2, .inl (gI g, 16 * n, .inl stf))]) [.ref b, .long set]) (et_QP (some (.long ((mX0_nextTo FI al ff lf set))))) 0 0 et_no := by
  refine et_startP (by decide) rfl (Nat.le_of_ble_eq_true rfl) ?_
  intro p e s m args below meth c hx hb hr hts0 hown hlocks hml hP hC ls hl
  have hts : ∀ w ∈ W0, w.before args s = true := fun w h => hts0 w (List.mem_cons_of_mem _ h)
  have hown : s.vm.findClass RX0 = some m.cls := hown
  have hl : lv_has ls 9 [(0, .ref b), (1, .long set)] := hl
  refine lv_lload_n hx hb dX0_nextTo_0 rfl (lv_at hl 1 rfl) ?_
  refine lv_aload_n hx hb dX0_nextTo_1 rfl (lv_at hl 0 rfl) ?_
  refine va_get (D := gD g) (ci := 0) (v := .long ff) (C := RX0) (T := TX0) (N := 8) hx hb hts inW_X0 hown hC.1 hP 0 rfl rfl 6 (by decide) (hts _ w_135) (fun _ h9 => h9) rfl dX0_nextTo_2 ?_
  refine lv_ldc2 hx hb hown (hts _ w_122) dX0_nextTo_5 ?_
  refine lv_lxor hx hb dX0_nextTo_8 ?_
  refine lv_land hx hb dX0_nextTo_9 ?_
  refine lv_iconst (v := (1 : Int32)) hx hb dX0_nextTo_10 (by decide) ?_
  refine lv_lushr (v := ((set &&& (ff ^^^ (-1 : Int64))).toUInt64 >>> ((1 : Int32).toInt64.toUInt64 &&& Int64.toUInt64 63)).toInt64) hx hb dX0_nextTo_11 rfl ?_
  refine lv_lstore_n (lv' := [(3, .long (((set &&& (ff ^^^ (-1 : Int64))).toUInt64 >>> ((1 : Int32).toInt64.toUInt64 &&& Int64.toUInt64 63)).toInt64)), (0, .ref b), (1, .long set)]) hx hb dX0_nextTo_12 rfl hl (by decide) rfl (fun ls hl => ?_)
  refine lv_lload_n hx hb dX0_nextTo_13 rfl (lv_at hl 2 rfl) ?_
  refine lv_aload_n hx hb dX0_nextTo_14 rfl (lv_at hl 1 rfl) ?_
  refine va_get (D := gD g) (ci := 0) (v := .long lf) (C := RX0) (T := TX0) (N := 8) hx hb hts inW_X0 hown hC.1 hP 0 rfl rfl 7 (by decide) (hts _ w_136) (fun _ h9 => h9) rfl dX0_nextTo_15 ?_
  refine lv_ldc2 hx hb hown (hts _ w_122) dX0_nextTo_18 ?_
  refine lv_lxor hx hb dX0_nextTo_21 ?_
  refine lv_land hx hb dX0_nextTo_22 ?_
  refine lv_iconst (v := (1 : Int32)) hx hb dX0_nextTo_23 (by decide) ?_
  refine lv_lshl (v := (set &&& (lf ^^^ (-1 : Int64))) <<< ((1 : Int32).toInt64 &&& 63)) hx hb dX0_nextTo_24 rfl ?_
  refine lv_lstore (lv' := [(5, .long ((set &&& (lf ^^^ (-1 : Int64))) <<< ((1 : Int32).toInt64 &&& 63))), (3, .long (((set &&& (ff ^^^ (-1 : Int64))).toUInt64 >>> ((1 : Int32).toInt64.toUInt64 &&& Int64.toUInt64 63)).toInt64)), (0, .ref b), (1, .long set)]) hx hb dX0_nextTo_25 hl (by decide) rfl (fun ls hl => ?_)
  refine lv_lload_n hx hb dX0_nextTo_27 rfl (lv_at hl 3 rfl) ?_
  refine lv_lload_n hx hb dX0_nextTo_28 rfl (lv_at hl 1 rfl) ?_
  refine lv_lor hx hb dX0_nextTo_29 ?_
  refine lv_lload hx hb dX0_nextTo_30 (lv_at hl 0 rfl) ?_
  refine lv_lor hx hb dX0_nextTo_32 ?_
  refine lv_lstore (lv' := [(7, .long ((set ||| (((set &&& (ff ^^^ (-1 : Int64))).toUInt64 >>> ((1 : Int32).toInt64.toUInt64 &&& Int64.toUInt64 63)).toInt64)) ||| ((set &&& (lf ^^^ (-1 : Int64))) <<< ((1 : Int32).toInt64 &&& 63)))), (5, .long ((set &&& (lf ^^^ (-1 : Int64))) <<< ((1 : Int32).toInt64 &&& 63))), (3, .long (((set &&& (ff ^^^ (-1 : Int64))).toUInt64 >>> ((1 : Int32).toInt64.toUInt64 &&& Int64.toUInt64 63)).toInt64)), (0, .ref b), (1, .long set)]) hx hb dX0_nextTo_33 hl (by decide) rfl (fun ls hl => ?_)
  refine lv_lload_n hx hb dX0_nextTo_35 rfl (lv_at hl 2 rfl) ?_
  refine lv_lload hx hb dX0_nextTo_36 (lv_at hl 1 rfl) ?_
  refine lv_lor hx hb dX0_nextTo_38 ?_
  refine lv_lload hx hb dX0_nextTo_39 (lv_at hl 0 rfl) ?_
  refine lv_aload_n hx hb dX0_nextTo_41 rfl (lv_at hl 3 rfl) ?_
  refine va_get (D := gD g) (ci := 0) (v := .int FI) (C := RX0) (T := TX0) (N := 8) hx hb hts inW_X0 hown hC.1 hP 0 rfl rfl 0 (by decide) (hts _ w_123) (fun _ h9 => h9) rfl dX0_nextTo_42 ?_
  refine lv_lshl (v := ((set ||| (((set &&& (ff ^^^ (-1 : Int64))).toUInt64 >>> ((1 : Int32).toInt64.toUInt64 &&& Int64.toUInt64 63)).toInt64)) ||| ((set &&& (lf ^^^ (-1 : Int64))) <<< ((1 : Int32).toInt64 &&& 63))) <<< (FI.toInt64 &&& 63)) hx hb dX0_nextTo_45 rfl ?_
  refine lv_lor hx hb dX0_nextTo_46 ?_
  refine lv_lload hx hb dX0_nextTo_47 (lv_at hl 0 rfl) ?_
  refine lv_aload_n hx hb dX0_nextTo_49 rfl (lv_at hl 3 rfl) ?_
  refine va_get (D := gD g) (ci := 0) (v := .int FI) (C := RX0) (T := TX0) (N := 8) hx hb hts inW_X0 hown hC.1 hP 0 rfl rfl 0 (by decide) (hts _ w_123) (fun _ h9 => h9) rfl dX0_nextTo_50 ?_
  refine lv_lushr (v := (((set ||| (((set &&& (ff ^^^ (-1 : Int64))).toUInt64 >>> ((1 : Int32).toInt64.toUInt64 &&& Int64.toUInt64 63)).toInt64)) ||| ((set &&& (lf ^^^ (-1 : Int64))) <<< ((1 : Int32).toInt64 &&& 63))).toUInt64 >>> (FI.toInt64.toUInt64 &&& Int64.toUInt64 63)).toInt64) hx hb dX0_nextTo_53 rfl ?_
  refine lv_lor hx hb dX0_nextTo_54 ?_
  refine lv_aload_n hx hb dX0_nextTo_55 rfl (lv_at hl 3 rfl) ?_
  refine va_get (D := gD g) (ci := 0) (v := .long al) (C := RX0) (T := TX0) (N := 8) hx hb hts inW_X0 hown hC.1 hP 0 rfl rfl 5 (by decide) (hts _ w_134) (fun _ h9 => h9) rfl dX0_nextTo_56 ?_
  refine lv_land hx hb dX0_nextTo_59 ?_
  have hfin : ((((((set &&& (ff ^^^ (-1 : Int64))).toUInt64 >>> ((1 : Int32).toInt64.toUInt64 &&& Int64.toUInt64 63)).toInt64) ||| ((set &&& (lf ^^^ (-1 : Int64))) <<< ((1 : Int32).toInt64 &&& 63))) ||| (((set ||| (((set &&& (ff ^^^ (-1 : Int64))).toUInt64 >>> ((1 : Int32).toInt64.toUInt64 &&& Int64.toUInt64 63)).toInt64)) ||| ((set &&& (lf ^^^ (-1 : Int64))) <<< ((1 : Int32).toInt64 &&& 63))) <<< (FI.toInt64 &&& 63))) ||| ((((set ||| (((set &&& (ff ^^^ (-1 : Int64))).toUInt64 >>> ((1 : Int32).toInt64.toUInt64 &&& Int64.toUInt64 63)).toInt64)) ||| ((set &&& (lf ^^^ (-1 : Int64))) <<< ((1 : Int32).toInt64 &&& 63))).toUInt64 >>> (FI.toInt64.toUInt64 &&& Int64.toUInt64 63)).toInt64)) &&& al = (mX0_nextTo FI al ff lf set) := (by rw [mX0_nextTo])
  exact et_lret hx hb hr hlocks dX0_nextTo_60 (hfin)

def mX0_around (FI : Int32) (al : Int64) (ff : Int64) (lf : Int64) (cell : Int32) : Int64 :=
  (mX0_nextTo FI al ff lf (mX0_bit cell))
set_option maxHeartbeats 4000000 in
set_option maxRecDepth 100000 in
theorem c_X0_around (l : Launch) (g : et_G) (b : Nat) (q1 : Nat) (q2 : Nat) (FI : Int32) (RI : Int32) (n : Nat) (al : Int64) (ff : Int64) (lf : Int64) (sqf : Nat → Int32) (stf : Nat → Int32) (cell : Int32)  : Met l yX0_around (Cond.code yX0_around cX0_around 2 (some (.long)) :: W0) ({ frames := 1, cells := 0, slots := 0, locals := 28 } : Room) (et_Pc g ([(b, .inr (0, [.int FI, .int RI, .int (nI n), .ref q1, .ref q2, .long al, .long ff, .long lf])), (q1, .inl (gI g, n, .inl sqf)), (q2, .inl (gI g, 16 * n, .inl stf))]) [.ref b, .int cell]) (et_QP (some (.long ((mX0_around FI al ff lf cell))))) 0 0 et_no := by
  refine et_startP (by decide) rfl (Nat.le_of_ble_eq_true rfl) ?_
  intro p e s m args below meth c hx hb hr hts0 hown hlocks hml hP hC ls hl
  have hts : ∀ w ∈ W0, w.before args s = true := fun w h => hts0 w (List.mem_cons_of_mem _ h)
  have hown : s.vm.findClass RX0 = some m.cls := hown
  have hl : lv_has ls 2 [(0, .ref b), (1, .int cell)] := hl
  refine lv_aload_n hx hb dX0_around_0 rfl (lv_at hl 0 rfl) ?_
  refine lv_iload_n hx hb dX0_around_1 rfl (lv_at hl 1 rfl) ?_
  refine et_callP1 (v := .long (mX0_bit cell)) (va_runS (As := [.int cell]) (rest := [.ref b]) ⟨hx, hb, hml, hown, hts⟩ (c_X0_bit l g cell) (va_cwS 1 hts (W0_gS w_107 w_108 w_77 w_109) rfl rfl rfl (by decide +kernel) ⟨Nat.le_of_ble_eq_true rfl, Nat.le_of_ble_eq_true rfl⟩) (et_preS hP hC [] rfl) rfl rfl hl.1 rfl (lv_room (Nat.le_of_ble_eq_true rfl)) dX0_around_2 ⟨Nat.le_of_ble_eq_true rfl, Nat.le_of_ble_eq_true rfl⟩) ?_
  refine et_callP1 (v := .long (mX0_nextTo FI al ff lf (mX0_bit cell))) (va_runV (As := [.long (mX0_bit cell)]) (rest := []) ⟨hx, hb, hml, hown, hts⟩ (c_X0_nextTo l g b q1 q2 FI RI n al ff lf sqf stf (mX0_bit cell)) (cwV 1 hts (W0_gV w_315 w_317 w_10 w_77 w_318) rfl rfl rfl (by decide +kernel) ⟨Nat.le_of_ble_eq_true rfl, Nat.le_of_ble_eq_true rfl⟩) (et_preV hP hC [0, 1, 2] rfl (ci := 0) (q0 := 0) rfl rfl) rfl rfl hl.1 rfl (lv_room (Nat.le_of_ble_eq_true rfl)) dX0_around_5 ⟨Nat.le_of_ble_eq_true rfl, Nat.le_of_ble_eq_true rfl⟩) ?_
  have hfin : (mX0_nextTo FI al ff lf (mX0_bit cell)) = (mX0_around FI al ff lf cell) := (by rw [mX0_around])
  exact et_lret hx hb hr hlocks dX0_around_8 (hfin)

def mX0_firstWay (kind : Int32) : Int32 :=
  if kind = (2 : Int32) then
    (8 : Int32)
  else
    if kind = (3 : Int32) then
      (4 : Int32)
    else
      (0 : Int32)
set_option maxHeartbeats 4000000 in
set_option maxRecDepth 100000 in
theorem c_X0_firstWay (l : Launch) (g : et_G) (kind : Int32)  : Met l yX0_firstWay (Cond.code yX0_firstWay cX0_firstWay 1 (some (.int)) :: W0) ({ frames := 0, cells := 0, slots := 0, locals := 0 } : Room) (et_Pc g ([]) [.int kind]) (et_QP (some (.int ((mX0_firstWay kind))))) 0 0 et_no := by
  refine et_startP (by decide) rfl (Nat.le_of_ble_eq_true rfl) ?_
  intro p e s m args below meth c hx hb hr hts0 hown hlocks hml hP hC ls hl
  have hts : ∀ w ∈ W0, w.before args s = true := fun w h => hts0 w (List.mem_cons_of_mem _ h)
  have hown : s.vm.findClass RX0 = some m.cls := hown
  have hl : lv_has ls 1 [(0, .int kind)] := hl
  refine lv_iload_n hx hb dX0_firstWay_0 rfl (lv_at hl 0 rfl) ?_
  refine lv_iconst (v := (2 : Int32)) hx hb dX0_firstWay_1 (by decide) ?_
  refine lv_icmp_ne (tgt := 10) hx hb dX0_firstWay_2 (by decide) (fun c_1 => ?_) (fun c_1 => ?_)
  ·
    refine lv_iload_n hx hb dX0_firstWay_10 rfl (lv_at hl 0 rfl) ?_
    refine lv_iconst (v := (3 : Int32)) hx hb dX0_firstWay_11 (by decide) ?_
    refine lv_icmp_ne (tgt := 19) hx hb dX0_firstWay_12 (by decide) (fun c_2 => ?_) (fun c_2 => ?_)
    ·
      refine lv_iconst (v := (0 : Int32)) hx hb dX0_firstWay_19 (by decide) ?_
      have hfin : (0 : Int32) = (mX0_firstWay kind) := (by rw [mX0_firstWay, if_neg c_1, if_neg c_2])
      exact et_iret hx hb hr hlocks dX0_firstWay_20 (hfin)
    ·
      refine lv_iconst (v := (4 : Int32)) hx hb dX0_firstWay_15 (by decide) ?_
      refine lv_goto (tgt := 20) hx hb dX0_firstWay_16 (by decide) ?_
      have hfin : (4 : Int32) = (mX0_firstWay kind) := (by rw [mX0_firstWay, if_neg c_1, if_pos c_2])
      exact et_iret hx hb hr hlocks dX0_firstWay_20 (hfin)
  ·
    refine lv_bipush (v := (8 : Int32)) hx hb dX0_firstWay_5 (by decide) ?_
    refine lv_goto (tgt := 20) hx hb dX0_firstWay_7 (by decide) ?_
    have hfin : (8 : Int32) = (mX0_firstWay kind) := (by rw [mX0_firstWay, if_pos c_1])
    exact et_iret hx hb hr hlocks dX0_firstWay_20 (hfin)

def mX0_endOfWays (kind : Int32) : Int32 :=
  if kind = (2 : Int32) then
    (16 : Int32)
  else
    if kind = (3 : Int32) then
      (8 : Int32)
    else
      if kind = (4 : Int32) then
        (4 : Int32)
      else
        if kind = (5 : Int32) then
          (8 : Int32)
        else
          (0 : Int32)
set_option maxHeartbeats 4000000 in
set_option maxRecDepth 100000 in
theorem c_X0_endOfWays (l : Launch) (g : et_G) (kind : Int32)  : Met l yX0_endOfWays (Cond.code yX0_endOfWays cX0_endOfWays 1 (some (.int)) :: W0) ({ frames := 0, cells := 0, slots := 0, locals := 0 } : Room) (et_Pc g ([]) [.int kind]) (et_QP (some (.int ((mX0_endOfWays kind))))) 0 0 et_no := by
  refine et_startP (by decide) rfl (Nat.le_of_ble_eq_true rfl) ?_
  intro p e s m args below meth c hx hb hr hts0 hown hlocks hml hP hC ls hl
  have hts : ∀ w ∈ W0, w.before args s = true := fun w h => hts0 w (List.mem_cons_of_mem _ h)
  have hown : s.vm.findClass RX0 = some m.cls := hown
  have hl : lv_has ls 1 [(0, .int kind)] := hl
  refine lv_iload_n hx hb dX0_endOfWays_0 rfl (lv_at hl 0 rfl) ?_
  by_cases c_1 : kind = (2 : Int32)
  · refine lv_tableIn (tgt := 32) hx hb dX0_endOfWays_1 (by rw [c_1]; decide) (by rw [c_1]; decide) (off := 31) (by rw [c_1]; rfl) (by decide) ?_
    refine lv_bipush (v := (16 : Int32)) hx hb dX0_endOfWays_32 (by decide) ?_
    have hfin : (16 : Int32) = (mX0_endOfWays kind) := (by rw [mX0_endOfWays, if_pos c_1])
    exact et_iret hx hb hr hlocks dX0_endOfWays_34 (hfin)
  by_cases c_2 : kind = (3 : Int32)
  · refine lv_tableIn (tgt := 35) hx hb dX0_endOfWays_1 (by rw [c_2]; decide) (by rw [c_2]; decide) (off := 34) (by rw [c_2]; rfl) (by decide) ?_
    refine lv_bipush (v := (8 : Int32)) hx hb dX0_endOfWays_35 (by decide) ?_
    have hfin : (8 : Int32) = (mX0_endOfWays kind) := (by rw [mX0_endOfWays, if_neg c_1, if_pos c_2])
    exact et_iret hx hb hr hlocks dX0_endOfWays_37 (hfin)
  by_cases c_3 : kind = (4 : Int32)
  · refine lv_tableIn (tgt := 38) hx hb dX0_endOfWays_1 (by rw [c_3]; decide) (by rw [c_3]; decide) (off := 37) (by rw [c_3]; rfl) (by decide) ?_
    refine lv_iconst (v := (4 : Int32)) hx hb dX0_endOfWays_38 (by decide) ?_
    have hfin : (4 : Int32) = (mX0_endOfWays kind) := (by rw [mX0_endOfWays, if_neg c_1, if_neg c_2, if_pos c_3])
    exact et_iret hx hb hr hlocks dX0_endOfWays_39 (hfin)
  by_cases c_4 : kind = (5 : Int32)
  · refine lv_tableIn (tgt := 35) hx hb dX0_endOfWays_1 (by rw [c_4]; decide) (by rw [c_4]; decide) (off := 34) (by rw [c_4]; rfl) (by decide) ?_
    refine lv_bipush (v := (8 : Int32)) hx hb dX0_endOfWays_35 (by decide) ?_
    have hfin : (8 : Int32) = (mX0_endOfWays kind) := (by rw [mX0_endOfWays, if_neg c_1, if_neg c_2, if_neg c_3, if_pos c_4])
    exact et_iret hx hb hr hlocks dX0_endOfWays_37 (hfin)
  refine lv_tableOut (tgt := 40) hx hb dX0_endOfWays_1 (by have hc_1 := lv_neT c_1 (a := 2) (by decide); have hc_2 := lv_neT c_2 (a := 3) (by decide); have hc_3 := lv_neT c_3 (a := 4) (by decide); have hc_4 := lv_neT c_4 (a := 5) (by decide); omega) (by decide) ?_
  refine lv_iconst (v := (0 : Int32)) hx hb dX0_endOfWays_40 (by decide) ?_
  have hfin : (0 : Int32) = (mX0_endOfWays kind) := (by rw [mX0_endOfWays, if_neg c_1, if_neg c_2, if_neg c_3, if_neg c_4])
  exact et_iret hx hb hr hlocks dX0_endOfWays_41 (hfin)

def mX0_reach (kind : Int32) : Int32 :=
  if kind = (2 : Int32) then
    (1 : Int32)
  else
    (7 : Int32)
set_option maxHeartbeats 4000000 in
set_option maxRecDepth 100000 in
theorem c_X0_reach (l : Launch) (g : et_G) (kind : Int32)  : Met l yX0_reach (Cond.code yX0_reach cX0_reach 1 (some (.int)) :: W0) ({ frames := 0, cells := 0, slots := 0, locals := 0 } : Room) (et_Pc g ([]) [.int kind]) (et_QP (some (.int ((mX0_reach kind))))) 0 0 et_no := by
  refine et_startP (by decide) rfl (Nat.le_of_ble_eq_true rfl) ?_
  intro p e s m args below meth c hx hb hr hts0 hown hlocks hml hP hC ls hl
  have hts : ∀ w ∈ W0, w.before args s = true := fun w h => hts0 w (List.mem_cons_of_mem _ h)
  have hown : s.vm.findClass RX0 = some m.cls := hown
  have hl : lv_has ls 1 [(0, .int kind)] := hl
  refine lv_iload_n hx hb dX0_reach_0 rfl (lv_at hl 0 rfl) ?_
  refine lv_iconst (v := (2 : Int32)) hx hb dX0_reach_1 (by decide) ?_
  refine lv_icmp_ne (tgt := 9) hx hb dX0_reach_2 (by decide) (fun c_1 => ?_) (fun c_1 => ?_)
  ·
    refine lv_bipush (v := (7 : Int32)) hx hb dX0_reach_9 (by decide) ?_
    have hfin : (7 : Int32) = (mX0_reach kind) := (by rw [mX0_reach, if_neg c_1])
    exact et_iret hx hb hr hlocks dX0_reach_11 (hfin)
  ·
    refine lv_iconst (v := (1 : Int32)) hx hb dX0_reach_5 (by decide) ?_
    refine lv_goto (tgt := 11) hx hb dX0_reach_6 (by decide) ?_
    have hfin : (1 : Int32) = (mX0_reach kind) := (by rw [mX0_reach, if_pos c_1])
    exact et_iret hx hb hr hlocks dX0_reach_11 (hfin)

def mB_ways (kind : Int32) : Nat := (mX0_endOfWays kind - mX0_firstWay kind).toNatClampNeg
theorem et_wayc (kind : Int32) : (mX0_firstWay kind, mX0_endOfWays kind) = (8, 16) ∨ (mX0_firstWay kind, mX0_endOfWays kind) = (4, 8) ∨ (mX0_firstWay kind, mX0_endOfWays kind) = (0, 8) ∨ (mX0_firstWay kind, mX0_endOfWays kind) = (0, 4) ∨ (mX0_firstWay kind, mX0_endOfWays kind) = (0, 0) := by
  by_cases h2 : kind = 2
  · subst h2; decide
  by_cases h3 : kind = 3
  · subst h3; decide
  by_cases h4 : kind = 4
  · subst h4; decide
  by_cases h5 : kind = 5
  · subst h5; decide
  · simp [mX0_firstWay, mX0_endOfWays, h2, h3, h4, h5]
theorem et_wayT {kind : Int32} {i : Nat} (h : i = mB_ways kind) : mX0_endOfWays kind ≤ mX0_firstWay kind + nI i := by
  subst h
  unfold mB_ways
  rcases et_wayc kind with h | h | h | h | h <;> (simp only [Prod.mk.injEq] at h; rw [h.1, h.2]; decide)
theorem et_wayF {kind : Int32} {i : Nat} (h : i < mB_ways kind) : ¬ mX0_endOfWays kind ≤ mX0_firstWay kind + nI i := by
  unfold mB_ways at h
  rcases et_wayc kind with h1 | h1 | h1 | h1 | h1 <;> simp only [Prod.mk.injEq] at h1 <;> rw [h1.1, h1.2] at h ⊢
  · exact et_dec (P := fun i => ¬ (16 : Int32) ≤ 8 + nI i) (N := 8) (by decide +kernel) h
  · exact et_dec (P := fun i => ¬ (8 : Int32) ≤ 4 + nI i) (N := 4) (by decide +kernel) h
  · exact et_dec (P := fun i => ¬ (8 : Int32) ≤ 0 + nI i) (N := 8) (by decide +kernel) h
  · exact et_dec (P := fun i => ¬ (4 : Int32) ≤ 0 + nI i) (N := 4) (by decide +kernel) h
  · exact absurd h (Nat.not_lt_zero _)
theorem et_incA (a : Int32) (i : Nat) : a + nI i + Int32.ofInt 1 = a + nI (i + 1) := by
  rw [Int32.add_assoc, et_inc]

def mX0_attacked_L2 (n : Nat) (stf : Nat → Int32) (kind : Int32) (bars : Int64) (i1 : Nat) : Nat → Nat → Int32 → Int64 → Int32 × Int64
  | 0, i2, cell2, seen2 =>
    (cell2, seen2)
  | k2 + 1, i2, cell2, seen2 =>
    if (mX0_step n stf cell2 (mX0_firstWay kind + nI i1)) = (-1 : Int32) then
      ((mX0_step n stf cell2 (mX0_firstWay kind + nI i1)), seen2 ||| (mX0_bit (mX0_step n stf cell2 (mX0_firstWay kind + nI i1))))
    else
      if (lg_cmp (bars &&& (mX0_bit (mX0_step n stf cell2 (mX0_firstWay kind + nI i1)))) (0 : Int64)) = 0 then
        mX0_attacked_L2 n stf kind bars i1 k2 (i2 + 1) (mX0_step n stf cell2 (mX0_firstWay kind + nI i1)) (seen2 ||| (mX0_bit (mX0_step n stf cell2 (mX0_firstWay kind + nI i1))))
      else
        ((mX0_step n stf cell2 (mX0_firstWay kind + nI i1)), seen2 ||| (mX0_bit (mX0_step n stf cell2 (mX0_firstWay kind + nI i1))))
def mX0_attacked_L1 (n : Nat) (stf : Nat → Int32) (kind : Int32) (man : Int32) (bars : Int64) : Nat → Nat → Int64 → Int64
  | 0, i1, seen1 =>
    seen1
  | k1 + 1, i1, seen1 =>
    mX0_attacked_L1 n stf kind man bars k1 (i1 + 1) ((mX0_attacked_L2 n stf kind bars i1 ((mX0_reach kind).toNatClampNeg) 0 man seen1).2)
def mX0_attacked (n : Nat) (stf : Nat → Int32) (kind : Int32) (man : Int32) (bars : Int64) : Int64 :=
  if kind = (1 : Int32) then
    (mX0_bit (mX0_step n stf man (6 : Int32))) ||| (mX0_bit (mX0_step n stf man (7 : Int32)))
  else
    (mX0_attacked_L1 n stf kind man bars (mB_ways kind) 0 (0 : Int64))
set_option maxHeartbeats 4000000 in
set_option maxRecDepth 100000 in
theorem c_X0_attacked (l : Launch) (g : et_G) (b : Nat) (q1 : Nat) (q2 : Nat) (FI : Int32) (RI : Int32) (n : Nat) (al : Int64) (ff : Int64) (lf : Int64) (sqf : Nat → Int32) (stf : Nat → Int32) (kind : Int32) (man : Int32) (bars : Int64) (hn : n ≤ 64) : Met l yX0_attacked (Cond.code yX0_attacked cX0_attacked 11 (some (.long)) :: W0) ({ frames := 1, cells := 0, slots := 0, locals := 22 } : Room) (et_Pc g ([(b, .inr (0, [.int FI, .int RI, .int (nI n), .ref q1, .ref q2, .long al, .long ff, .long lf])), (q1, .inl (gI g, n, .inl sqf)), (q2, .inl (gI g, 16 * n, .inl stf))]) [.ref b, .int kind, .int man, .long bars]) (et_QP (some (.long ((mX0_attacked n stf kind man bars))))) 0 0 et_no := by
  refine et_startP (by decide) rfl (Nat.le_of_ble_eq_true rfl) ?_
  intro p e s m args below meth c hx hb hr hts0 hown hlocks hml hP hC ls hl
  have hts : ∀ w ∈ W0, w.before args s = true := fun w h => hts0 w (List.mem_cons_of_mem _ h)
  have hown : s.vm.findClass RX0 = some m.cls := hown
  have hl : lv_has ls 11 [(0, .ref b), (1, .int kind), (2, .int man), (3, .long bars)] := hl
  refine lv_iload_n hx hb dX0_attacked_0 rfl (lv_at hl 1 rfl) ?_
  refine lv_iconst (v := (1 : Int32)) hx hb dX0_attacked_1 (by decide) ?_
  refine lv_icmp_ne (tgt := 27) hx hb dX0_attacked_2 (by decide) (fun c_1 => ?_) (fun c_1 => ?_)
  ·
    refine lv_lconst (v := (0 : Int64)) hx hb dX0_attacked_27 rfl ?_
    refine lv_lstore (lv' := [(5, .long (0 : Int64)), (0, .ref b), (1, .int kind), (2, .int man), (3, .long bars)]) hx hb dX0_attacked_28 hl (by decide) rfl (fun ls hl => ?_)
    refine lv_iload_n hx hb dX0_attacked_30 rfl (lv_at hl 2 rfl) ?_
    refine et_callP1 (v := .int (mX0_reach kind)) (va_runS (As := [.int kind]) (rest := []) ⟨hx, hb, hml, hown, hts⟩ (c_X0_reach l g kind) (va_cwS 1 hts (W0_gS w_331 w_332 w_77 w_333) rfl rfl rfl (by decide +kernel) ⟨Nat.le_of_ble_eq_true rfl, Nat.le_of_ble_eq_true rfl⟩) (et_preS hP hC [] rfl) rfl rfl hl.1 rfl (lv_room (Nat.le_of_ble_eq_true rfl)) dX0_attacked_31 ⟨Nat.le_of_ble_eq_true rfl, Nat.le_of_ble_eq_true rfl⟩) ?_
    refine lv_istore (lv' := [(7, .int (mX0_reach kind)), (5, .long (0 : Int64)), (0, .ref b), (1, .int kind), (2, .int man), (3, .long bars)]) hx hb dX0_attacked_34 hl (by decide) rfl (fun ls hl => ?_)
    refine lv_iload_n hx hb dX0_attacked_36 rfl (lv_at hl 3 rfl) ?_
    refine et_callP1 (v := .int (mX0_firstWay kind)) (va_runS (As := [.int kind]) (rest := []) ⟨hx, hb, hml, hown, hts⟩ (c_X0_firstWay l g kind) (va_cwS 1 hts (W0_gS w_334 w_335 w_77 w_336) rfl rfl rfl (by decide +kernel) ⟨Nat.le_of_ble_eq_true rfl, Nat.le_of_ble_eq_true rfl⟩) (et_preS hP hC [] rfl) rfl rfl hl.1 rfl (lv_room (Nat.le_of_ble_eq_true rfl)) dX0_attacked_37 ⟨Nat.le_of_ble_eq_true rfl, Nat.le_of_ble_eq_true rfl⟩) ?_
    refine lv_istore (lv' := [(8, .int (mX0_firstWay kind)), (7, .int (mX0_reach kind)), (5, .long (0 : Int64)), (0, .ref b), (1, .int kind), (2, .int man), (3, .long bars)]) hx hb dX0_attacked_40 hl (by decide) rfl (fun ls hl => ?_)
    have hx1 : ∀ ls : Array Slot, lv_has ls 11 [(5, .long (mX0_attacked_L1 n stf kind man bars (mB_ways kind) 0 (0 : Int64))), (7, .int (mX0_reach kind)), (0, .ref b), (1, .int kind), (2, .int man), (3, .long bars)] → W p l e ({ frames := 1, cells := 0, slots := 0, locals := 22 } : Room) s m args below meth c s.heap [] 0 0 (MQ below (et_QP (some (.long ((mX0_attacked n stf kind man bars))))) args s 0 0 et_no) (F0 m 117 ls []) := by
      intro ls hl
      refine lv_lload hx hb dX0_attacked_117 (lv_at hl 0 rfl) ?_
      have hfin : (mX0_attacked_L1 n stf kind man bars (mB_ways kind) 0 (0 : Int64)) = (mX0_attacked n stf kind man bars) := (by rw [mX0_attacked, if_neg c_1])
      exact et_lret hx hb hr hlocks dX0_attacked_119 (hfin)
    have hL1 : ∀ (k1 i1 : Nat) (seen1 : Int64), i1 + k1 = mB_ways kind → mX0_attacked_L1 n stf kind man bars k1 i1 seen1 = (mX0_attacked_L1 n stf kind man bars (mB_ways kind) 0 (0 : Int64)) → ∀ ls : Array Slot, lv_has ls 11 [(8, .int (mX0_firstWay kind + nI i1)), (5, .long seen1), (7, .int (mX0_reach kind)), (0, .ref b), (1, .int kind), (2, .int man), (3, .long bars)] → W p l e ({ frames := 1, cells := 0, slots := 0, locals := 22 } : Room) s m args below meth c s.heap [] 0 0 (MQ below (et_QP (some (.long ((mX0_attacked n stf kind man bars))))) args s 0 0 et_no) (F0 m 42 ls []) := by
      intro k1
      induction k1 with
      | zero =>
        intro i1 seen1 hik  hm ls hl
        refine lv_iload hx hb dX0_attacked_42 (lv_at hl 0 rfl) ?_
        refine lv_iload_n hx hb dX0_attacked_44 rfl (lv_at hl 4 rfl) ?_
        refine et_callP1 (v := .int (mX0_endOfWays kind)) (va_runS (As := [.int kind]) (rest := [.int (mX0_firstWay kind + nI i1)]) ⟨hx, hb, hml, hown, hts⟩ (c_X0_endOfWays l g kind) (va_cwS 1 hts (W0_gS w_337 w_338 w_77 w_339) rfl rfl rfl (by decide +kernel) ⟨Nat.le_of_ble_eq_true rfl, Nat.le_of_ble_eq_true rfl⟩) (et_preS hP hC [] rfl) rfl rfl hl.1 rfl (lv_room (Nat.le_of_ble_eq_true rfl)) dX0_attacked_45 ⟨Nat.le_of_ble_eq_true rfl, Nat.le_of_ble_eq_true rfl⟩) ?_
        refine lv_icmp_ge (tgt := 117) hx hb dX0_attacked_48 (by decide) (fun c_2 => ?_) (fun c_2 => ?_)
        rotate_left
        · exact absurd (et_wayT (by omega)) c_2
        have hq1 : seen1 = (mX0_attacked_L1 n stf kind man bars (mB_ways kind) 0 (0 : Int64)) := (by rw [mX0_attacked_L1] : mX0_attacked_L1 n stf kind man bars 0 i1 seen1 = seen1).symm.trans hm
        exact hx1 ls (by rw [← hq1]; exact lv_sub hl [1, 2, 3, 4, 5, 6] rfl)
      | succ k1 ih1 =>
        intro i1 seen1 hik  hm ls hl
        refine lv_iload hx hb dX0_attacked_42 (lv_at hl 0 rfl) ?_
        refine lv_iload_n hx hb dX0_attacked_44 rfl (lv_at hl 4 rfl) ?_
        refine et_callP1 (v := .int (mX0_endOfWays kind)) (va_runS (As := [.int kind]) (rest := [.int (mX0_firstWay kind + nI i1)]) ⟨hx, hb, hml, hown, hts⟩ (c_X0_endOfWays l g kind) (va_cwS 1 hts (W0_gS w_337 w_338 w_77 w_339) rfl rfl rfl (by decide +kernel) ⟨Nat.le_of_ble_eq_true rfl, Nat.le_of_ble_eq_true rfl⟩) (et_preS hP hC [] rfl) rfl rfl hl.1 rfl (lv_room (Nat.le_of_ble_eq_true rfl)) dX0_attacked_45 ⟨Nat.le_of_ble_eq_true rfl, Nat.le_of_ble_eq_true rfl⟩) ?_
        refine lv_icmp_ge (tgt := 117) hx hb dX0_attacked_48 (by decide) (fun c_3 => ?_) (fun c_3 => ?_)
        · exact absurd c_3 (et_wayF (by omega))
        refine lv_iload_n hx hb dX0_attacked_51 rfl (lv_at hl 5 rfl) ?_
        refine lv_istore (lv' := [(9, .int man), (8, .int (mX0_firstWay kind + nI i1)), (5, .long seen1), (7, .int (mX0_reach kind)), (0, .ref b), (1, .int kind), (2, .int man), (3, .long bars)]) hx hb dX0_attacked_52 hl (by decide) rfl (fun ls hl => ?_)
        refine lv_iconst (v := (0 : Int32)) hx hb dX0_attacked_54 (by decide) ?_
        refine lv_istore (lv' := [(10, .int (0 : Int32)), (9, .int man), (8, .int (mX0_firstWay kind + nI i1)), (5, .long seen1), (7, .int (mX0_reach kind)), (0, .ref b), (1, .int kind), (2, .int man), (3, .long bars)]) hx hb dX0_attacked_55 hl (by decide) rfl (fun ls hl => ?_)
        have hx2 : ∀ ls : Array Slot, lv_has ls 11 [(9, .int ((mX0_attacked_L2 n stf kind bars i1 ((mX0_reach kind).toNatClampNeg) 0 man seen1).1)), (5, .long ((mX0_attacked_L2 n stf kind bars i1 ((mX0_reach kind).toNatClampNeg) 0 man seen1).2)), (8, .int (mX0_firstWay kind + nI i1)), (7, .int (mX0_reach kind)), (0, .ref b), (1, .int kind), (2, .int man), (3, .long bars)] → W p l e ({ frames := 1, cells := 0, slots := 0, locals := 22 } : Room) s m args below meth c s.heap [] 0 0 (MQ below (et_QP (some (.long ((mX0_attacked n stf kind man bars))))) args s 0 0 et_no) (F0 m 111 ls []) := by
          intro ls hl
          refine lv_iinc (v := mX0_firstWay kind + nI (i1 + 1)) (lv' := [(8, .int (mX0_firstWay kind + nI (i1 + 1))), (9, .int ((mX0_attacked_L2 n stf kind bars i1 ((mX0_reach kind).toNatClampNeg) 0 man seen1).1)), (5, .long ((mX0_attacked_L2 n stf kind bars i1 ((mX0_reach kind).toNatClampNeg) 0 man seen1).2)), (7, .int (mX0_reach kind)), (0, .ref b), (1, .int kind), (2, .int man), (3, .long bars)]) hx hb dX0_attacked_111 hl (k := 2) rfl (et_incA _ i1) (by decide) rfl (fun ls hl => ?_)
          refine lv_goto (tgt := 42) hx hb dX0_attacked_114 (by decide) ?_
          exact ih1 (i1 + 1) ((mX0_attacked_L2 n stf kind bars i1 ((mX0_reach kind).toNatClampNeg) 0 man seen1).2) (by omega) ((by rw [mX0_attacked_L1] : mX0_attacked_L1 n stf kind man bars (k1 + 1) i1 seen1 = mX0_attacked_L1 n stf kind man bars k1 (i1 + 1) ((mX0_attacked_L2 n stf kind bars i1 ((mX0_reach kind).toNatClampNeg) 0 man seen1).2)).symm.trans hm) ls (lv_sub hl [0, 2, 3, 4, 5, 6, 7] rfl)
        have hL2 : ∀ (k2 i2 : Nat) (cell2 : Int32) (seen2 : Int64), i2 + k2 = (mX0_reach kind).toNatClampNeg → mX0_attacked_L2 n stf kind bars i1 k2 i2 cell2 seen2 = (mX0_attacked_L2 n stf kind bars i1 ((mX0_reach kind).toNatClampNeg) 0 man seen1) → ∀ ls : Array Slot, lv_has ls 11 [(10, .int (nI i2)), (9, .int cell2), (5, .long seen2), (8, .int (mX0_firstWay kind + nI i1)), (7, .int (mX0_reach kind)), (0, .ref b), (1, .int kind), (2, .int man), (3, .long bars)] → W p l e ({ frames := 1, cells := 0, slots := 0, locals := 22 } : Room) s m args below meth c s.heap [] 0 0 (MQ below (et_QP (some (.long ((mX0_attacked n stf kind man bars))))) args s 0 0 et_no) (F0 m 57 ls []) := by
          intro k2
          induction k2 with
          | zero =>
            intro i2 cell2 seen2 hik  hm ls hl
            refine lv_iload hx hb dX0_attacked_57 (lv_at hl 0 rfl) ?_
            refine lv_iload hx hb dX0_attacked_59 (lv_at hl 4 rfl) ?_
            refine lv_icmp_ge (tgt := 111) hx hb dX0_attacked_61 (by decide) (fun c_4 => ?_) (fun c_4 => ?_)
            rotate_left
            · exact absurd (et_clT (by omega)) c_4
            have hq2 : (cell2, seen2) = (mX0_attacked_L2 n stf kind bars i1 ((mX0_reach kind).toNatClampNeg) 0 man seen1) := (by rw [mX0_attacked_L2] : mX0_attacked_L2 n stf kind bars i1 0 i2 cell2 seen2 = (cell2, seen2)).symm.trans hm
            have hq2_0 : cell2 = (mX0_attacked_L2 n stf kind bars i1 ((mX0_reach kind).toNatClampNeg) 0 man seen1).1 := congrArg (fun z => z.1) hq2
            have hq2_1 : seen2 = (mX0_attacked_L2 n stf kind bars i1 ((mX0_reach kind).toNatClampNeg) 0 man seen1).2 := congrArg (fun z => z.2) hq2
            exact hx2 ls (by rw [← hq2_0, ← hq2_1]; exact lv_sub hl [1, 2, 3, 4, 5, 6, 7, 8] rfl)
          | succ k2 ih2 =>
            intro i2 cell2 seen2 hik  hm ls hl
            refine lv_iload hx hb dX0_attacked_57 (lv_at hl 0 rfl) ?_
            refine lv_iload hx hb dX0_attacked_59 (lv_at hl 4 rfl) ?_
            refine lv_icmp_ge (tgt := 111) hx hb dX0_attacked_61 (by decide) (fun c_5 => ?_) (fun c_5 => ?_)
            · exact absurd c_5 (et_clF (by omega))
            refine lv_aload_n hx hb dX0_attacked_64 rfl (lv_at hl 5 rfl) ?_
            refine lv_iload hx hb dX0_attacked_65 (lv_at hl 1 rfl) ?_
            refine lv_iload hx hb dX0_attacked_67 (lv_at hl 3 rfl) ?_
            refine et_callP1 (v := .int (mX0_step n stf cell2 (mX0_firstWay kind + nI i1))) (va_runV (As := [.int cell2, .int (mX0_firstWay kind + nI i1)]) (rest := []) ⟨hx, hb, hml, hown, hts⟩ (c_X0_step l g b q1 q2 FI RI n al ff lf sqf stf cell2 (mX0_firstWay kind + nI i1) (by assumption)) (cwV 2 hts (W0_gV w_327 w_329 w_13 w_77 w_330) rfl rfl rfl (by decide +kernel) ⟨Nat.le_of_ble_eq_true rfl, Nat.le_of_ble_eq_true rfl⟩) (et_preV hP hC [0, 1, 2] rfl (ci := 0) (q0 := 0) rfl rfl) rfl rfl hl.1 rfl (lv_room (Nat.le_of_ble_eq_true rfl)) dX0_attacked_69 ⟨Nat.le_of_ble_eq_true rfl, Nat.le_of_ble_eq_true rfl⟩) ?_
            refine lv_istore (lv' := [(9, .int (mX0_step n stf cell2 (mX0_firstWay kind + nI i1))), (10, .int (nI i2)), (5, .long seen2), (8, .int (mX0_firstWay kind + nI i1)), (7, .int (mX0_reach kind)), (0, .ref b), (1, .int kind), (2, .int man), (3, .long bars)]) hx hb dX0_attacked_72 hl (by decide) rfl (fun ls hl => ?_)
            refine lv_lload hx hb dX0_attacked_74 (lv_at hl 2 rfl) ?_
            refine lv_iload hx hb dX0_attacked_76 (lv_at hl 0 rfl) ?_
            refine et_callP1 (v := .long (mX0_bit (mX0_step n stf cell2 (mX0_firstWay kind + nI i1)))) (va_runS (As := [.int (mX0_step n stf cell2 (mX0_firstWay kind + nI i1))]) (rest := [.long seen2]) ⟨hx, hb, hml, hown, hts⟩ (c_X0_bit l g (mX0_step n stf cell2 (mX0_firstWay kind + nI i1))) (va_cwS 1 hts (W0_gS w_107 w_108 w_77 w_109) rfl rfl rfl (by decide +kernel) ⟨Nat.le_of_ble_eq_true rfl, Nat.le_of_ble_eq_true rfl⟩) (et_preS hP hC [] rfl) rfl rfl hl.1 rfl (lv_room (Nat.le_of_ble_eq_true rfl)) dX0_attacked_78 ⟨Nat.le_of_ble_eq_true rfl, Nat.le_of_ble_eq_true rfl⟩) ?_
            refine lv_lor hx hb dX0_attacked_81 ?_
            refine lv_lstore (lv' := [(5, .long (seen2 ||| (mX0_bit (mX0_step n stf cell2 (mX0_firstWay kind + nI i1))))), (9, .int (mX0_step n stf cell2 (mX0_firstWay kind + nI i1))), (10, .int (nI i2)), (8, .int (mX0_firstWay kind + nI i1)), (7, .int (mX0_reach kind)), (0, .ref b), (1, .int kind), (2, .int man), (3, .long bars)]) hx hb dX0_attacked_82 hl (by decide) rfl (fun ls hl => ?_)
            refine lv_iload hx hb dX0_attacked_84 (lv_at hl 1 rfl) ?_
            refine lv_iconst (v := (-1 : Int32)) hx hb dX0_attacked_86 (by decide) ?_
            refine lv_icmp_eq (tgt := 111) hx hb dX0_attacked_87 (by decide) (fun c_6 => ?_) (fun c_6 => ?_)
            ·
              have hq3 : ((mX0_step n stf cell2 (mX0_firstWay kind + nI i1)), seen2 ||| (mX0_bit (mX0_step n stf cell2 (mX0_firstWay kind + nI i1)))) = (mX0_attacked_L2 n stf kind bars i1 ((mX0_reach kind).toNatClampNeg) 0 man seen1) := (by rw [mX0_attacked_L2, if_pos c_6] : mX0_attacked_L2 n stf kind bars i1 (k2 + 1) i2 cell2 seen2 = ((mX0_step n stf cell2 (mX0_firstWay kind + nI i1)), seen2 ||| (mX0_bit (mX0_step n stf cell2 (mX0_firstWay kind + nI i1))))).symm.trans hm
              have hq3_0 : (mX0_step n stf cell2 (mX0_firstWay kind + nI i1)) = (mX0_attacked_L2 n stf kind bars i1 ((mX0_reach kind).toNatClampNeg) 0 man seen1).1 := congrArg (fun z => z.1) hq3
              have hq3_1 : seen2 ||| (mX0_bit (mX0_step n stf cell2 (mX0_firstWay kind + nI i1))) = (mX0_attacked_L2 n stf kind bars i1 ((mX0_reach kind).toNatClampNeg) 0 man seen1).2 := congrArg (fun z => z.2) hq3
              exact hx2 ls (by rw [← hq3_0, ← hq3_1]; exact lv_sub hl [1, 0, 3, 4, 5, 6, 7, 8] rfl)
            ·
              refine lv_lload_n hx hb dX0_attacked_90 rfl (lv_at hl 8 rfl) ?_
              refine lv_iload hx hb dX0_attacked_91 (lv_at hl 1 rfl) ?_
              refine et_callP1 (v := .long (mX0_bit (mX0_step n stf cell2 (mX0_firstWay kind + nI i1)))) (va_runS (As := [.int (mX0_step n stf cell2 (mX0_firstWay kind + nI i1))]) (rest := [.long bars]) ⟨hx, hb, hml, hown, hts⟩ (c_X0_bit l g (mX0_step n stf cell2 (mX0_firstWay kind + nI i1))) (va_cwS 1 hts (W0_gS w_107 w_108 w_77 w_109) rfl rfl rfl (by decide +kernel) ⟨Nat.le_of_ble_eq_true rfl, Nat.le_of_ble_eq_true rfl⟩) (et_preS hP hC [] rfl) rfl rfl hl.1 rfl (lv_room (Nat.le_of_ble_eq_true rfl)) dX0_attacked_93 ⟨Nat.le_of_ble_eq_true rfl, Nat.le_of_ble_eq_true rfl⟩) ?_
              refine lv_land hx hb dX0_attacked_96 ?_
              refine lv_lconst (v := (0 : Int64)) hx hb dX0_attacked_97 rfl ?_
              refine W.lcmp hx hb dX0_attacked_98 ?_
              refine lv_if_eq (tgt := 105) hx hb dX0_attacked_99 (by decide) (fun c_7 => ?_) (fun c_7 => ?_)
              ·
                refine lv_iinc (v := nI (i2 + 1)) (lv' := [(10, .int (nI (i2 + 1))), (5, .long (seen2 ||| (mX0_bit (mX0_step n stf cell2 (mX0_firstWay kind + nI i1))))), (9, .int (mX0_step n stf cell2 (mX0_firstWay kind + nI i1))), (8, .int (mX0_firstWay kind + nI i1)), (7, .int (mX0_reach kind)), (0, .ref b), (1, .int kind), (2, .int man), (3, .long bars)]) hx hb dX0_attacked_105 hl (k := 2) rfl (et_inc i2) (by decide) rfl (fun ls hl => ?_)
                refine lv_goto (tgt := 57) hx hb dX0_attacked_108 (by decide) ?_
                exact ih2 (i2 + 1) (mX0_step n stf cell2 (mX0_firstWay kind + nI i1)) (seen2 ||| (mX0_bit (mX0_step n stf cell2 (mX0_firstWay kind + nI i1)))) (by omega) ((by rw [mX0_attacked_L2, if_neg c_6, if_pos c_7] : mX0_attacked_L2 n stf kind bars i1 (k2 + 1) i2 cell2 seen2 = mX0_attacked_L2 n stf kind bars i1 k2 (i2 + 1) (mX0_step n stf cell2 (mX0_firstWay kind + nI i1)) (seen2 ||| (mX0_bit (mX0_step n stf cell2 (mX0_firstWay kind + nI i1))))).symm.trans hm) ls (lv_sub hl [0, 2, 1, 3, 4, 5, 6, 7, 8] rfl)
              ·
                refine lv_goto (tgt := 111) hx hb dX0_attacked_102 (by decide) ?_
                have hq4 : ((mX0_step n stf cell2 (mX0_firstWay kind + nI i1)), seen2 ||| (mX0_bit (mX0_step n stf cell2 (mX0_firstWay kind + nI i1)))) = (mX0_attacked_L2 n stf kind bars i1 ((mX0_reach kind).toNatClampNeg) 0 man seen1) := (by rw [mX0_attacked_L2, if_neg c_6, if_neg c_7] : mX0_attacked_L2 n stf kind bars i1 (k2 + 1) i2 cell2 seen2 = ((mX0_step n stf cell2 (mX0_firstWay kind + nI i1)), seen2 ||| (mX0_bit (mX0_step n stf cell2 (mX0_firstWay kind + nI i1))))).symm.trans hm
                have hq4_0 : (mX0_step n stf cell2 (mX0_firstWay kind + nI i1)) = (mX0_attacked_L2 n stf kind bars i1 ((mX0_reach kind).toNatClampNeg) 0 man seen1).1 := congrArg (fun z => z.1) hq4
                have hq4_1 : seen2 ||| (mX0_bit (mX0_step n stf cell2 (mX0_firstWay kind + nI i1))) = (mX0_attacked_L2 n stf kind bars i1 ((mX0_reach kind).toNatClampNeg) 0 man seen1).2 := congrArg (fun z => z.2) hq4
                exact hx2 ls (by rw [← hq4_0, ← hq4_1]; exact lv_sub hl [1, 0, 3, 4, 5, 6, 7, 8] rfl)
        exact hL2 ((mX0_reach kind).toNatClampNeg) 0 man seen1 (by omega) rfl ls (lv_sub hl [0, 1, 3, 2, 4, 5, 6, 7, 8] rfl)
    exact hL1 (mB_ways kind) 0 (0 : Int64) (by omega) rfl ls (by rw [show (mX0_firstWay kind + nI 0 : Int32) = (mX0_firstWay kind) from (Int32.add_zero _)]; exact lv_sub hl [0, 2, 1, 3, 4, 5, 6] rfl)
  ·
    refine lv_aload_n hx hb dX0_attacked_5 rfl (lv_at hl 0 rfl) ?_
    refine lv_iload_n hx hb dX0_attacked_6 rfl (lv_at hl 2 rfl) ?_
    refine lv_bipush (v := (6 : Int32)) hx hb dX0_attacked_7 (by decide) ?_
    refine et_callP1 (v := .int (mX0_step n stf man (6 : Int32))) (va_runV (As := [.int man, .int (6 : Int32)]) (rest := []) ⟨hx, hb, hml, hown, hts⟩ (c_X0_step l g b q1 q2 FI RI n al ff lf sqf stf man (6 : Int32) (by assumption)) (cwV 2 hts (W0_gV w_327 w_329 w_13 w_77 w_330) rfl rfl rfl (by decide +kernel) ⟨Nat.le_of_ble_eq_true rfl, Nat.le_of_ble_eq_true rfl⟩) (et_preV hP hC [0, 1, 2] rfl (ci := 0) (q0 := 0) rfl rfl) rfl rfl hl.1 rfl (lv_room (Nat.le_of_ble_eq_true rfl)) dX0_attacked_9 ⟨Nat.le_of_ble_eq_true rfl, Nat.le_of_ble_eq_true rfl⟩) ?_
    refine et_callP1 (v := .long (mX0_bit (mX0_step n stf man (6 : Int32)))) (va_runS (As := [.int (mX0_step n stf man (6 : Int32))]) (rest := []) ⟨hx, hb, hml, hown, hts⟩ (c_X0_bit l g (mX0_step n stf man (6 : Int32))) (va_cwS 1 hts (W0_gS w_107 w_108 w_77 w_109) rfl rfl rfl (by decide +kernel) ⟨Nat.le_of_ble_eq_true rfl, Nat.le_of_ble_eq_true rfl⟩) (et_preS hP hC [] rfl) rfl rfl hl.1 rfl (lv_room (Nat.le_of_ble_eq_true rfl)) dX0_attacked_12 ⟨Nat.le_of_ble_eq_true rfl, Nat.le_of_ble_eq_true rfl⟩) ?_
    refine lv_aload_n hx hb dX0_attacked_15 rfl (lv_at hl 0 rfl) ?_
    refine lv_iload_n hx hb dX0_attacked_16 rfl (lv_at hl 2 rfl) ?_
    refine lv_bipush (v := (7 : Int32)) hx hb dX0_attacked_17 (by decide) ?_
    refine et_callP1 (v := .int (mX0_step n stf man (7 : Int32))) (va_runV (As := [.int man, .int (7 : Int32)]) (rest := [.long (mX0_bit (mX0_step n stf man (6 : Int32)))]) ⟨hx, hb, hml, hown, hts⟩ (c_X0_step l g b q1 q2 FI RI n al ff lf sqf stf man (7 : Int32) (by assumption)) (cwV 2 hts (W0_gV w_327 w_329 w_13 w_77 w_330) rfl rfl rfl (by decide +kernel) ⟨Nat.le_of_ble_eq_true rfl, Nat.le_of_ble_eq_true rfl⟩) (et_preV hP hC [0, 1, 2] rfl (ci := 0) (q0 := 0) rfl rfl) rfl rfl hl.1 rfl (lv_room (Nat.le_of_ble_eq_true rfl)) dX0_attacked_19 ⟨Nat.le_of_ble_eq_true rfl, Nat.le_of_ble_eq_true rfl⟩) ?_
    refine et_callP1 (v := .long (mX0_bit (mX0_step n stf man (7 : Int32)))) (va_runS (As := [.int (mX0_step n stf man (7 : Int32))]) (rest := [.long (mX0_bit (mX0_step n stf man (6 : Int32)))]) ⟨hx, hb, hml, hown, hts⟩ (c_X0_bit l g (mX0_step n stf man (7 : Int32))) (va_cwS 1 hts (W0_gS w_107 w_108 w_77 w_109) rfl rfl rfl (by decide +kernel) ⟨Nat.le_of_ble_eq_true rfl, Nat.le_of_ble_eq_true rfl⟩) (et_preS hP hC [] rfl) rfl rfl hl.1 rfl (lv_room (Nat.le_of_ble_eq_true rfl)) dX0_attacked_22 ⟨Nat.le_of_ble_eq_true rfl, Nat.le_of_ble_eq_true rfl⟩) ?_
    refine lv_lor hx hb dX0_attacked_25 ?_
    have hfin : (mX0_bit (mX0_step n stf man (6 : Int32))) ||| (mX0_bit (mX0_step n stf man (7 : Int32))) = (mX0_attacked n stf kind man bars) := (by rw [mX0_attacked, if_pos c_1])
    exact et_lret hx hb hr hlocks dX0_attacked_26 (hfin)

def mX0_mayStand (RI : Int32) (n : Nat) (sqf : Nat → Int32) (kind : Int32) (man : Int32) : Bool :=
  if kind = 0 then
    true
  else
    if man < 0 then
      false
    else
      if (nI n) ≤ man then
        false
      else
        if kind = (1 : Int32) then
          if (mX0_rankOf n sqf man) ≤ 0 then
            false
          else
            if (RI - (1 : Int32)) ≤ (mX0_rankOf n sqf man) then
              false
            else
              true
        else
          true
set_option maxHeartbeats 4000000 in
set_option maxRecDepth 100000 in
theorem c_X0_mayStand (l : Launch) (g : et_G) (b : Nat) (q1 : Nat) (q2 : Nat) (FI : Int32) (RI : Int32) (n : Nat) (al : Int64) (ff : Int64) (lf : Int64) (sqf : Nat → Int32) (stf : Nat → Int32) (kind : Int32) (man : Int32) (hn : n ≤ 64) : Met l yX0_mayStand (Cond.code yX0_mayStand cX0_mayStand 4 (some (.boolean)) :: W0) ({ frames := 2, cells := 0, slots := 0, locals := 42 } : Room) (et_Pc g ([(b, .inr (0, [.int FI, .int RI, .int (nI n), .ref q1, .ref q2, .long al, .long ff, .long lf])), (q1, .inl (gI g, n, .inl sqf)), (q2, .inl (gI g, 16 * n, .inl stf))]) [.ref b, .int kind, .int man]) (et_QP (some (.int (zI ((mX0_mayStand RI n sqf kind man)))))) 0 0 et_no := by
  refine et_startP (by decide) rfl (Nat.le_of_ble_eq_true rfl) ?_
  intro p e s m args below meth c hx hb hr hts0 hown hlocks hml hP hC ls hl
  have hts : ∀ w ∈ W0, w.before args s = true := fun w h => hts0 w (List.mem_cons_of_mem _ h)
  have hown : s.vm.findClass RX0 = some m.cls := hown
  have hl : lv_has ls 4 [(0, .ref b), (1, .int kind), (2, .int man)] := hl
  refine lv_iload_n hx hb dX0_mayStand_0 rfl (lv_at hl 1 rfl) ?_
  refine lv_if_ne (tgt := 6) hx hb dX0_mayStand_1 (by decide) (fun c_1 => ?_) (fun c_1 => ?_)
  ·
    refine lv_aload_n hx hb dX0_mayStand_6 rfl (lv_at hl 0 rfl) ?_
    refine lv_iload_n hx hb dX0_mayStand_7 rfl (lv_at hl 2 rfl) ?_
    refine et_callP1 (v := .int (mX0_rankOf n sqf man)) (va_runV (As := [.int man]) (rest := []) ⟨hx, hb, hml, hown, hts⟩ (c_X0_rankOf l g b q1 q2 FI RI n al ff lf sqf stf man (by assumption)) (cwV 1 hts (W0_gV w_303 w_305 w_7 w_77 w_306) rfl rfl rfl (by decide +kernel) ⟨Nat.le_of_ble_eq_true rfl, Nat.le_of_ble_eq_true rfl⟩) (et_preV hP hC [0, 1, 2] rfl (ci := 0) (q0 := 0) rfl rfl) rfl rfl hl.1 rfl (lv_room (Nat.le_of_ble_eq_true rfl)) dX0_mayStand_8 ⟨Nat.le_of_ble_eq_true rfl, Nat.le_of_ble_eq_true rfl⟩) ?_
    refine lv_istore_n (lv' := [(3, .int (mX0_rankOf n sqf man)), (0, .ref b), (1, .int kind), (2, .int man)]) hx hb dX0_mayStand_11 rfl hl (by decide) rfl (fun ls hl => ?_)
    refine lv_iload_n hx hb dX0_mayStand_12 rfl (lv_at hl 3 rfl) ?_
    refine lv_if_lt (tgt := 47) hx hb dX0_mayStand_13 (by decide) (fun c_2 => ?_) (fun c_2 => ?_)
    ·
      refine lv_iconst (v := (0 : Int32)) hx hb dX0_mayStand_47 (by decide) ?_
      have hfin : false = (mX0_mayStand RI n sqf kind man) := (by rw [mX0_mayStand, if_neg c_1, if_pos c_2])
      exact et_zret hx hb hr hlocks dX0_mayStand_48 (congrArg zI (hfin))
    ·
      refine lv_iload_n hx hb dX0_mayStand_16 rfl (lv_at hl 3 rfl) ?_
      refine lv_aload_n hx hb dX0_mayStand_17 rfl (lv_at hl 1 rfl) ?_
      refine va_get (D := gD g) (ci := 0) (v := .int (nI n)) (C := RX0) (T := TX0) (N := 8) hx hb hts inW_X0 hown hC.1 hP 0 rfl rfl 2 (by decide) (hts _ w_130) (fun _ h9 => h9) rfl dX0_mayStand_18 ?_
      refine lv_icmp_ge (tgt := 47) hx hb dX0_mayStand_21 (by decide) (fun c_3 => ?_) (fun c_3 => ?_)
      ·
        refine lv_iconst (v := (0 : Int32)) hx hb dX0_mayStand_47 (by decide) ?_
        have hfin : false = (mX0_mayStand RI n sqf kind man) := (by rw [mX0_mayStand, if_neg c_1, if_neg c_2, if_pos c_3])
        exact et_zret hx hb hr hlocks dX0_mayStand_48 (congrArg zI (hfin))
      ·
        refine lv_iload_n hx hb dX0_mayStand_24 rfl (lv_at hl 2 rfl) ?_
        refine lv_iconst (v := (1 : Int32)) hx hb dX0_mayStand_25 (by decide) ?_
        refine lv_icmp_ne (tgt := 43) hx hb dX0_mayStand_26 (by decide) (fun c_4 => ?_) (fun c_4 => ?_)
        ·
          refine lv_iconst (v := (1 : Int32)) hx hb dX0_mayStand_43 (by decide) ?_
          refine lv_goto (tgt := 48) hx hb dX0_mayStand_44 (by decide) ?_
          have hfin : true = (mX0_mayStand RI n sqf kind man) := (by rw [mX0_mayStand, if_neg c_1, if_neg c_2, if_neg c_3, if_neg c_4])
          exact et_zret hx hb hr hlocks dX0_mayStand_48 (congrArg zI (hfin))
        ·
          refine lv_iload_n hx hb dX0_mayStand_29 rfl (lv_at hl 0 rfl) ?_
          refine lv_if_le (tgt := 47) hx hb dX0_mayStand_30 (by decide) (fun c_5 => ?_) (fun c_5 => ?_)
          ·
            refine lv_iconst (v := (0 : Int32)) hx hb dX0_mayStand_47 (by decide) ?_
            have hfin : false = (mX0_mayStand RI n sqf kind man) := (by rw [mX0_mayStand, if_neg c_1, if_neg c_2, if_neg c_3, if_pos c_4, if_pos c_5])
            exact et_zret hx hb hr hlocks dX0_mayStand_48 (congrArg zI (hfin))
          ·
            refine lv_iload_n hx hb dX0_mayStand_33 rfl (lv_at hl 0 rfl) ?_
            refine lv_aload_n hx hb dX0_mayStand_34 rfl (lv_at hl 1 rfl) ?_
            refine va_get (D := gD g) (ci := 0) (v := .int RI) (C := RX0) (T := TX0) (N := 8) hx hb hts inW_X0 hown hC.1 hP 0 rfl rfl 1 (by decide) (hts _ w_125) (fun _ h9 => h9) rfl dX0_mayStand_35 ?_
            refine lv_iconst (v := (1 : Int32)) hx hb dX0_mayStand_38 (by decide) ?_
            refine lv_isub hx hb dX0_mayStand_39 ?_
            refine lv_icmp_ge (tgt := 47) hx hb dX0_mayStand_40 (by decide) (fun c_6 => ?_) (fun c_6 => ?_)
            ·
              refine lv_iconst (v := (0 : Int32)) hx hb dX0_mayStand_47 (by decide) ?_
              have hfin : false = (mX0_mayStand RI n sqf kind man) := (by rw [mX0_mayStand, if_neg c_1, if_neg c_2, if_neg c_3, if_pos c_4, if_neg c_5, if_pos c_6])
              exact et_zret hx hb hr hlocks dX0_mayStand_48 (congrArg zI (hfin))
            ·
              refine lv_iconst (v := (1 : Int32)) hx hb dX0_mayStand_43 (by decide) ?_
              refine lv_goto (tgt := 48) hx hb dX0_mayStand_44 (by decide) ?_
              have hfin : true = (mX0_mayStand RI n sqf kind man) := (by rw [mX0_mayStand, if_neg c_1, if_neg c_2, if_neg c_3, if_pos c_4, if_neg c_5, if_neg c_6])
              exact et_zret hx hb hr hlocks dX0_mayStand_48 (congrArg zI (hfin))
  ·
    refine lv_iconst (v := (1 : Int32)) hx hb dX0_mayStand_4 (by decide) ?_
    have hfin : true = (mX0_mayStand RI n sqf kind man) := (by rw [mX0_mayStand, if_pos c_1])
    exact et_zret hx hb hr hlocks dX0_mayStand_5 (congrArg zI (hfin))

def mX0_roomForBlack (FI : Int32) (RI : Int32) (n : Nat) (al : Int64) (ff : Int64) (lf : Int64) (sqf : Nat → Int32) (kind : Int32) (white : Int32) (man : Int32) : Int64 :=
  if white = man then
    (0 : Int64)
  else
    if (zI (mX0_mayStand RI n sqf kind man)) = 0 then
      (0 : Int64)
    else
      ((al &&& ((mX0_around FI al ff lf white) ^^^ (-1 : Int64))) &&& ((mX0_bit white) ^^^ (-1 : Int64))) &&& ((mX0_bit man) ^^^ (-1 : Int64))
set_option maxHeartbeats 4000000 in
set_option maxRecDepth 100000 in
theorem c_X0_roomForBlack (l : Launch) (g : et_G) (b : Nat) (q1 : Nat) (q2 : Nat) (FI : Int32) (RI : Int32) (n : Nat) (al : Int64) (ff : Int64) (lf : Int64) (sqf : Nat → Int32) (stf : Nat → Int32) (kind : Int32) (white : Int32) (man : Int32) (hn : n ≤ 64) : Met l yX0_roomForBlack (Cond.code yX0_roomForBlack cX0_roomForBlack 4 (some (.long)) :: W0) ({ frames := 3, cells := 0, slots := 0, locals := 65 } : Room) (et_Pc g ([(b, .inr (0, [.int FI, .int RI, .int (nI n), .ref q1, .ref q2, .long al, .long ff, .long lf])), (q1, .inl (gI g, n, .inl sqf)), (q2, .inl (gI g, 16 * n, .inl stf))]) [.ref b, .int kind, .int white, .int man]) (et_QP (some (.long ((mX0_roomForBlack FI RI n al ff lf sqf kind white man))))) 0 0 et_no := by
  refine et_startP (by decide) rfl (Nat.le_of_ble_eq_true rfl) ?_
  intro p e s m args below meth c hx hb hr hts0 hown hlocks hml hP hC ls hl
  have hts : ∀ w ∈ W0, w.before args s = true := fun w h => hts0 w (List.mem_cons_of_mem _ h)
  have hown : s.vm.findClass RX0 = some m.cls := hown
  have hl : lv_has ls 4 [(0, .ref b), (1, .int kind), (2, .int white), (3, .int man)] := hl
  refine lv_iload_n hx hb dX0_roomForBlack_0 rfl (lv_at hl 2 rfl) ?_
  refine lv_iload_n hx hb dX0_roomForBlack_1 rfl (lv_at hl 3 rfl) ?_
  refine lv_icmp_eq (tgt := 14) hx hb dX0_roomForBlack_2 (by decide) (fun c_1 => ?_) (fun c_1 => ?_)
  ·
    refine lv_lconst (v := (0 : Int64)) hx hb dX0_roomForBlack_14 rfl ?_
    have hfin : (0 : Int64) = (mX0_roomForBlack FI RI n al ff lf sqf kind white man) := (by rw [mX0_roomForBlack, if_pos c_1])
    exact et_lret hx hb hr hlocks dX0_roomForBlack_15 (hfin)
  ·
    refine lv_aload_n hx hb dX0_roomForBlack_5 rfl (lv_at hl 0 rfl) ?_
    refine lv_iload_n hx hb dX0_roomForBlack_6 rfl (lv_at hl 1 rfl) ?_
    refine lv_iload_n hx hb dX0_roomForBlack_7 rfl (lv_at hl 3 rfl) ?_
    refine et_callP1 (v := .int (zI (mX0_mayStand RI n sqf kind man))) (va_runV (As := [.int kind, .int man]) (rest := []) ⟨hx, hb, hml, hown, hts⟩ (c_X0_mayStand l g b q1 q2 FI RI n al ff lf sqf stf kind man (by assumption)) (cwV 2 hts (W0_gV w_299 w_301 w_6 w_77 w_302) rfl rfl rfl (by decide +kernel) ⟨Nat.le_of_ble_eq_true rfl, Nat.le_of_ble_eq_true rfl⟩) (et_preV hP hC [0, 1, 2] rfl (ci := 0) (q0 := 0) rfl rfl) rfl rfl hl.1 rfl (lv_room (Nat.le_of_ble_eq_true rfl)) dX0_roomForBlack_8 ⟨Nat.le_of_ble_eq_true rfl, Nat.le_of_ble_eq_true rfl⟩) ?_
    refine lv_if_ne (tgt := 16) hx hb dX0_roomForBlack_11 (by decide) (fun c_2 => ?_) (fun c_2 => ?_)
    ·
      refine lv_aload_n hx hb dX0_roomForBlack_16 rfl (lv_at hl 0 rfl) ?_
      refine va_get (D := gD g) (ci := 0) (v := .long al) (C := RX0) (T := TX0) (N := 8) hx hb hts inW_X0 hown hC.1 hP 0 rfl rfl 5 (by decide) (hts _ w_134) (fun _ h9 => h9) rfl dX0_roomForBlack_17 ?_
      refine lv_aload_n hx hb dX0_roomForBlack_20 rfl (lv_at hl 0 rfl) ?_
      refine lv_iload_n hx hb dX0_roomForBlack_21 rfl (lv_at hl 2 rfl) ?_
      refine et_callP1 (v := .long (mX0_around FI al ff lf white)) (va_runV (As := [.int white]) (rest := [.long al]) ⟨hx, hb, hml, hown, hts⟩ (c_X0_around l g b q1 q2 FI RI n al ff lf sqf stf white) (cwV 1 hts (W0_gV w_311 w_313 w_9 w_77 w_314) rfl rfl rfl (by decide +kernel) ⟨Nat.le_of_ble_eq_true rfl, Nat.le_of_ble_eq_true rfl⟩) (et_preV hP hC [0, 1, 2] rfl (ci := 0) (q0 := 0) rfl rfl) rfl rfl hl.1 rfl (lv_room (Nat.le_of_ble_eq_true rfl)) dX0_roomForBlack_22 ⟨Nat.le_of_ble_eq_true rfl, Nat.le_of_ble_eq_true rfl⟩) ?_
      refine lv_ldc2 hx hb hown (hts _ w_122) dX0_roomForBlack_25 ?_
      refine lv_lxor hx hb dX0_roomForBlack_28 ?_
      refine lv_land hx hb dX0_roomForBlack_29 ?_
      refine lv_iload_n hx hb dX0_roomForBlack_30 rfl (lv_at hl 2 rfl) ?_
      refine et_callP1 (v := .long (mX0_bit white)) (va_runS (As := [.int white]) (rest := [.long (al &&& ((mX0_around FI al ff lf white) ^^^ (-1 : Int64)))]) ⟨hx, hb, hml, hown, hts⟩ (c_X0_bit l g white) (va_cwS 1 hts (W0_gS w_107 w_108 w_77 w_109) rfl rfl rfl (by decide +kernel) ⟨Nat.le_of_ble_eq_true rfl, Nat.le_of_ble_eq_true rfl⟩) (et_preS hP hC [] rfl) rfl rfl hl.1 rfl (lv_room (Nat.le_of_ble_eq_true rfl)) dX0_roomForBlack_31 ⟨Nat.le_of_ble_eq_true rfl, Nat.le_of_ble_eq_true rfl⟩) ?_
      refine lv_ldc2 hx hb hown (hts _ w_122) dX0_roomForBlack_34 ?_
      refine lv_lxor hx hb dX0_roomForBlack_37 ?_
      refine lv_land hx hb dX0_roomForBlack_38 ?_
      refine lv_iload_n hx hb dX0_roomForBlack_39 rfl (lv_at hl 3 rfl) ?_
      refine et_callP1 (v := .long (mX0_bit man)) (va_runS (As := [.int man]) (rest := [.long ((al &&& ((mX0_around FI al ff lf white) ^^^ (-1 : Int64))) &&& ((mX0_bit white) ^^^ (-1 : Int64)))]) ⟨hx, hb, hml, hown, hts⟩ (c_X0_bit l g man) (va_cwS 1 hts (W0_gS w_107 w_108 w_77 w_109) rfl rfl rfl (by decide +kernel) ⟨Nat.le_of_ble_eq_true rfl, Nat.le_of_ble_eq_true rfl⟩) (et_preS hP hC [] rfl) rfl rfl hl.1 rfl (lv_room (Nat.le_of_ble_eq_true rfl)) dX0_roomForBlack_40 ⟨Nat.le_of_ble_eq_true rfl, Nat.le_of_ble_eq_true rfl⟩) ?_
      refine lv_ldc2 hx hb hown (hts _ w_122) dX0_roomForBlack_43 ?_
      refine lv_lxor hx hb dX0_roomForBlack_46 ?_
      refine lv_land hx hb dX0_roomForBlack_47 ?_
      have hfin : ((al &&& ((mX0_around FI al ff lf white) ^^^ (-1 : Int64))) &&& ((mX0_bit white) ^^^ (-1 : Int64))) &&& ((mX0_bit man) ^^^ (-1 : Int64)) = (mX0_roomForBlack FI RI n al ff lf sqf kind white man) := (by rw [mX0_roomForBlack, if_neg c_1, if_neg c_2])
      exact et_lret hx hb hr hlocks dX0_roomForBlack_48 (hfin)
    ·
      refine lv_lconst (v := (0 : Int64)) hx hb dX0_roomForBlack_14 rfl ?_
      have hfin : (0 : Int64) = (mX0_roomForBlack FI RI n al ff lf sqf kind white man) := (by rw [mX0_roomForBlack, if_neg c_1, if_pos c_2])
      exact et_lret hx hb hr hlocks dX0_roomForBlack_15 (hfin)

def mX0_inCheck (n : Nat) (stf : Nat → Int32) (pk : Int32) (pw : Int32) (pm : Int32) (pb : Int32) : Bool :=
  if (lg_cmp ((mX0_attacked n stf pk pm (mX0_bit pw)) &&& (mX0_bit pb)) (0 : Int64)) = 0 then
    false
  else
    true
set_option maxHeartbeats 4000000 in
set_option maxRecDepth 100000 in
theorem c_X0_inCheck (l : Launch) (g : et_G) (b : Nat) (q1 : Nat) (q2 : Nat) (FI : Int32) (RI : Int32) (n : Nat) (al : Int64) (ff : Int64) (lf : Int64) (sqf : Nat → Int32) (stf : Nat → Int32) (po : Nat) (pk : Int32) (pw : Int32) (pm : Int32) (pb : Int32) (ps : Int32) (hn : n ≤ 64) : Met l yX0_inCheck (Cond.code yX0_inCheck cX0_inCheck 2 (some (.boolean)) :: W0) ({ frames := 2, cells := 0, slots := 0, locals := 52 } : Room) (et_Pc g ([(b, .inr (0, [.int FI, .int RI, .int (nI n), .ref q1, .ref q2, .long al, .long ff, .long lf])), (q1, .inl (gI g, n, .inl sqf)), (q2, .inl (gI g, 16 * n, .inl stf)), (po, .inr (2, [.int pk, .int pw, .int pm, .int pb, .int ps]))]) [.ref b, .ref po]) (et_QP (some (.int (zI ((mX0_inCheck n stf pk pw pm pb)))))) 0 0 et_no := by
  refine et_startP (by decide) rfl (Nat.le_of_ble_eq_true rfl) ?_
  intro p e s m args below meth c hx hb hr hts0 hown hlocks hml hP hC ls hl
  have hts : ∀ w ∈ W0, w.before args s = true := fun w h => hts0 w (List.mem_cons_of_mem _ h)
  have hown : s.vm.findClass RX0 = some m.cls := hown
  have hl : lv_has ls 2 [(0, .ref b), (1, .ref po)] := hl
  refine lv_aload_n hx hb dX0_inCheck_0 rfl (lv_at hl 0 rfl) ?_
  refine lv_aload_n hx hb dX0_inCheck_1 rfl (lv_at hl 1 rfl) ?_
  refine va_getN (D := gD g) (ci := 2) (v := .int pk) (C := RX2) (T := TX2) (N := 5) hx hb hts inW_X2 hown hC.1 hP 3 rfl rfl 0 (by decide) (et_nwF hC (List.mem_of_getElem? (i := 12) rfl)) (fun _ h9 => h9) rfl dX0_inCheck_2 ?_
  refine lv_aload_n hx hb dX0_inCheck_5 rfl (lv_at hl 1 rfl) ?_
  refine va_getN (D := gD g) (ci := 2) (v := .int pm) (C := RX2) (T := TX2) (N := 5) hx hb hts inW_X2 hown hC.1 hP 3 rfl rfl 2 (by decide) (et_nwF hC (List.mem_of_getElem? (i := 13) rfl)) (fun _ h9 => h9) rfl dX0_inCheck_6 ?_
  refine lv_aload_n hx hb dX0_inCheck_9 rfl (lv_at hl 1 rfl) ?_
  refine va_getN (D := gD g) (ci := 2) (v := .int pw) (C := RX2) (T := TX2) (N := 5) hx hb hts inW_X2 hown hC.1 hP 3 rfl rfl 1 (by decide) (et_nwF hC (List.mem_of_getElem? (i := 14) rfl)) (fun _ h9 => h9) rfl dX0_inCheck_10 ?_
  refine et_callP1 (v := .long (mX0_bit pw)) (va_runS (As := [.int pw]) (rest := [.int pm, .int pk, .ref b]) ⟨hx, hb, hml, hown, hts⟩ (c_X0_bit l g pw) (va_cwS 1 hts (W0_gS w_107 w_108 w_77 w_109) rfl rfl rfl (by decide +kernel) ⟨Nat.le_of_ble_eq_true rfl, Nat.le_of_ble_eq_true rfl⟩) (et_preS hP hC [] rfl) rfl rfl hl.1 rfl (lv_room (Nat.le_of_ble_eq_true rfl)) dX0_inCheck_13 ⟨Nat.le_of_ble_eq_true rfl, Nat.le_of_ble_eq_true rfl⟩) ?_
  refine et_callP1 (v := .long (mX0_attacked n stf pk pm (mX0_bit pw))) (va_runV (As := [.int pk, .int pm, .long (mX0_bit pw)]) (rest := []) ⟨hx, hb, hml, hown, hts⟩ (c_X0_attacked l g b q1 q2 FI RI n al ff lf sqf stf pk pm (mX0_bit pw) (by assumption)) (cwV 3 hts (W0_gV w_323 w_325 w_12 w_77 w_326) rfl rfl rfl (by decide +kernel) ⟨Nat.le_of_ble_eq_true rfl, Nat.le_of_ble_eq_true rfl⟩) (et_preV hP hC [0, 1, 2] rfl (ci := 0) (q0 := 0) rfl rfl) rfl rfl hl.1 rfl (lv_room (Nat.le_of_ble_eq_true rfl)) dX0_inCheck_16 ⟨Nat.le_of_ble_eq_true rfl, Nat.le_of_ble_eq_true rfl⟩) ?_
  refine lv_aload_n hx hb dX0_inCheck_19 rfl (lv_at hl 1 rfl) ?_
  refine va_getN (D := gD g) (ci := 2) (v := .int pb) (C := RX2) (T := TX2) (N := 5) hx hb hts inW_X2 hown hC.1 hP 3 rfl rfl 3 (by decide) (et_nwF hC (List.mem_of_getElem? (i := 10) rfl)) (fun _ h9 => h9) rfl dX0_inCheck_20 ?_
  refine et_callP1 (v := .long (mX0_bit pb)) (va_runS (As := [.int pb]) (rest := [.long (mX0_attacked n stf pk pm (mX0_bit pw))]) ⟨hx, hb, hml, hown, hts⟩ (c_X0_bit l g pb) (va_cwS 1 hts (W0_gS w_107 w_108 w_77 w_109) rfl rfl rfl (by decide +kernel) ⟨Nat.le_of_ble_eq_true rfl, Nat.le_of_ble_eq_true rfl⟩) (et_preS hP hC [] rfl) rfl rfl hl.1 rfl (lv_room (Nat.le_of_ble_eq_true rfl)) dX0_inCheck_23 ⟨Nat.le_of_ble_eq_true rfl, Nat.le_of_ble_eq_true rfl⟩) ?_
  refine lv_land hx hb dX0_inCheck_26 ?_
  refine lv_lconst (v := (0 : Int64)) hx hb dX0_inCheck_27 rfl ?_
  refine W.lcmp hx hb dX0_inCheck_28 ?_
  refine lv_if_eq (tgt := 36) hx hb dX0_inCheck_29 (by decide) (fun c_1 => ?_) (fun c_1 => ?_)
  ·
    refine lv_iconst (v := (0 : Int32)) hx hb dX0_inCheck_36 (by decide) ?_
    have hfin : false = (mX0_inCheck n stf pk pw pm pb) := (by rw [mX0_inCheck, if_pos c_1])
    exact et_zret hx hb hr hlocks dX0_inCheck_37 (congrArg zI (hfin))
  ·
    refine lv_iconst (v := (1 : Int32)) hx hb dX0_inCheck_32 (by decide) ?_
    refine lv_goto (tgt := 37) hx hb dX0_inCheck_33 (by decide) ?_
    have hfin : true = (mX0_inCheck n stf pk pw pm pb) := (by rw [mX0_inCheck, if_neg c_1])
    exact et_zret hx hb hr hlocks dX0_inCheck_37 (congrArg zI (hfin))

def mX0_isPosition (FI : Int32) (RI : Int32) (n : Nat) (al : Int64) (ff : Int64) (lf : Int64) (sqf : Nat → Int32) (stf : Nat → Int32) (pk : Int32) (pw : Int32) (pm : Int32) (pb : Int32) (ps : Int32) : Bool :=
  if pk = 0 then
    if (zI (mX4_isSide ps)) = 0 then
      false
    else
      if pw < 0 then
        false
      else
        if (lg_cmp ((mX0_roomForBlack FI RI n al ff lf sqf pk pw pm) &&& (mX0_bit pb)) (0 : Int64)) = 0 then
          false
        else
          if ps = (1 : Int32) then
            true
          else
            if (zI (mX0_inCheck n stf pk pw pm pb)) = 0 then
              true
            else
              false
  else
    if (zI (mX4_isMan pk)) = 0 then
      false
    else
      if (zI (mX4_isSide ps)) = 0 then
        false
      else
        if pw < 0 then
          false
        else
          if (lg_cmp ((mX0_roomForBlack FI RI n al ff lf sqf pk pw pm) &&& (mX0_bit pb)) (0 : Int64)) = 0 then
            false
          else
            if ps = (1 : Int32) then
              true
            else
              if (zI (mX0_inCheck n stf pk pw pm pb)) = 0 then
                true
              else
                false
set_option maxHeartbeats 4000000 in
set_option maxRecDepth 100000 in
theorem c_X0_isPosition (l : Launch) (g : et_G) (b : Nat) (q1 : Nat) (q2 : Nat) (FI : Int32) (RI : Int32) (n : Nat) (al : Int64) (ff : Int64) (lf : Int64) (sqf : Nat → Int32) (stf : Nat → Int32) (po : Nat) (pk : Int32) (pw : Int32) (pm : Int32) (pb : Int32) (ps : Int32) (hn : n ≤ 64) : Met l yX0_isPosition (Cond.code yX0_isPosition cX0_isPosition 2 (some (.boolean)) :: W0) ({ frames := 4, cells := 0, slots := 0, locals := 88 } : Room) (et_Pc g ([(b, .inr (0, [.int FI, .int RI, .int (nI n), .ref q1, .ref q2, .long al, .long ff, .long lf])), (q1, .inl (gI g, n, .inl sqf)), (q2, .inl (gI g, 16 * n, .inl stf)), (po, .inr (2, [.int pk, .int pw, .int pm, .int pb, .int ps]))]) [.ref b, .ref po]) (et_QP (some (.int (zI ((mX0_isPosition FI RI n al ff lf sqf stf pk pw pm pb ps)))))) 0 0 et_no := by
  refine et_startP (by decide) rfl (Nat.le_of_ble_eq_true rfl) ?_
  intro p e s m args below meth c hx hb hr hts0 hown hlocks hml hP hC ls hl
  have hts : ∀ w ∈ W0, w.before args s = true := fun w h => hts0 w (List.mem_cons_of_mem _ h)
  have hown : s.vm.findClass RX0 = some m.cls := hown
  have hl : lv_has ls 2 [(0, .ref b), (1, .ref po)] := hl
  refine lv_aload_n hx hb dX0_isPosition_0 rfl (lv_at hl 1 rfl) ?_
  refine va_getN (D := gD g) (ci := 2) (v := .int pk) (C := RX2) (T := TX2) (N := 5) hx hb hts inW_X2 hown hC.1 hP 3 rfl rfl 0 (by decide) (et_nwF hC (List.mem_of_getElem? (i := 12) rfl)) (fun _ h9 => h9) rfl dX0_isPosition_1 ?_
  refine lv_if_eq (tgt := 17) hx hb dX0_isPosition_4 (by decide) (fun c_1 => ?_) (fun c_1 => ?_)
  ·
    refine lv_aload_n hx hb dX0_isPosition_17 rfl (lv_at hl 1 rfl) ?_
    refine va_getN (D := gD g) (ci := 2) (v := .int ps) (C := RX2) (T := TX2) (N := 5) hx hb hts inW_X2 hown hC.1 hP 3 rfl rfl 4 (by decide) (et_nwF hC (List.mem_of_getElem? (i := 11) rfl)) (fun _ h9 => h9) rfl dX0_isPosition_18 ?_
    refine et_callP1 (v := .int (zI (mX4_isSide ps))) (va_runSN (As := [.int ps]) (rest := []) ⟨hx, hb, hml, hown, hts⟩ (c_X4_isSide l g ps) ⟨va_cnB 1 hts (W0_gI w_294) rfl rfl rfl (et_nwM hC (List.mem_of_getElem? (i := 18) rfl)) (hts _ w_76) (by decide +kernel) ⟨Nat.le_of_ble_eq_true rfl, Nat.le_of_ble_eq_true rfl⟩, hts _ w_293, trivial⟩ (et_preS hP hC [] rfl) rfl rfl hl.1 rfl (lv_room (Nat.le_of_ble_eq_true rfl)) dX0_isPosition_21 ⟨Nat.le_of_ble_eq_true rfl, Nat.le_of_ble_eq_true rfl⟩) ?_
    refine lv_if_ne (tgt := 29) hx hb dX0_isPosition_24 (by decide) (fun c_2 => ?_) (fun c_2 => ?_)
    ·
      refine lv_aload_n hx hb dX0_isPosition_29 rfl (lv_at hl 1 rfl) ?_
      refine va_getN (D := gD g) (ci := 2) (v := .int pw) (C := RX2) (T := TX2) (N := 5) hx hb hts inW_X2 hown hC.1 hP 3 rfl rfl 1 (by decide) (et_nwF hC (List.mem_of_getElem? (i := 14) rfl)) (fun _ h9 => h9) rfl dX0_isPosition_30 ?_
      refine lv_if_lt (tgt := 65) hx hb dX0_isPosition_33 (by decide) (fun c_3 => ?_) (fun c_3 => ?_)
      ·
        refine lv_iconst (v := (0 : Int32)) hx hb dX0_isPosition_65 (by decide) ?_
        have hfin : false = (mX0_isPosition FI RI n al ff lf sqf stf pk pw pm pb ps) := (by rw [mX0_isPosition, if_pos c_1, if_neg c_2, if_pos c_3])
        exact et_zret hx hb hr hlocks dX0_isPosition_66 (congrArg zI (hfin))
      ·
        refine lv_aload_n hx hb dX0_isPosition_36 rfl (lv_at hl 0 rfl) ?_
        refine lv_aload_n hx hb dX0_isPosition_37 rfl (lv_at hl 1 rfl) ?_
        refine va_getN (D := gD g) (ci := 2) (v := .int pk) (C := RX2) (T := TX2) (N := 5) hx hb hts inW_X2 hown hC.1 hP 3 rfl rfl 0 (by decide) (et_nwF hC (List.mem_of_getElem? (i := 12) rfl)) (fun _ h9 => h9) rfl dX0_isPosition_38 ?_
        refine lv_aload_n hx hb dX0_isPosition_41 rfl (lv_at hl 1 rfl) ?_
        refine va_getN (D := gD g) (ci := 2) (v := .int pw) (C := RX2) (T := TX2) (N := 5) hx hb hts inW_X2 hown hC.1 hP 3 rfl rfl 1 (by decide) (et_nwF hC (List.mem_of_getElem? (i := 14) rfl)) (fun _ h9 => h9) rfl dX0_isPosition_42 ?_
        refine lv_aload_n hx hb dX0_isPosition_45 rfl (lv_at hl 1 rfl) ?_
        refine va_getN (D := gD g) (ci := 2) (v := .int pm) (C := RX2) (T := TX2) (N := 5) hx hb hts inW_X2 hown hC.1 hP 3 rfl rfl 2 (by decide) (et_nwF hC (List.mem_of_getElem? (i := 13) rfl)) (fun _ h9 => h9) rfl dX0_isPosition_46 ?_
        refine et_callP1 (v := .long (mX0_roomForBlack FI RI n al ff lf sqf pk pw pm)) (va_runV (As := [.int pk, .int pw, .int pm]) (rest := []) ⟨hx, hb, hml, hown, hts⟩ (c_X0_roomForBlack l g b q1 q2 FI RI n al ff lf sqf stf pk pw pm (by assumption)) (cwV 3 hts (W0_gV w_295 w_297 w_5 w_77 w_298) rfl rfl rfl (by decide +kernel) ⟨Nat.le_of_ble_eq_true rfl, Nat.le_of_ble_eq_true rfl⟩) (et_preV hP hC [0, 1, 2] rfl (ci := 0) (q0 := 0) rfl rfl) rfl rfl hl.1 rfl (lv_room (Nat.le_of_ble_eq_true rfl)) dX0_isPosition_49 ⟨Nat.le_of_ble_eq_true rfl, Nat.le_of_ble_eq_true rfl⟩) ?_
        refine lv_aload_n hx hb dX0_isPosition_52 rfl (lv_at hl 1 rfl) ?_
        refine va_getN (D := gD g) (ci := 2) (v := .int pb) (C := RX2) (T := TX2) (N := 5) hx hb hts inW_X2 hown hC.1 hP 3 rfl rfl 3 (by decide) (et_nwF hC (List.mem_of_getElem? (i := 10) rfl)) (fun _ h9 => h9) rfl dX0_isPosition_53 ?_
        refine et_callP1 (v := .long (mX0_bit pb)) (va_runS (As := [.int pb]) (rest := [.long (mX0_roomForBlack FI RI n al ff lf sqf pk pw pm)]) ⟨hx, hb, hml, hown, hts⟩ (c_X0_bit l g pb) (va_cwS 1 hts (W0_gS w_107 w_108 w_77 w_109) rfl rfl rfl (by decide +kernel) ⟨Nat.le_of_ble_eq_true rfl, Nat.le_of_ble_eq_true rfl⟩) (et_preS hP hC [] rfl) rfl rfl hl.1 rfl (lv_room (Nat.le_of_ble_eq_true rfl)) dX0_isPosition_56 ⟨Nat.le_of_ble_eq_true rfl, Nat.le_of_ble_eq_true rfl⟩) ?_
        refine lv_land hx hb dX0_isPosition_59 ?_
        refine lv_lconst (v := (0 : Int64)) hx hb dX0_isPosition_60 rfl ?_
        refine W.lcmp hx hb dX0_isPosition_61 ?_
        refine lv_if_ne (tgt := 67) hx hb dX0_isPosition_62 (by decide) (fun c_4 => ?_) (fun c_4 => ?_)
        ·
          refine lv_aload_n hx hb dX0_isPosition_67 rfl (lv_at hl 1 rfl) ?_
          refine va_getN (D := gD g) (ci := 2) (v := .int ps) (C := RX2) (T := TX2) (N := 5) hx hb hts inW_X2 hown hC.1 hP 3 rfl rfl 4 (by decide) (et_nwF hC (List.mem_of_getElem? (i := 11) rfl)) (fun _ h9 => h9) rfl dX0_isPosition_68 ?_
          refine lv_iconst (v := (1 : Int32)) hx hb dX0_isPosition_71 (by decide) ?_
          refine lv_icmp_eq (tgt := 83) hx hb dX0_isPosition_72 (by decide) (fun c_5 => ?_) (fun c_5 => ?_)
          ·
            refine lv_iconst (v := (1 : Int32)) hx hb dX0_isPosition_83 (by decide) ?_
            refine lv_goto (tgt := 88) hx hb dX0_isPosition_84 (by decide) ?_
            have hfin : true = (mX0_isPosition FI RI n al ff lf sqf stf pk pw pm pb ps) := (by rw [mX0_isPosition, if_pos c_1, if_neg c_2, if_neg c_3, if_neg c_4, if_pos c_5])
            exact et_zret hx hb hr hlocks dX0_isPosition_88 (congrArg zI (hfin))
          ·
            refine lv_aload_n hx hb dX0_isPosition_75 rfl (lv_at hl 0 rfl) ?_
            refine lv_aload_n hx hb dX0_isPosition_76 rfl (lv_at hl 1 rfl) ?_
            refine et_callP1 (v := .int (zI (mX0_inCheck n stf pk pw pm pb))) (va_runV (As := [.ref po]) (rest := []) ⟨hx, hb, hml, hown, hts⟩ (c_X0_inCheck l g b q1 q2 FI RI n al ff lf sqf stf po pk pw pm pb ps (by assumption)) (cwV 1 hts (W0_gV w_319 w_321 w_11 w_77 w_322) rfl rfl rfl (by decide +kernel) ⟨Nat.le_of_ble_eq_true rfl, Nat.le_of_ble_eq_true rfl⟩) (et_preV hP hC [0, 1, 2, 3] rfl (ci := 0) (q0 := 0) rfl rfl) rfl rfl hl.1 rfl (lv_room (Nat.le_of_ble_eq_true rfl)) dX0_isPosition_77 ⟨Nat.le_of_ble_eq_true rfl, Nat.le_of_ble_eq_true rfl⟩) ?_
            refine lv_if_ne (tgt := 87) hx hb dX0_isPosition_80 (by decide) (fun c_6 => ?_) (fun c_6 => ?_)
            ·
              refine lv_iconst (v := (0 : Int32)) hx hb dX0_isPosition_87 (by decide) ?_
              have hfin : false = (mX0_isPosition FI RI n al ff lf sqf stf pk pw pm pb ps) := (by rw [mX0_isPosition, if_pos c_1, if_neg c_2, if_neg c_3, if_neg c_4, if_neg c_5, if_neg c_6])
              exact et_zret hx hb hr hlocks dX0_isPosition_88 (congrArg zI (hfin))
            ·
              refine lv_iconst (v := (1 : Int32)) hx hb dX0_isPosition_83 (by decide) ?_
              refine lv_goto (tgt := 88) hx hb dX0_isPosition_84 (by decide) ?_
              have hfin : true = (mX0_isPosition FI RI n al ff lf sqf stf pk pw pm pb ps) := (by rw [mX0_isPosition, if_pos c_1, if_neg c_2, if_neg c_3, if_neg c_4, if_neg c_5, if_pos c_6])
              exact et_zret hx hb hr hlocks dX0_isPosition_88 (congrArg zI (hfin))
        ·
          refine lv_iconst (v := (0 : Int32)) hx hb dX0_isPosition_65 (by decide) ?_
          have hfin : false = (mX0_isPosition FI RI n al ff lf sqf stf pk pw pm pb ps) := (by rw [mX0_isPosition, if_pos c_1, if_neg c_2, if_neg c_3, if_pos c_4])
          exact et_zret hx hb hr hlocks dX0_isPosition_66 (congrArg zI (hfin))
    ·
      refine lv_iconst (v := (0 : Int32)) hx hb dX0_isPosition_27 (by decide) ?_
      have hfin : false = (mX0_isPosition FI RI n al ff lf sqf stf pk pw pm pb ps) := (by rw [mX0_isPosition, if_pos c_1, if_pos c_2])
      exact et_zret hx hb hr hlocks dX0_isPosition_28 (congrArg zI (hfin))
  ·
    refine lv_aload_n hx hb dX0_isPosition_7 rfl (lv_at hl 1 rfl) ?_
    refine va_getN (D := gD g) (ci := 2) (v := .int pk) (C := RX2) (T := TX2) (N := 5) hx hb hts inW_X2 hown hC.1 hP 3 rfl rfl 0 (by decide) (et_nwF hC (List.mem_of_getElem? (i := 12) rfl)) (fun _ h9 => h9) rfl dX0_isPosition_8 ?_
    refine et_callP1 (v := .int (zI (mX4_isMan pk))) (va_runSN (As := [.int pk]) (rest := []) ⟨hx, hb, hml, hown, hts⟩ (c_X4_isMan l g pk) ⟨va_cnB 1 hts (W0_gI w_291) rfl rfl rfl (et_nwM hC (List.mem_of_getElem? (i := 17) rfl)) (hts _ w_76) (by decide +kernel) ⟨Nat.le_of_ble_eq_true rfl, Nat.le_of_ble_eq_true rfl⟩, hts _ w_290, trivial⟩ (et_preS hP hC [] rfl) rfl rfl hl.1 rfl (lv_room (Nat.le_of_ble_eq_true rfl)) dX0_isPosition_11 ⟨Nat.le_of_ble_eq_true rfl, Nat.le_of_ble_eq_true rfl⟩) ?_
    refine lv_if_eq (tgt := 27) hx hb dX0_isPosition_14 (by decide) (fun c_7 => ?_) (fun c_7 => ?_)
    ·
      refine lv_iconst (v := (0 : Int32)) hx hb dX0_isPosition_27 (by decide) ?_
      have hfin : false = (mX0_isPosition FI RI n al ff lf sqf stf pk pw pm pb ps) := (by rw [mX0_isPosition, if_neg c_1, if_pos c_7])
      exact et_zret hx hb hr hlocks dX0_isPosition_28 (congrArg zI (hfin))
    ·
      refine lv_aload_n hx hb dX0_isPosition_17 rfl (lv_at hl 1 rfl) ?_
      refine va_getN (D := gD g) (ci := 2) (v := .int ps) (C := RX2) (T := TX2) (N := 5) hx hb hts inW_X2 hown hC.1 hP 3 rfl rfl 4 (by decide) (et_nwF hC (List.mem_of_getElem? (i := 11) rfl)) (fun _ h9 => h9) rfl dX0_isPosition_18 ?_
      refine et_callP1 (v := .int (zI (mX4_isSide ps))) (va_runSN (As := [.int ps]) (rest := []) ⟨hx, hb, hml, hown, hts⟩ (c_X4_isSide l g ps) ⟨va_cnB 1 hts (W0_gI w_294) rfl rfl rfl (et_nwM hC (List.mem_of_getElem? (i := 18) rfl)) (hts _ w_76) (by decide +kernel) ⟨Nat.le_of_ble_eq_true rfl, Nat.le_of_ble_eq_true rfl⟩, hts _ w_293, trivial⟩ (et_preS hP hC [] rfl) rfl rfl hl.1 rfl (lv_room (Nat.le_of_ble_eq_true rfl)) dX0_isPosition_21 ⟨Nat.le_of_ble_eq_true rfl, Nat.le_of_ble_eq_true rfl⟩) ?_
      refine lv_if_ne (tgt := 29) hx hb dX0_isPosition_24 (by decide) (fun c_8 => ?_) (fun c_8 => ?_)
      ·
        refine lv_aload_n hx hb dX0_isPosition_29 rfl (lv_at hl 1 rfl) ?_
        refine va_getN (D := gD g) (ci := 2) (v := .int pw) (C := RX2) (T := TX2) (N := 5) hx hb hts inW_X2 hown hC.1 hP 3 rfl rfl 1 (by decide) (et_nwF hC (List.mem_of_getElem? (i := 14) rfl)) (fun _ h9 => h9) rfl dX0_isPosition_30 ?_
        refine lv_if_lt (tgt := 65) hx hb dX0_isPosition_33 (by decide) (fun c_9 => ?_) (fun c_9 => ?_)
        ·
          refine lv_iconst (v := (0 : Int32)) hx hb dX0_isPosition_65 (by decide) ?_
          have hfin : false = (mX0_isPosition FI RI n al ff lf sqf stf pk pw pm pb ps) := (by rw [mX0_isPosition, if_neg c_1, if_neg c_7, if_neg c_8, if_pos c_9])
          exact et_zret hx hb hr hlocks dX0_isPosition_66 (congrArg zI (hfin))
        ·
          refine lv_aload_n hx hb dX0_isPosition_36 rfl (lv_at hl 0 rfl) ?_
          refine lv_aload_n hx hb dX0_isPosition_37 rfl (lv_at hl 1 rfl) ?_
          refine va_getN (D := gD g) (ci := 2) (v := .int pk) (C := RX2) (T := TX2) (N := 5) hx hb hts inW_X2 hown hC.1 hP 3 rfl rfl 0 (by decide) (et_nwF hC (List.mem_of_getElem? (i := 12) rfl)) (fun _ h9 => h9) rfl dX0_isPosition_38 ?_
          refine lv_aload_n hx hb dX0_isPosition_41 rfl (lv_at hl 1 rfl) ?_
          refine va_getN (D := gD g) (ci := 2) (v := .int pw) (C := RX2) (T := TX2) (N := 5) hx hb hts inW_X2 hown hC.1 hP 3 rfl rfl 1 (by decide) (et_nwF hC (List.mem_of_getElem? (i := 14) rfl)) (fun _ h9 => h9) rfl dX0_isPosition_42 ?_
          refine lv_aload_n hx hb dX0_isPosition_45 rfl (lv_at hl 1 rfl) ?_
          refine va_getN (D := gD g) (ci := 2) (v := .int pm) (C := RX2) (T := TX2) (N := 5) hx hb hts inW_X2 hown hC.1 hP 3 rfl rfl 2 (by decide) (et_nwF hC (List.mem_of_getElem? (i := 13) rfl)) (fun _ h9 => h9) rfl dX0_isPosition_46 ?_
          refine et_callP1 (v := .long (mX0_roomForBlack FI RI n al ff lf sqf pk pw pm)) (va_runV (As := [.int pk, .int pw, .int pm]) (rest := []) ⟨hx, hb, hml, hown, hts⟩ (c_X0_roomForBlack l g b q1 q2 FI RI n al ff lf sqf stf pk pw pm (by assumption)) (cwV 3 hts (W0_gV w_295 w_297 w_5 w_77 w_298) rfl rfl rfl (by decide +kernel) ⟨Nat.le_of_ble_eq_true rfl, Nat.le_of_ble_eq_true rfl⟩) (et_preV hP hC [0, 1, 2] rfl (ci := 0) (q0 := 0) rfl rfl) rfl rfl hl.1 rfl (lv_room (Nat.le_of_ble_eq_true rfl)) dX0_isPosition_49 ⟨Nat.le_of_ble_eq_true rfl, Nat.le_of_ble_eq_true rfl⟩) ?_
          refine lv_aload_n hx hb dX0_isPosition_52 rfl (lv_at hl 1 rfl) ?_
          refine va_getN (D := gD g) (ci := 2) (v := .int pb) (C := RX2) (T := TX2) (N := 5) hx hb hts inW_X2 hown hC.1 hP 3 rfl rfl 3 (by decide) (et_nwF hC (List.mem_of_getElem? (i := 10) rfl)) (fun _ h9 => h9) rfl dX0_isPosition_53 ?_
          refine et_callP1 (v := .long (mX0_bit pb)) (va_runS (As := [.int pb]) (rest := [.long (mX0_roomForBlack FI RI n al ff lf sqf pk pw pm)]) ⟨hx, hb, hml, hown, hts⟩ (c_X0_bit l g pb) (va_cwS 1 hts (W0_gS w_107 w_108 w_77 w_109) rfl rfl rfl (by decide +kernel) ⟨Nat.le_of_ble_eq_true rfl, Nat.le_of_ble_eq_true rfl⟩) (et_preS hP hC [] rfl) rfl rfl hl.1 rfl (lv_room (Nat.le_of_ble_eq_true rfl)) dX0_isPosition_56 ⟨Nat.le_of_ble_eq_true rfl, Nat.le_of_ble_eq_true rfl⟩) ?_
          refine lv_land hx hb dX0_isPosition_59 ?_
          refine lv_lconst (v := (0 : Int64)) hx hb dX0_isPosition_60 rfl ?_
          refine W.lcmp hx hb dX0_isPosition_61 ?_
          refine lv_if_ne (tgt := 67) hx hb dX0_isPosition_62 (by decide) (fun c_10 => ?_) (fun c_10 => ?_)
          ·
            refine lv_aload_n hx hb dX0_isPosition_67 rfl (lv_at hl 1 rfl) ?_
            refine va_getN (D := gD g) (ci := 2) (v := .int ps) (C := RX2) (T := TX2) (N := 5) hx hb hts inW_X2 hown hC.1 hP 3 rfl rfl 4 (by decide) (et_nwF hC (List.mem_of_getElem? (i := 11) rfl)) (fun _ h9 => h9) rfl dX0_isPosition_68 ?_
            refine lv_iconst (v := (1 : Int32)) hx hb dX0_isPosition_71 (by decide) ?_
            refine lv_icmp_eq (tgt := 83) hx hb dX0_isPosition_72 (by decide) (fun c_11 => ?_) (fun c_11 => ?_)
            ·
              refine lv_iconst (v := (1 : Int32)) hx hb dX0_isPosition_83 (by decide) ?_
              refine lv_goto (tgt := 88) hx hb dX0_isPosition_84 (by decide) ?_
              have hfin : true = (mX0_isPosition FI RI n al ff lf sqf stf pk pw pm pb ps) := (by rw [mX0_isPosition, if_neg c_1, if_neg c_7, if_neg c_8, if_neg c_9, if_neg c_10, if_pos c_11])
              exact et_zret hx hb hr hlocks dX0_isPosition_88 (congrArg zI (hfin))
            ·
              refine lv_aload_n hx hb dX0_isPosition_75 rfl (lv_at hl 0 rfl) ?_
              refine lv_aload_n hx hb dX0_isPosition_76 rfl (lv_at hl 1 rfl) ?_
              refine et_callP1 (v := .int (zI (mX0_inCheck n stf pk pw pm pb))) (va_runV (As := [.ref po]) (rest := []) ⟨hx, hb, hml, hown, hts⟩ (c_X0_inCheck l g b q1 q2 FI RI n al ff lf sqf stf po pk pw pm pb ps (by assumption)) (cwV 1 hts (W0_gV w_319 w_321 w_11 w_77 w_322) rfl rfl rfl (by decide +kernel) ⟨Nat.le_of_ble_eq_true rfl, Nat.le_of_ble_eq_true rfl⟩) (et_preV hP hC [0, 1, 2, 3] rfl (ci := 0) (q0 := 0) rfl rfl) rfl rfl hl.1 rfl (lv_room (Nat.le_of_ble_eq_true rfl)) dX0_isPosition_77 ⟨Nat.le_of_ble_eq_true rfl, Nat.le_of_ble_eq_true rfl⟩) ?_
              refine lv_if_ne (tgt := 87) hx hb dX0_isPosition_80 (by decide) (fun c_12 => ?_) (fun c_12 => ?_)
              ·
                refine lv_iconst (v := (0 : Int32)) hx hb dX0_isPosition_87 (by decide) ?_
                have hfin : false = (mX0_isPosition FI RI n al ff lf sqf stf pk pw pm pb ps) := (by rw [mX0_isPosition, if_neg c_1, if_neg c_7, if_neg c_8, if_neg c_9, if_neg c_10, if_neg c_11, if_neg c_12])
                exact et_zret hx hb hr hlocks dX0_isPosition_88 (congrArg zI (hfin))
              ·
                refine lv_iconst (v := (1 : Int32)) hx hb dX0_isPosition_83 (by decide) ?_
                refine lv_goto (tgt := 88) hx hb dX0_isPosition_84 (by decide) ?_
                have hfin : true = (mX0_isPosition FI RI n al ff lf sqf stf pk pw pm pb ps) := (by rw [mX0_isPosition, if_neg c_1, if_neg c_7, if_neg c_8, if_neg c_9, if_neg c_10, if_neg c_11, if_pos c_12])
                exact et_zret hx hb hr hlocks dX0_isPosition_88 (congrArg zI (hfin))
          ·
            refine lv_iconst (v := (0 : Int32)) hx hb dX0_isPosition_65 (by decide) ?_
            have hfin : false = (mX0_isPosition FI RI n al ff lf sqf stf pk pw pm pb ps) := (by rw [mX0_isPosition, if_neg c_1, if_neg c_7, if_neg c_8, if_neg c_9, if_pos c_10])
            exact et_zret hx hb hr hlocks dX0_isPosition_66 (congrArg zI (hfin))
      ·
        refine lv_iconst (v := (0 : Int32)) hx hb dX0_isPosition_27 (by decide) ?_
        have hfin : false = (mX0_isPosition FI RI n al ff lf sqf stf pk pw pm pb ps) := (by rw [mX0_isPosition, if_neg c_1, if_neg c_7, if_pos c_8])
        exact et_zret hx hb hr hlocks dX0_isPosition_28 (congrArg zI (hfin))
