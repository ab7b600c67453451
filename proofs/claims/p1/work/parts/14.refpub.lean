theorem et_at1 {x : Int32} (h : ∃ j : Nat, j < 262144 ∧ x = nI j) : et_r64 (x / (4096 : Int32)) := by
  obtain ⟨j, hj, rfl⟩ := h
  rw [show (4096 : Int32) = nI 4096 from rfl, pk_div (by omega) (by omega) (by omega)]
  exact ⟨_, by omega, rfl⟩
theorem et_at2 {x : Int32} (h : ∃ j : Nat, j < 262144 ∧ x = nI j) : et_r64 ((x / (64 : Int32)) - (x / (64 : Int32)) / (64 : Int32) * (64 : Int32)) := by
  obtain ⟨j, hj, rfl⟩ := h
  rw [show (64 : Int32) = nI 64 from rfl, pk_div (by omega) (by omega) (by omega), pk_rem (by omega) (by omega) (by omega)]
  exact ⟨_, by omega, rfl⟩
theorem et_at3 {x : Int32} (h : ∃ j : Nat, j < 262144 ∧ x = nI j) : et_r64 (x - x / (64 : Int32) * (64 : Int32)) := by
  obtain ⟨j, hj, rfl⟩ := h
  rw [show (64 : Int32) = nI 64 from rfl, pk_rem (by omega) (by omega) (by omega)]
  exact ⟨_, by omega, rfl⟩
theorem et_ati {i : Nat} (h : i < 262144) : ∃ j : Nat, j < 262144 ∧ nI i = nI j := ⟨i, h, rfl⟩

def mX5_isOne (mF : Int32) (mR : Int32) (tb : Nat → Int64) (kd : Int32) (who : Int32) (nn : Int32) (at_ : Int32) : Bool :=
  if (zI (mX5_isSquare mF mR (at_ / (4096 : Int32)))) = 0 then
    false
  else
    if (zI (mX5_isSquare mF mR ((at_ / (64 : Int32)) - (at_ / (64 : Int32)) / (64 : Int32) * (64 : Int32)))) = 0 then
      false
    else
      if (zI (mX5_isSquare mF mR (at_ - at_ / (64 : Int32) * (64 : Int32)))) = 0 then
        false
      else
        if (mX5_known tb kd who (at_ / (4096 : Int32)) ((at_ / (64 : Int32)) - (at_ / (64 : Int32)) / (64 : Int32) * (64 : Int32)) (at_ - at_ / (64 : Int32) * (64 : Int32))) = nn then
          if (zI (mX5_isPosition mF mR kd (at_ / (4096 : Int32)) ((at_ / (64 : Int32)) - (at_ / (64 : Int32)) / (64 : Int32) * (64 : Int32)) (at_ - at_ / (64 : Int32) * (64 : Int32)) who)) = 0 then
            false
          else
            true
        else
          false
set_option maxHeartbeats 4000000 in
set_option maxRecDepth 100000 in
theorem c_X5_isOne (l : Launch) (g : et_G) (md : Nat) (r1 : Nat) (r2 : Nat) (r3 : Nat) (r4 : Nat) (mF : Int32) (mR : Int32) (th : Int32) (tb : Nat → Int64) (bu : Nat → Int32) (gr : Nat → Int32) (mt : Bool) (mk : Int32) (mw : Int32) (mm : Int32) (mb : Int32) (ms : Int32) (ml : Nat → Int32) (my : Int32) (kd : Int32) (who : Int32) (nn : Int32) (at_ : Int32) (hF : et_b8 mF) (hR : et_b8 mR) (hkd : et_kd kd) (hwho : et_sd who) (hat : ∃ j : Nat, j < 262144 ∧ at_ = nI j) : Met l yX5_isOne (Cond.code yX5_isOne cX5_isOne 8 (some (.boolean)) :: W0) ({ frames := 3, cells := 0, slots := 0, locals := 80 } : Room) (et_Pc g ([(md, .inr (5, [.int th, .int mF, .int mR, .ref r1, .ref r2, .ref r3, .int (zI mt), .int mk, .int mw, .int mm, .int mb, .int ms, .ref r4, .int my])), (r1, .inl (gJ g, 327680, .inr (.inl tb))), (r2, .inl (gZ g, 6, .inl bu)), (r3, .inl (gI g, 6, .inl gr)), (r4, .inl (gI g, 64, .inl ml))]) [.ref md, .int kd, .int who, .int nn, .int at_]) (et_QP (some (.int (zI ((mX5_isOne mF mR tb kd who nn at_)))))) 0 0 et_no := by
  refine et_startP (by decide) rfl (Nat.le_of_ble_eq_true rfl) ?_
  intro p e s m args below meth c hx hb hr hts0 hown hlocks hml hP hC ls hl
  have hts : ∀ w ∈ W0, w.before args s = true := fun w h => hts0 w (List.mem_cons_of_mem _ h)
  have hown : s.vm.findClass RX5 = some m.cls := hown
  have hl : lv_has ls 8 [(0, .ref md), (1, .int kd), (2, .int who), (3, .int nn), (4, .int at_)] := hl
  refine lv_iload hx hb dX5_isOne_0 (lv_at hl 4 rfl) ?_
  refine lv_sipush (v := (4096 : Int32)) hx hb dX5_isOne_2 (by decide) ?_
  refine lv_idiv hx hb dX5_isOne_5 (by decide) ?_
  refine lv_istore (lv' := [(5, .int (at_ / (4096 : Int32))), (0, .ref md), (1, .int kd), (2, .int who), (3, .int nn), (4, .int at_)]) hx hb dX5_isOne_6 hl (by decide) rfl (fun ls hl => ?_)
  refine lv_iload hx hb dX5_isOne_8 (lv_at hl 5 rfl) ?_
  refine lv_bipush (v := (64 : Int32)) hx hb dX5_isOne_10 (by decide) ?_
  refine lv_idiv hx hb dX5_isOne_12 (by decide) ?_
  refine lv_bipush (v := (64 : Int32)) hx hb dX5_isOne_13 (by decide) ?_
  refine lv_irem hx hb dX5_isOne_15 (by decide) ?_
  refine lv_istore (lv' := [(6, .int ((at_ / (64 : Int32)) - (at_ / (64 : Int32)) / (64 : Int32) * (64 : Int32))), (5, .int (at_ / (4096 : Int32))), (0, .ref md), (1, .int kd), (2, .int who), (3, .int nn), (4, .int at_)]) hx hb dX5_isOne_16 hl (by decide) rfl (fun ls hl => ?_)
  refine lv_iload hx hb dX5_isOne_18 (lv_at hl 6 rfl) ?_
  refine lv_bipush (v := (64 : Int32)) hx hb dX5_isOne_20 (by decide) ?_
  refine lv_irem hx hb dX5_isOne_22 (by decide) ?_
  refine lv_istore (lv' := [(7, .int (at_ - at_ / (64 : Int32) * (64 : Int32))), (6, .int ((at_ / (64 : Int32)) - (at_ / (64 : Int32)) / (64 : Int32) * (64 : Int32))), (5, .int (at_ / (4096 : Int32))), (0, .ref md), (1, .int kd), (2, .int who), (3, .int nn), (4, .int at_)]) hx hb dX5_isOne_23 hl (by decide) rfl (fun ls hl => ?_)
  refine lv_aload_n hx hb dX5_isOne_25 rfl (lv_at hl 3 rfl) ?_
  refine lv_iload hx hb dX5_isOne_26 (lv_at hl 2 rfl) ?_
  refine et_callP1 (v := .int (zI (mX5_isSquare mF mR (at_ / (4096 : Int32))))) (va_runV (As := [.int (at_ / (4096 : Int32))]) (rest := []) ⟨hx, hb, hml, hown, hts⟩ (c_X5_isSquare l g md r1 r2 r3 r4 mF mR th tb bu gr mt mk mw mm mb ms ml my (at_ / (4096 : Int32))) (cwV 1 hts (W0_gV w_796 w_798 w_52 w_82 w_799) rfl rfl rfl (by decide +kernel) ⟨Nat.le_of_ble_eq_true rfl, Nat.le_of_ble_eq_true rfl⟩) (et_preV hP hC [0, 1, 2, 3, 4] rfl (ci := 5) (q0 := 0) rfl rfl) rfl rfl hl.1 rfl (lv_room (Nat.le_of_ble_eq_true rfl)) dX5_isOne_28 ⟨Nat.le_of_ble_eq_true rfl, Nat.le_of_ble_eq_true rfl⟩) ?_
  refine lv_if_eq (tgt := 87) hx hb dX5_isOne_31 (by decide) (fun c_1 => ?_) (fun c_1 => ?_)
  ·
    refine lv_iconst (v := (0 : Int32)) hx hb dX5_isOne_87 (by decide) ?_
    have hfin : false = (mX5_isOne mF mR tb kd who nn at_) := (by rw [mX5_isOne, if_pos c_1])
    exact et_zret hx hb hr hlocks dX5_isOne_88 (congrArg zI (hfin))
  ·
    refine lv_aload_n hx hb dX5_isOne_34 rfl (lv_at hl 3 rfl) ?_
    refine lv_iload hx hb dX5_isOne_35 (lv_at hl 1 rfl) ?_
    refine et_callP1 (v := .int (zI (mX5_isSquare mF mR ((at_ / (64 : Int32)) - (at_ / (64 : Int32)) / (64 : Int32) * (64 : Int32))))) (va_runV (As := [.int ((at_ / (64 : Int32)) - (at_ / (64 : Int32)) / (64 : Int32) * (64 : Int32))]) (rest := []) ⟨hx, hb, hml, hown, hts⟩ (c_X5_isSquare l g md r1 r2 r3 r4 mF mR th tb bu gr mt mk mw mm mb ms ml my ((at_ / (64 : Int32)) - (at_ / (64 : Int32)) / (64 : Int32) * (64 : Int32))) (cwV 1 hts (W0_gV w_796 w_798 w_52 w_82 w_799) rfl rfl rfl (by decide +kernel) ⟨Nat.le_of_ble_eq_true rfl, Nat.le_of_ble_eq_true rfl⟩) (et_preV hP hC [0, 1, 2, 3, 4] rfl (ci := 5) (q0 := 0) rfl rfl) rfl rfl hl.1 rfl (lv_room (Nat.le_of_ble_eq_true rfl)) dX5_isOne_37 ⟨Nat.le_of_ble_eq_true rfl, Nat.le_of_ble_eq_true rfl⟩) ?_
    refine lv_if_eq (tgt := 87) hx hb dX5_isOne_40 (by decide) (fun c_2 => ?_) (fun c_2 => ?_)
    ·
      refine lv_iconst (v := (0 : Int32)) hx hb dX5_isOne_87 (by decide) ?_
      have hfin : false = (mX5_isOne mF mR tb kd who nn at_) := (by rw [mX5_isOne, if_neg c_1, if_pos c_2])
      exact et_zret hx hb hr hlocks dX5_isOne_88 (congrArg zI (hfin))
    ·
      refine lv_aload_n hx hb dX5_isOne_43 rfl (lv_at hl 3 rfl) ?_
      refine lv_iload hx hb dX5_isOne_44 (lv_at hl 0 rfl) ?_
      refine et_callP1 (v := .int (zI (mX5_isSquare mF mR (at_ - at_ / (64 : Int32) * (64 : Int32))))) (va_runV (As := [.int (at_ - at_ / (64 : Int32) * (64 : Int32))]) (rest := []) ⟨hx, hb, hml, hown, hts⟩ (c_X5_isSquare l g md r1 r2 r3 r4 mF mR th tb bu gr mt mk mw mm mb ms ml my (at_ - at_ / (64 : Int32) * (64 : Int32))) (cwV 1 hts (W0_gV w_796 w_798 w_52 w_82 w_799) rfl rfl rfl (by decide +kernel) ⟨Nat.le_of_ble_eq_true rfl, Nat.le_of_ble_eq_true rfl⟩) (et_preV hP hC [0, 1, 2, 3, 4] rfl (ci := 5) (q0 := 0) rfl rfl) rfl rfl hl.1 rfl (lv_room (Nat.le_of_ble_eq_true rfl)) dX5_isOne_46 ⟨Nat.le_of_ble_eq_true rfl, Nat.le_of_ble_eq_true rfl⟩) ?_
      refine lv_if_eq (tgt := 87) hx hb dX5_isOne_49 (by decide) (fun c_3 => ?_) (fun c_3 => ?_)
      ·
        refine lv_iconst (v := (0 : Int32)) hx hb dX5_isOne_87 (by decide) ?_
        have hfin : false = (mX5_isOne mF mR tb kd who nn at_) := (by rw [mX5_isOne, if_neg c_1, if_neg c_2, if_pos c_3])
        exact et_zret hx hb hr hlocks dX5_isOne_88 (congrArg zI (hfin))
      ·
        refine lv_aload_n hx hb dX5_isOne_52 rfl (lv_at hl 3 rfl) ?_
        refine lv_iload_n hx hb dX5_isOne_53 rfl (lv_at hl 4 rfl) ?_
        refine lv_iload_n hx hb dX5_isOne_54 rfl (lv_at hl 5 rfl) ?_
        refine lv_iload hx hb dX5_isOne_55 (lv_at hl 2 rfl) ?_
        refine lv_iload hx hb dX5_isOne_57 (lv_at hl 1 rfl) ?_
        refine lv_iload hx hb dX5_isOne_59 (lv_at hl 0 rfl) ?_
        refine et_callP1 (v := .int (mX5_known tb kd who (at_ / (4096 : Int32)) ((at_ / (64 : Int32)) - (at_ / (64 : Int32)) / (64 : Int32) * (64 : Int32)) (at_ - at_ / (64 : Int32) * (64 : Int32)))) (va_runV (As := [.int kd, .int who, .int (at_ / (4096 : Int32)), .int ((at_ / (64 : Int32)) - (at_ / (64 : Int32)) / (64 : Int32) * (64 : Int32)), .int (at_ - at_ / (64 : Int32) * (64 : Int32))]) (rest := []) ⟨hx, hb, hml, hown, hts⟩ (c_X5_known l g md r1 r2 r3 r4 mF mR th tb bu gr mt mk mw mm mb ms ml my kd who (at_ / (4096 : Int32)) ((at_ / (64 : Int32)) - (at_ / (64 : Int32)) / (64 : Int32) * (64 : Int32)) (at_ - at_ / (64 : Int32) * (64 : Int32)) (by assumption) (by assumption) (et_at1 hat) (et_at2 hat) (et_at3 hat)) (cwV 5 hts (W0_gV w_837 w_839 w_60 w_82 w_840) rfl rfl rfl (by decide +kernel) ⟨Nat.le_of_ble_eq_true rfl, Nat.le_of_ble_eq_true rfl⟩) (et_preV hP hC [0, 1, 2, 3, 4] rfl (ci := 5) (q0 := 0) rfl rfl) rfl rfl hl.1 rfl (lv_room (Nat.le_of_ble_eq_true rfl)) dX5_isOne_61 ⟨Nat.le_of_ble_eq_true rfl, Nat.le_of_ble_eq_true rfl⟩) ?_
        refine lv_iload_n hx hb dX5_isOne_64 rfl (lv_at hl 6 rfl) ?_
        refine lv_icmp_ne (tgt := 87) hx hb dX5_isOne_65 (by decide) (fun c_4 => ?_) (fun c_4 => ?_)
        ·
          refine lv_iconst (v := (0 : Int32)) hx hb dX5_isOne_87 (by decide) ?_
          have hfin : false = (mX5_isOne mF mR tb kd who nn at_) := (by rw [mX5_isOne, if_neg c_1, if_neg c_2, if_neg c_3, if_neg c_4])
          exact et_zret hx hb hr hlocks dX5_isOne_88 (congrArg zI (hfin))
        ·
          refine lv_aload_n hx hb dX5_isOne_68 rfl (lv_at hl 3 rfl) ?_
          refine lv_iload_n hx hb dX5_isOne_69 rfl (lv_at hl 4 rfl) ?_
          refine lv_iload hx hb dX5_isOne_70 (lv_at hl 2 rfl) ?_
          refine lv_iload hx hb dX5_isOne_72 (lv_at hl 1 rfl) ?_
          refine lv_iload hx hb dX5_isOne_74 (lv_at hl 0 rfl) ?_
          refine lv_iload_n hx hb dX5_isOne_76 rfl (lv_at hl 5 rfl) ?_
          refine et_callP1 (v := .int (zI (mX5_isPosition mF mR kd (at_ / (4096 : Int32)) ((at_ / (64 : Int32)) - (at_ / (64 : Int32)) / (64 : Int32) * (64 : Int32)) (at_ - at_ / (64 : Int32) * (64 : Int32)) who))) (va_runV (As := [.int kd, .int (at_ / (4096 : Int32)), .int ((at_ / (64 : Int32)) - (at_ / (64 : Int32)) / (64 : Int32) * (64 : Int32)), .int (at_ - at_ / (64 : Int32) * (64 : Int32)), .int who]) (rest := []) ⟨hx, hb, hml, hown, hts⟩ (c_X5_isPosition l g md r1 r2 r3 r4 mF mR th tb bu gr mt mk mw mm mb ms ml my kd (at_ / (4096 : Int32)) ((at_ / (64 : Int32)) - (at_ / (64 : Int32)) / (64 : Int32) * (64 : Int32)) (at_ - at_ / (64 : Int32) * (64 : Int32)) who (by assumption) (by assumption)) (cwV 5 hts (W0_gV w_792 w_794 w_51 w_82 w_795) rfl rfl rfl (by decide +kernel) ⟨Nat.le_of_ble_eq_true rfl, Nat.le_of_ble_eq_true rfl⟩) (et_preV hP hC [0, 1, 2, 3, 4] rfl (ci := 5) (q0 := 0) rfl rfl) rfl rfl hl.1 rfl (lv_room (Nat.le_of_ble_eq_true rfl)) dX5_isOne_77 ⟨Nat.le_of_ble_eq_true rfl, Nat.le_of_ble_eq_true rfl⟩) ?_
          refine lv_if_eq (tgt := 87) hx hb dX5_isOne_80 (by decide) (fun c_5 => ?_) (fun c_5 => ?_)
          ·
            refine lv_iconst (v := (0 : Int32)) hx hb dX5_isOne_87 (by decide) ?_
            have hfin : false = (mX5_isOne mF mR tb kd who nn at_) := (by rw [mX5_isOne, if_neg c_1, if_neg c_2, if_neg c_3, if_pos c_4, if_pos c_5])
            exact et_zret hx hb hr hlocks dX5_isOne_88 (congrArg zI (hfin))
          ·
            refine lv_iconst (v := (1 : Int32)) hx hb dX5_isOne_83 (by decide) ?_
            refine lv_goto (tgt := 88) hx hb dX5_isOne_84 (by decide) ?_
            have hfin : true = (mX5_isOne mF mR tb kd who nn at_) := (by rw [mX5_isOne, if_neg c_1, if_neg c_2, if_neg c_3, if_pos c_4, if_neg c_5])
            exact et_zret hx hb hr hlocks dX5_isOne_88 (congrArg zI (hfin))

def mX5_distance_1_V1 (mF : Int32) (mR : Int32) (ww : Int32) (wm : Int32) (wb : Int32) (who : Int32) : Int32 :=
  if (zI (mX5_isKind (1 : Int32))) = 0 then
    (1 : Int32)
  else
    if (zI (mX5_isPosition mF mR (1 : Int32) ww wm wb who)) = 0 then
      (1 : Int32)
    else
      (0 : Int32)
def mX5_distance_1 (mF : Int32) (mR : Int32) (tb : Nat → Int64) (gr : Nat → Int32) (fu_1_1_1_1 : Nat) (fu_1_3_2_2 : Nat) (fu_1_5_3_3 : Nat) (fu_1_7_4_4 : Nat) (fu_9_5_5 : Nat) (ww : Int32) (wm : Int32) (wb : Int32) (who : Int32) : Int32 × Int32 × (Nat → Int64) × (Nat → Int32) × (Nat → Int32) :=
  if (mX5_distance_1_V1 mF mR ww wm wb who) ≤ 0 then
    ((mX5_distanceOf_1 mF mR tb gr fu_1_1_1_1 fu_1_3_2_2 fu_1_5_3_3 fu_1_7_4_4 fu_9_5_5 ww wm wb who).1, (mX5_distance_1_V1 mF mR ww wm wb who), (mX5_distanceOf_1 mF mR tb gr fu_1_1_1_1 fu_1_3_2_2 fu_1_5_3_3 fu_1_7_4_4 fu_9_5_5 ww wm wb who).2.1, (mX5_distanceOf_1 mF mR tb gr fu_1_1_1_1 fu_1_3_2_2 fu_1_5_3_3 fu_1_7_4_4 fu_9_5_5 ww wm wb who).2.2, upd (upd (upd (upd (upd (fun _ => (0 : Int32)) (2 : Int32).toNatClampNeg (vp_nar .boolean (1 : Int32))) (3 : Int32).toNatClampNeg (vp_nar .boolean (1 : Int32))) (4 : Int32).toNatClampNeg (vp_nar .boolean (1 : Int32))) (5 : Int32).toNatClampNeg (vp_nar .boolean (1 : Int32))) (1 : Int32).toNatClampNeg (vp_nar .boolean (1 : Int32)))
  else
    ((0 : Int32), (mX5_distance_1_V1 mF mR ww wm wb who), tb, gr, (fun _ => (0 : Int32)))
theorem et_distV_1 {mF mR ww wm wb who : Int32} (h : mX5_distance_1_V1 mF mR ww wm wb who ≤ 0) : et_sd who ∧ et_r64 ww ∧ et_r64 wm ∧ et_r64 wb := by
  refine et_posr (mF := mF) (mR := mR) (kd := (1 : Int32)) (by decide) (fun h1 => ?_)
  unfold mX5_distance_1_V1 at h
  rw [if_neg (show ¬ zI (mX5_isKind (1 : Int32)) = 0 by decide), if_pos h1] at h
  exact absurd h (by decide)
set_option maxHeartbeats 4000000 in
set_option maxRecDepth 100000 in
theorem c_X5_distance_1 (l : Launch) (g : et_G) (md : Nat) (r1 : Nat) (r2 : Nat) (r3 : Nat) (r4 : Nat) (mF : Int32) (mR : Int32) (th : Int32) (tb : Nat → Int64) (gr : Nat → Int32) (mt : Bool) (mk : Int32) (mw : Int32) (mm : Int32) (mb : Int32) (ms : Int32) (ml : Nat → Int32) (my : Int32) (fu_1_1_1_1 : Nat) (fu_1_3_2_2 : Nat) (fu_1_5_3_3 : Nat) (fu_1_7_4_4 : Nat) (fu_9_5_5 : Nat) (ww : Int32) (wm : Int32) (wb : Int32) (who : Int32) (hF : et_b8 mF) (hR : et_b8 mR) (hT_2_2_6_6 : mX5_passAll_L1_ok mF mR (2 : Int32) (1 : Int32) fu_1_1_1_1 0 (0 : Int32) (0 : Int32) tb (upd gr (2 : Int32).toNatClampNeg (-1 : Int32)) = true) (hT_2_4_7_7 : mX5_passAll_L1_ok mF mR (3 : Int32) (1 : Int32) fu_1_3_2_2 0 (0 : Int32) (0 : Int32) ((mX5_build2_2 mF mR tb gr fu_1_1_1_1).1) (upd ((mX5_build2_2 mF mR tb gr fu_1_1_1_1).2) (3 : Int32).toNatClampNeg (-1 : Int32)) = true) (hT_2_6_8_8 : mX5_passAll_L1_ok mF mR (4 : Int32) (1 : Int32) fu_1_5_3_3 0 (0 : Int32) (0 : Int32) ((mX5_build2_3 mF mR ((mX5_build2_2 mF mR tb gr fu_1_1_1_1).1) ((mX5_build2_2 mF mR tb gr fu_1_1_1_1).2) fu_1_3_2_2).1) (upd ((mX5_build2_3 mF mR ((mX5_build2_2 mF mR tb gr fu_1_1_1_1).1) ((mX5_build2_2 mF mR tb gr fu_1_1_1_1).2) fu_1_3_2_2).2) (4 : Int32).toNatClampNeg (-1 : Int32)) = true) (hT_2_8_9_9 : mX5_passAll_L1_ok mF mR (5 : Int32) (1 : Int32) fu_1_7_4_4 0 (0 : Int32) (0 : Int32) ((mX5_build2_4 mF mR ((mX5_build2_3 mF mR ((mX5_build2_2 mF mR tb gr fu_1_1_1_1).1) ((mX5_build2_2 mF mR tb gr fu_1_1_1_1).2) fu_1_3_2_2).1) ((mX5_build2_3 mF mR ((mX5_build2_2 mF mR tb gr fu_1_1_1_1).1) ((mX5_build2_2 mF mR tb gr fu_1_1_1_1).2) fu_1_3_2_2).2) fu_1_5_3_3).1) (upd ((mX5_build2_4 mF mR ((mX5_build2_3 mF mR ((mX5_build2_2 mF mR tb gr fu_1_1_1_1).1) ((mX5_build2_2 mF mR tb gr fu_1_1_1_1).2) fu_1_3_2_2).1) ((mX5_build2_3 mF mR ((mX5_build2_2 mF mR tb gr fu_1_1_1_1).1) ((mX5_build2_2 mF mR tb gr fu_1_1_1_1).2) fu_1_3_2_2).2) fu_1_5_3_3).2) (5 : Int32).toNatClampNeg (-1 : Int32)) = true) (hT_10_10_10 : mX5_passAll_L1_ok mF mR (1 : Int32) (mX5_build_1_V4 mF mR tb gr fu_1_1_1_1 fu_1_3_2_2 fu_1_5_3_3 fu_1_7_4_4) fu_9_5_5 0 (0 : Int32) (0 : Int32) ((mX5_build2_5 mF mR ((mX5_build2_4 mF mR ((mX5_build2_3 mF mR ((mX5_build2_2 mF mR tb gr fu_1_1_1_1).1) ((mX5_build2_2 mF mR tb gr fu_1_1_1_1).2) fu_1_3_2_2).1) ((mX5_build2_3 mF mR ((mX5_build2_2 mF mR tb gr fu_1_1_1_1).1) ((mX5_build2_2 mF mR tb gr fu_1_1_1_1).2) fu_1_3_2_2).2) fu_1_5_3_3).1) ((mX5_build2_4 mF mR ((mX5_build2_3 mF mR ((mX5_build2_2 mF mR tb gr fu_1_1_1_1).1) ((mX5_build2_2 mF mR tb gr fu_1_1_1_1).2) fu_1_3_2_2).1) ((mX5_build2_3 mF mR ((mX5_build2_2 mF mR tb gr fu_1_1_1_1).1) ((mX5_build2_2 mF mR tb gr fu_1_1_1_1).2) fu_1_3_2_2).2) fu_1_5_3_3).2) fu_1_7_4_4).1) (upd ((mX5_build2_5 mF mR ((mX5_build2_4 mF mR ((mX5_build2_3 mF mR ((mX5_build2_2 mF mR tb gr fu_1_1_1_1).1) ((mX5_build2_2 mF mR tb gr fu_1_1_1_1).2) fu_1_3_2_2).1) ((mX5_build2_3 mF mR ((mX5_build2_2 mF mR tb gr fu_1_1_1_1).1) ((mX5_build2_2 mF mR tb gr fu_1_1_1_1).2) fu_1_3_2_2).2) fu_1_5_3_3).1) ((mX5_build2_4 mF mR ((mX5_build2_3 mF mR ((mX5_build2_2 mF mR tb gr fu_1_1_1_1).1) ((mX5_build2_2 mF mR tb gr fu_1_1_1_1).2) fu_1_3_2_2).1) ((mX5_build2_3 mF mR ((mX5_build2_2 mF mR tb gr fu_1_1_1_1).1) ((mX5_build2_2 mF mR tb gr fu_1_1_1_1).2) fu_1_3_2_2).2) fu_1_5_3_3).2) fu_1_7_4_4).2) (1 : Int32).toNatClampNeg (-1 : Int32)) = true) : Met l yX5_distance (Cond.code yX5_distance cX5_distance 6 (some (.int)) :: W0) ({ frames := 9, cells := 0, slots := 0, locals := 231 } : Room) (et_PcW g ([(md, .inr (5, [.int th, .int mF, .int mR, .ref r1, .ref r2, .ref r3, .int (zI mt), .int mk, .int mw, .int mm, .int mb, .int ms, .ref r4, .int my])), (r1, .inl (gJ g, 327680, .inr (.inl tb))), (r2, .inl (gZ g, 6, .inl (fun _ => (0 : Int32)))), (r3, .inl (gI g, 6, .inl gr)), (r4, .inl (gI g, 64, .inl ml))]) [.ref md, .int (1 : Int32), .int ww, .int wm, .int wb, .int who]) (et_QW g ([(md, .inr (5, [.int th, .int mF, .int mR, .ref r1, .ref r2, .ref r3, .int (zI mt), .int mk, .int mw, .int mm, .int mb, .int ms, .ref r4, .int my])), (r1, .inl (gJ g, 327680, .inr (.inl tb))), (r2, .inl (gZ g, 6, .inl (fun _ => (0 : Int32)))), (r3, .inl (gI g, 6, .inl gr)), (r4, .inl (gI g, 64, .inl ml))]) ([(md, .inr (5, [.int ((mX5_distance_1 mF mR tb gr fu_1_1_1_1 fu_1_3_2_2 fu_1_5_3_3 fu_1_7_4_4 fu_9_5_5 ww wm wb who).2.1), .int mF, .int mR, .ref r1, .ref r2, .ref r3, .int (zI mt), .int mk, .int mw, .int mm, .int mb, .int ms, .ref r4, .int my])), (r1, .inl (gJ g, 327680, .inr (.inl ((mX5_distance_1 mF mR tb gr fu_1_1_1_1 fu_1_3_2_2 fu_1_5_3_3 fu_1_7_4_4 fu_9_5_5 ww wm wb who).2.2.1)))), (r2, .inl (gZ g, 6, .inl ((mX5_distance_1 mF mR tb gr fu_1_1_1_1 fu_1_3_2_2 fu_1_5_3_3 fu_1_7_4_4 fu_9_5_5 ww wm wb who).2.2.2.2))), (r3, .inl (gI g, 6, .inl ((mX5_distance_1 mF mR tb gr fu_1_1_1_1 fu_1_3_2_2 fu_1_5_3_3 fu_1_7_4_4 fu_9_5_5 ww wm wb who).2.2.2.1))), (r4, .inl (gI g, 64, .inl ml))]) (some (.int ((mX5_distance_1 mF mR tb gr fu_1_1_1_1 fu_1_3_2_2 fu_1_5_3_3 fu_1_7_4_4 fu_9_5_5 ww wm wb who).1)))) 0 0 (et_ad ([(md, .inr (5, [.int th, .int mF, .int mR, .ref r1, .ref r2, .ref r3, .int (zI mt), .int mk, .int mw, .int mm, .int mb, .int ms, .ref r4, .int my])), (r1, .inl (gJ g, 327680, .inr (.inl tb))), (r2, .inl (gZ g, 6, .inl (fun _ => (0 : Int32)))), (r3, .inl (gI g, 6, .inl gr)), (r4, .inl (gI g, 64, .inl ml))])) := by
  refine et_startW (by decide) rfl (Nat.le_of_ble_eq_true rfl) ?_
  intro p e s m args below meth c hx hb hr hts0 hown hlocks hml hP hC hD hS ls hl
  have hts : ∀ w ∈ W0, w.before args s = true := fun w h => hts0 w (List.mem_cons_of_mem _ h)
  have hown : s.vm.findClass RX5 = some m.cls := hown
  have hl : lv_has ls 6 [(0, .ref md), (1, .int (1 : Int32)), (2, .int ww), (3, .int wm), (4, .int wb), (5, .int who)] := hl
  refine lv_aload_n hx hb dX5_distance_0 rfl (lv_at hl 0 rfl) ?_
  have hj1 : ∀ ls : Array Slot, lv_has ls 6 [(0, .ref md), (1, .int (1 : Int32)), (2, .int ww), (3, .int wm), (4, .int wb), (5, .int who)] → W p l e ({ frames := 9, cells := 0, slots := 0, locals := 231 } : Room) s m args below meth c s.heap [] 0 0 (MQ below (et_QW g ([(md, .inr (5, [.int th, .int mF, .int mR, .ref r1, .ref r2, .ref r3, .int (zI mt), .int mk, .int mw, .int mm, .int mb, .int ms, .ref r4, .int my])), (r1, .inl (gJ g, 327680, .inr (.inl tb))), (r2, .inl (gZ g, 6, .inl (fun _ => (0 : Int32)))), (r3, .inl (gI g, 6, .inl gr)), (r4, .inl (gI g, 64, .inl ml))]) ([(md, .inr (5, [.int ((mX5_distance_1 mF mR tb gr fu_1_1_1_1 fu_1_3_2_2 fu_1_5_3_3 fu_1_7_4_4 fu_9_5_5 ww wm wb who).2.1), .int mF, .int mR, .ref r1, .ref r2, .ref r3, .int (zI mt), .int mk, .int mw, .int mm, .int mb, .int ms, .ref r4, .int my])), (r1, .inl (gJ g, 327680, .inr (.inl ((mX5_distance_1 mF mR tb gr fu_1_1_1_1 fu_1_3_2_2 fu_1_5_3_3 fu_1_7_4_4 fu_9_5_5 ww wm wb who).2.2.1)))), (r2, .inl (gZ g, 6, .inl ((mX5_distance_1 mF mR tb gr fu_1_1_1_1 fu_1_3_2_2 fu_1_5_3_3 fu_1_7_4_4 fu_9_5_5 ww wm wb who).2.2.2.2))), (r3, .inl (gI g, 6, .inl ((mX5_distance_1 mF mR tb gr fu_1_1_1_1 fu_1_3_2_2 fu_1_5_3_3 fu_1_7_4_4 fu_9_5_5 ww wm wb who).2.2.2.1))), (r4, .inl (gI g, 64, .inl ml))]) (some (.int ((mX5_distance_1 mF mR tb gr fu_1_1_1_1 fu_1_3_2_2 fu_1_5_3_3 fu_1_7_4_4 fu_9_5_5 ww wm wb who).1)))) args s 0 0 (et_ad ([(md, .inr (5, [.int th, .int mF, .int mR, .ref r1, .ref r2, .ref r3, .int (zI mt), .int mk, .int mw, .int mm, .int mb, .int ms, .ref r4, .int my])), (r1, .inl (gJ g, 327680, .inr (.inl tb))), (r2, .inl (gZ g, 6, .inl (fun _ => (0 : Int32)))), (r3, .inl (gI g, 6, .inl gr)), (r4, .inl (gI g, 64, .inl ml))]))) (F0 m 27 ls [.int (mX5_distance_1_V1 mF mR ww wm wb who), .ref md]) := by
    intro ls hl
    refine va_put (D := gD g) (ci := 5) (v := .int (mX5_distance_1_V1 mF mR ww wm wb who)) (ty := .int) (C := RX5) (T := TX5) (N := 14) hx hb hts inW_X5 tyX5 tyX5_ok nmX5 hown hC.1 hP hD hS 0 rfl rfl 0 (by decide) (hts _ w_733) (fun _ h9 => h9) rfl (by decide +kernel) rfl rfl (Nat.le_of_ble_eq_true rfl) dX5_distance_27 (fun H locs hP hD hS => ?_)
    have hP : va_P (gD g) vwCl ([(md, .inr (5, [.int (mX5_distance_1_V1 mF mR ww wm wb who), .int mF, .int mR, .ref r1, .ref r2, .ref r3, .int (zI mt), .int mk, .int mw, .int mm, .int mb, .int ms, .ref r4, .int my])), (r1, .inl (gJ g, 327680, .inr (.inl tb))), (r2, .inl (gZ g, 6, .inl (fun _ => (0 : Int32)))), (r3, .inl (gI g, 6, .inl gr)), (r4, .inl (gI g, 64, .inl ml))]) H := hP
    have hD : va_D (et_ad ([(md, .inr (5, [.int th, .int mF, .int mR, .ref r1, .ref r2, .ref r3, .int (zI mt), .int mk, .int mw, .int mm, .int mb, .int ms, .ref r4, .int my])), (r1, .inl (gJ g, 327680, .inr (.inl tb))), (r2, .inl (gZ g, 6, .inl (fun _ => (0 : Int32)))), (r3, .inl (gI g, 6, .inl gr)), (r4, .inl (gI g, 64, .inl ml))])) ([(md, .inr (5, [.int (mX5_distance_1_V1 mF mR ww wm wb who), .int mF, .int mR, .ref r1, .ref r2, .ref r3, .int (zI mt), .int mk, .int mw, .int mm, .int mb, .int ms, .ref r4, .int my])), (r1, .inl (gJ g, 327680, .inr (.inl tb))), (r2, .inl (gZ g, 6, .inl (fun _ => (0 : Int32)))), (r3, .inl (gI g, 6, .inl gr)), (r4, .inl (gI g, 64, .inl ml))]) := hD
    refine lv_aload_n hx hb dX5_distance_30 rfl (lv_at hl 0 rfl) ?_
    refine va_get (D := gD g) (ci := 5) (v := .int (mX5_distance_1_V1 mF mR ww wm wb who)) (C := RX5) (T := TX5) (N := 14) hx hb hts inW_X5 hown hC.1 hP 0 rfl rfl 0 (by decide) (hts _ w_733) (fun _ h9 => h9) rfl dX5_distance_31 ?_
    refine lv_if_le (tgt := 41) hx hb dX5_distance_34 (by decide) (fun c_1 => ?_) (fun c_1 => ?_)
    ·
      refine lv_aload_n hx hb dX5_distance_41 rfl (lv_at hl 0 rfl) ?_
      refine lv_iload_n hx hb dX5_distance_42 rfl (lv_at hl 1 rfl) ?_
      refine lv_iload_n hx hb dX5_distance_43 rfl (lv_at hl 2 rfl) ?_
      refine lv_iload_n hx hb dX5_distance_44 rfl (lv_at hl 3 rfl) ?_
      refine lv_iload hx hb dX5_distance_45 (lv_at hl 4 rfl) ?_
      refine lv_iload hx hb dX5_distance_47 (lv_at hl 5 rfl) ?_
      refine et_callW1 (v := .int ((mX5_distanceOf_1 mF mR tb gr fu_1_1_1_1 fu_1_3_2_2 fu_1_5_3_3 fu_1_7_4_4 fu_9_5_5 ww wm wb who).1)) (ws' := [(md, .inr (5, [.int (mX5_distance_1_V1 mF mR ww wm wb who), .int mF, .int mR, .ref r1, .ref r2, .ref r3, .int (zI mt), .int mk, .int mw, .int mm, .int mb, .int ms, .ref r4, .int my])), (r1, .inl (gJ g, 327680, .inr (.inl ((mX5_distanceOf_1 mF mR tb gr fu_1_1_1_1 fu_1_3_2_2 fu_1_5_3_3 fu_1_7_4_4 fu_9_5_5 ww wm wb who).2.1)))), (r2, .inl (gZ g, 6, .inl (upd (upd (upd (upd (upd (fun _ => (0 : Int32)) (2 : Int32).toNatClampNeg (vp_nar .boolean (1 : Int32))) (3 : Int32).toNatClampNeg (vp_nar .boolean (1 : Int32))) (4 : Int32).toNatClampNeg (vp_nar .boolean (1 : Int32))) (5 : Int32).toNatClampNeg (vp_nar .boolean (1 : Int32))) (1 : Int32).toNatClampNeg (vp_nar .boolean (1 : Int32))))), (r3, .inl (gI g, 6, .inl ((mX5_distanceOf_1 mF mR tb gr fu_1_1_1_1 fu_1_3_2_2 fu_1_5_3_3 fu_1_7_4_4 fu_9_5_5 ww wm wb who).2.2))), (r4, .inl (gI g, 64, .inl ml))]) (va_runV (As := [.int (1 : Int32), .int ww, .int wm, .int wb, .int who]) (rest := []) ⟨hx, hb, hml, hown, hts⟩ (c_X5_distanceOf_1 l g md r1 r2 r3 r4 mF mR (mX5_distance_1_V1 mF mR ww wm wb who) tb gr mt mk mw mm mb ms ml my fu_1_1_1_1 fu_1_3_2_2 fu_1_5_3_3 fu_1_7_4_4 fu_9_5_5 ww wm wb who (by assumption) (by assumption) (et_distV_1 (by assumption)).1 (et_distV_1 (by assumption)).2.1 (et_distV_1 (by assumption)).2.2.1 (et_distV_1 (by assumption)).2.2.2 hT_2_2_6_6 hT_2_4_7_7 hT_2_6_8_8 hT_2_8_9_9 hT_10_10_10) (cwV 5 hts (W0_gV w_817 w_819 w_55 w_82 w_820) rfl rfl rfl (by decide +kernel) ⟨Nat.le_of_ble_eq_true rfl, Nat.le_of_ble_eq_true rfl⟩) (et_preVW hP hC hD [0, 1, 2, 3, 4] (by decide) rfl (ci := 5) (q0 := 0) rfl rfl) rfl rfl hl.1 rfl (lv_room (Nat.le_of_ble_eq_true rfl)) dX5_distance_49 ⟨Nat.le_of_ble_eq_true rfl, Nat.le_of_ble_eq_true rfl⟩) hP hD hS [0, 1, 2, 3, 4] [] 5 rfl [md, r1, r2, r3, r4] rfl rfl rfl [] rfl rfl rfl (by decide +kernel) (fun H locs hP hD hS => ?_)
      have hfin : ((mX5_distanceOf_1 mF mR tb gr fu_1_1_1_1 fu_1_3_2_2 fu_1_5_3_3 fu_1_7_4_4 fu_9_5_5 ww wm wb who).1, (mX5_distance_1_V1 mF mR ww wm wb who), (mX5_distanceOf_1 mF mR tb gr fu_1_1_1_1 fu_1_3_2_2 fu_1_5_3_3 fu_1_7_4_4 fu_9_5_5 ww wm wb who).2.1, (mX5_distanceOf_1 mF mR tb gr fu_1_1_1_1 fu_1_3_2_2 fu_1_5_3_3 fu_1_7_4_4 fu_9_5_5 ww wm wb who).2.2, upd (upd (upd (upd (upd (fun _ => (0 : Int32)) (2 : Int32).toNatClampNeg (vp_nar .boolean (1 : Int32))) (3 : Int32).toNatClampNeg (vp_nar .boolean (1 : Int32))) (4 : Int32).toNatClampNeg (vp_nar .boolean (1 : Int32))) (5 : Int32).toNatClampNeg (vp_nar .boolean (1 : Int32))) (1 : Int32).toNatClampNeg (vp_nar .boolean (1 : Int32))) = (mX5_distance_1 mF mR tb gr fu_1_1_1_1 fu_1_3_2_2 fu_1_5_3_3 fu_1_7_4_4 fu_9_5_5 ww wm wb who) := (by rw [mX5_distance_1, if_pos c_1])
      exact et_iretW hx hb hr hlocks dX5_distance_52 hP hS (by rw [← hfin]) ((by rw [← hfin]))
    ·
      refine lv_iconst (v := (0 : Int32)) hx hb dX5_distance_37 (by decide) ?_
      refine lv_goto (tgt := 52) hx hb dX5_distance_38 (by decide) ?_
      have hfin : ((0 : Int32), (mX5_distance_1_V1 mF mR ww wm wb who), tb, gr, (fun _ => (0 : Int32))) = (mX5_distance_1 mF mR tb gr fu_1_1_1_1 fu_1_3_2_2 fu_1_5_3_3 fu_1_7_4_4 fu_9_5_5 ww wm wb who) := (by rw [mX5_distance_1, if_neg c_1])
      exact et_iretW hx hb hr hlocks dX5_distance_52 hP hS (by rw [← hfin]) ((by rw [← hfin]))
  refine lv_iload_n hx hb dX5_distance_1 rfl (lv_at hl 1 rfl) ?_
  refine et_callP1 (v := .int (zI (mX5_isKind (1 : Int32)))) (va_runS (As := [.int (1 : Int32)]) (rest := [.ref md]) ⟨hx, hb, hml, hown, hts⟩ (c_X5_isKind l g (1 : Int32)) (va_cwS 1 hts (W0_gS w_789 w_790 w_82 w_791) rfl rfl rfl (by decide +kernel) ⟨Nat.le_of_ble_eq_true rfl, Nat.le_of_ble_eq_true rfl⟩) (et_preS hP hC [] rfl) rfl rfl hl.1 rfl (lv_room (Nat.le_of_ble_eq_true rfl)) dX5_distance_2 ⟨Nat.le_of_ble_eq_true rfl, Nat.le_of_ble_eq_true rfl⟩) ?_
  refine lv_if_eq (tgt := 26) hx hb dX5_distance_5 (by decide) (fun c_2 => ?_) (fun c_2 => ?_)
  ·
    refine lv_iconst (v := (1 : Int32)) hx hb dX5_distance_26 (by decide) ?_
    have he1 : ((1 : Int32) : Int32) = (mX5_distance_1_V1 mF mR ww wm wb who) := (by rw [mX5_distance_1_V1, if_pos c_2])
    exact et_stki he1 (hj1 ls (lv_sub hl [0, 1, 2, 3, 4, 5] rfl))
  ·
    refine lv_aload_n hx hb dX5_distance_8 rfl (lv_at hl 0 rfl) ?_
    refine lv_iload_n hx hb dX5_distance_9 rfl (lv_at hl 1 rfl) ?_
    refine lv_iload_n hx hb dX5_distance_10 rfl (lv_at hl 2 rfl) ?_
    refine lv_iload_n hx hb dX5_distance_11 rfl (lv_at hl 3 rfl) ?_
    refine lv_iload hx hb dX5_distance_12 (lv_at hl 4 rfl) ?_
    refine lv_iload hx hb dX5_distance_14 (lv_at hl 5 rfl) ?_
    refine et_callP1 (v := .int (zI (mX5_isPosition mF mR (1 : Int32) ww wm wb who))) (va_runV (As := [.int (1 : Int32), .int ww, .int wm, .int wb, .int who]) (rest := [.ref md]) ⟨hx, hb, hml, hown, hts⟩ (c_X5_isPosition l g md r1 r2 r3 r4 mF mR th tb (fun _ => (0 : Int32)) gr mt mk mw mm mb ms ml my (1 : Int32) ww wm wb who (by assumption) (by assumption)) (cwV 5 hts (W0_gV w_792 w_794 w_51 w_82 w_795) rfl rfl rfl (by decide +kernel) ⟨Nat.le_of_ble_eq_true rfl, Nat.le_of_ble_eq_true rfl⟩) (et_preV hP hC [0, 1, 2, 3, 4] rfl (ci := 5) (q0 := 0) rfl rfl) rfl rfl hl.1 rfl (lv_room (Nat.le_of_ble_eq_true rfl)) dX5_distance_16 ⟨Nat.le_of_ble_eq_true rfl, Nat.le_of_ble_eq_true rfl⟩) ?_
    refine lv_if_eq (tgt := 26) hx hb dX5_distance_19 (by decide) (fun c_3 => ?_) (fun c_3 => ?_)
    ·
      refine lv_iconst (v := (1 : Int32)) hx hb dX5_distance_26 (by decide) ?_
      have he2 : ((1 : Int32) : Int32) = (mX5_distance_1_V1 mF mR ww wm wb who) := (by rw [mX5_distance_1_V1, if_neg c_2, if_pos c_3])
      exact et_stki he2 (hj1 ls (lv_sub hl [0, 1, 2, 3, 4, 5] rfl))
    ·
      refine lv_iconst (v := (0 : Int32)) hx hb dX5_distance_22 (by decide) ?_
      refine lv_goto (tgt := 27) hx hb dX5_distance_23 (by decide) ?_
      have he3 : ((0 : Int32) : Int32) = (mX5_distance_1_V1 mF mR ww wm wb who) := (by rw [mX5_distance_1_V1, if_neg c_2, if_neg c_3])
      exact et_stki he3 (hj1 ls (lv_sub hl [0, 1, 2, 3, 4, 5] rfl))

def mX5_count_1_V2 (mF : Int32) (mR : Int32) (tb : Nat → Int64) (gr : Nat → Int32) (fu_1_1_1 : Nat) (fu_1_3_2 : Nat) (fu_1_5_3 : Nat) (fu_1_7_4 : Nat) (fu_9_5 : Nat) (who : Int32) (nn : Int32) (i1 : Nat) (sum1 : Int32) : Int32 :=
  if (zI (mX5_isOne mF mR ((mX5_build_1 mF mR tb gr fu_1_1_1 fu_1_3_2 fu_1_5_3 fu_1_7_4 fu_9_5).1) (1 : Int32) who nn (nI i1))) = 0 then
    sum1
  else
    sum1 + (1 : Int32)
def mX5_count_1_L1 (mF : Int32) (mR : Int32) (tb : Nat → Int64) (gr : Nat → Int32) (fu_1_1_1 : Nat) (fu_1_3_2 : Nat) (fu_1_5_3 : Nat) (fu_1_7_4 : Nat) (fu_9_5 : Nat) (who : Int32) (nn : Int32) : Nat → Nat → Int32 → Int32
  | 0, i1, sum1 =>
    sum1
  | k1 + 1, i1, sum1 =>
    mX5_count_1_L1 mF mR tb gr fu_1_1_1 fu_1_3_2 fu_1_5_3 fu_1_7_4 fu_9_5 who nn k1 (i1 + 1) (mX5_count_1_V2 mF mR tb gr fu_1_1_1 fu_1_3_2 fu_1_5_3 fu_1_7_4 fu_9_5 who nn i1 sum1)
def mX5_count_1_V1 (who : Int32) : Int32 :=
  if (zI (mX5_isKind (1 : Int32))) = 0 then
    (1 : Int32)
  else
    if who < 0 then
      (1 : Int32)
    else
      if (2 : Int32) ≤ who then
        (1 : Int32)
      else
        (0 : Int32)
def mX5_count_1 (mF : Int32) (mR : Int32) (tb : Nat → Int64) (gr : Nat → Int32) (fu_1_1_1 : Nat) (fu_1_3_2 : Nat) (fu_1_5_3 : Nat) (fu_1_7_4 : Nat) (fu_9_5 : Nat) (who : Int32) (nn : Int32) : Int32 × Int32 × (Nat → Int64) × (Nat → Int32) × (Nat → Int32) :=
  if (mX5_count_1_V1 who) ≤ 0 then
    ((mX5_count_1_L1 mF mR tb gr fu_1_1_1 fu_1_3_2 fu_1_5_3 fu_1_7_4 fu_9_5 who nn 262144 0 (0 : Int32)), (mX5_count_1_V1 who), (mX5_build_1 mF mR tb gr fu_1_1_1 fu_1_3_2 fu_1_5_3 fu_1_7_4 fu_9_5).1, (mX5_build_1 mF mR tb gr fu_1_1_1 fu_1_3_2 fu_1_5_3 fu_1_7_4 fu_9_5).2, upd (upd (upd (upd (upd (fun _ => (0 : Int32)) (2 : Int32).toNatClampNeg (vp_nar .boolean (1 : Int32))) (3 : Int32).toNatClampNeg (vp_nar .boolean (1 : Int32))) (4 : Int32).toNatClampNeg (vp_nar .boolean (1 : Int32))) (5 : Int32).toNatClampNeg (vp_nar .boolean (1 : Int32))) (1 : Int32).toNatClampNeg (vp_nar .boolean (1 : Int32)))
  else
    ((0 : Int32), (mX5_count_1_V1 who), tb, gr, (fun _ => (0 : Int32)))
theorem et_cntV_1 {who : Int32} (h : mX5_count_1_V1 who ≤ 0) : et_sd who := by
  unfold mX5_count_1_V1 at h
  rw [if_neg (show ¬ zI (mX5_isKind (1 : Int32)) = 0 by decide)] at h
  rcases pk_ix who (n := 2) (by omega) with h1 | h1 | ⟨j, hj, rfl⟩
  · rw [if_pos h1] at h
    exact absurd h (by decide)
  · rw [if_neg (show ¬ who < 0 from fun h2 => absurd (Int32.le_trans h1 (Int32.le_of_lt h2)) (by decide)), if_pos (show (2 : Int32) ≤ who from h1)] at h
    exact absurd h (by decide)
  · rcases (show j = 0 ∨ j = 1 by omega) with rfl | rfl
    · exact Or.inl rfl
    · exact Or.inr rfl
set_option maxHeartbeats 4000000 in
set_option maxRecDepth 100000 in
theorem c_X5_count_1 (l : Launch) (g : et_G) (md : Nat) (r1 : Nat) (r2 : Nat) (r3 : Nat) (r4 : Nat) (mF : Int32) (mR : Int32) (th : Int32) (tb : Nat → Int64) (gr : Nat → Int32) (mt : Bool) (mk : Int32) (mw : Int32) (mm : Int32) (mb : Int32) (ms : Int32) (ml : Nat → Int32) (my : Int32) (fu_1_1_1 : Nat) (fu_1_3_2 : Nat) (fu_1_5_3 : Nat) (fu_1_7_4 : Nat) (fu_9_5 : Nat) (who : Int32) (nn : Int32) (hF : et_b8 mF) (hR : et_b8 mR) (hT_2_2_6 : mX5_passAll_L1_ok mF mR (2 : Int32) (1 : Int32) fu_1_1_1 0 (0 : Int32) (0 : Int32) tb (upd gr (2 : Int32).toNatClampNeg (-1 : Int32)) = true) (hT_2_4_7 : mX5_passAll_L1_ok mF mR (3 : Int32) (1 : Int32) fu_1_3_2 0 (0 : Int32) (0 : Int32) ((mX5_build2_2 mF mR tb gr fu_1_1_1).1) (upd ((mX5_build2_2 mF mR tb gr fu_1_1_1).2) (3 : Int32).toNatClampNeg (-1 : Int32)) = true) (hT_2_6_8 : mX5_passAll_L1_ok mF mR (4 : Int32) (1 : Int32) fu_1_5_3 0 (0 : Int32) (0 : Int32) ((mX5_build2_3 mF mR ((mX5_build2_2 mF mR tb gr fu_1_1_1).1) ((mX5_build2_2 mF mR tb gr fu_1_1_1).2) fu_1_3_2).1) (upd ((mX5_build2_3 mF mR ((mX5_build2_2 mF mR tb gr fu_1_1_1).1) ((mX5_build2_2 mF mR tb gr fu_1_1_1).2) fu_1_3_2).2) (4 : Int32).toNatClampNeg (-1 : Int32)) = true) (hT_2_8_9 : mX5_passAll_L1_ok mF mR (5 : Int32) (1 : Int32) fu_1_7_4 0 (0 : Int32) (0 : Int32) ((mX5_build2_4 mF mR ((mX5_build2_3 mF mR ((mX5_build2_2 mF mR tb gr fu_1_1_1).1) ((mX5_build2_2 mF mR tb gr fu_1_1_1).2) fu_1_3_2).1) ((mX5_build2_3 mF mR ((mX5_build2_2 mF mR tb gr fu_1_1_1).1) ((mX5_build2_2 mF mR tb gr fu_1_1_1).2) fu_1_3_2).2) fu_1_5_3).1) (upd ((mX5_build2_4 mF mR ((mX5_build2_3 mF mR ((mX5_build2_2 mF mR tb gr fu_1_1_1).1) ((mX5_build2_2 mF mR tb gr fu_1_1_1).2) fu_1_3_2).1) ((mX5_build2_3 mF mR ((mX5_build2_2 mF mR tb gr fu_1_1_1).1) ((mX5_build2_2 mF mR tb gr fu_1_1_1).2) fu_1_3_2).2) fu_1_5_3).2) (5 : Int32).toNatClampNeg (-1 : Int32)) = true) (hT_10_10 : mX5_passAll_L1_ok mF mR (1 : Int32) (mX5_build_1_V4 mF mR tb gr fu_1_1_1 fu_1_3_2 fu_1_5_3 fu_1_7_4) fu_9_5 0 (0 : Int32) (0 : Int32) ((mX5_build2_5 mF mR ((mX5_build2_4 mF mR ((mX5_build2_3 mF mR ((mX5_build2_2 mF mR tb gr fu_1_1_1).1) ((mX5_build2_2 mF mR tb gr fu_1_1_1).2) fu_1_3_2).1) ((mX5_build2_3 mF mR ((mX5_build2_2 mF mR tb gr fu_1_1_1).1) ((mX5_build2_2 mF mR tb gr fu_1_1_1).2) fu_1_3_2).2) fu_1_5_3).1) ((mX5_build2_4 mF mR ((mX5_build2_3 mF mR ((mX5_build2_2 mF mR tb gr fu_1_1_1).1) ((mX5_build2_2 mF mR tb gr fu_1_1_1).2) fu_1_3_2).1) ((mX5_build2_3 mF mR ((mX5_build2_2 mF mR tb gr fu_1_1_1).1) ((mX5_build2_2 mF mR tb gr fu_1_1_1).2) fu_1_3_2).2) fu_1_5_3).2) fu_1_7_4).1) (upd ((mX5_build2_5 mF mR ((mX5_build2_4 mF mR ((mX5_build2_3 mF mR ((mX5_build2_2 mF mR tb gr fu_1_1_1).1) ((mX5_build2_2 mF mR tb gr fu_1_1_1).2) fu_1_3_2).1) ((mX5_build2_3 mF mR ((mX5_build2_2 mF mR tb gr fu_1_1_1).1) ((mX5_build2_2 mF mR tb gr fu_1_1_1).2) fu_1_3_2).2) fu_1_5_3).1) ((mX5_build2_4 mF mR ((mX5_build2_3 mF mR ((mX5_build2_2 mF mR tb gr fu_1_1_1).1) ((mX5_build2_2 mF mR tb gr fu_1_1_1).2) fu_1_3_2).1) ((mX5_build2_3 mF mR ((mX5_build2_2 mF mR tb gr fu_1_1_1).1) ((mX5_build2_2 mF mR tb gr fu_1_1_1).2) fu_1_3_2).2) fu_1_5_3).2) fu_1_7_4).2) (1 : Int32).toNatClampNeg (-1 : Int32)) = true) : Met l yX5_count (Cond.code yX5_count cX5_count 6 (some (.int)) :: W0) ({ frames := 8, cells := 0, slots := 0, locals := 206 } : Room) (et_PcW g ([(md, .inr (5, [.int th, .int mF, .int mR, .ref r1, .ref r2, .ref r3, .int (zI mt), .int mk, .int mw, .int mm, .int mb, .int ms, .ref r4, .int my])), (r1, .inl (gJ g, 327680, .inr (.inl tb))), (r2, .inl (gZ g, 6, .inl (fun _ => (0 : Int32)))), (r3, .inl (gI g, 6, .inl gr)), (r4, .inl (gI g, 64, .inl ml))]) [.ref md, .int (1 : Int32), .int who, .int nn]) (et_QW g ([(md, .inr (5, [.int th, .int mF, .int mR, .ref r1, .ref r2, .ref r3, .int (zI mt), .int mk, .int mw, .int mm, .int mb, .int ms, .ref r4, .int my])), (r1, .inl (gJ g, 327680, .inr (.inl tb))), (r2, .inl (gZ g, 6, .inl (fun _ => (0 : Int32)))), (r3, .inl (gI g, 6, .inl gr)), (r4, .inl (gI g, 64, .inl ml))]) ([(md, .inr (5, [.int ((mX5_count_1 mF mR tb gr fu_1_1_1 fu_1_3_2 fu_1_5_3 fu_1_7_4 fu_9_5 who nn).2.1), .int mF, .int mR, .ref r1, .ref r2, .ref r3, .int (zI mt), .int mk, .int mw, .int mm, .int mb, .int ms, .ref r4, .int my])), (r1, .inl (gJ g, 327680, .inr (.inl ((mX5_count_1 mF mR tb gr fu_1_1_1 fu_1_3_2 fu_1_5_3 fu_1_7_4 fu_9_5 who nn).2.2.1)))), (r2, .inl (gZ g, 6, .inl ((mX5_count_1 mF mR tb gr fu_1_1_1 fu_1_3_2 fu_1_5_3 fu_1_7_4 fu_9_5 who nn).2.2.2.2))), (r3, .inl (gI g, 6, .inl ((mX5_count_1 mF mR tb gr fu_1_1_1 fu_1_3_2 fu_1_5_3 fu_1_7_4 fu_9_5 who nn).2.2.2.1))), (r4, .inl (gI g, 64, .inl ml))]) (some (.int ((mX5_count_1 mF mR tb gr fu_1_1_1 fu_1_3_2 fu_1_5_3 fu_1_7_4 fu_9_5 who nn).1)))) 0 0 (et_ad ([(md, .inr (5, [.int th, .int mF, .int mR, .ref r1, .ref r2, .ref r3, .int (zI mt), .int mk, .int mw, .int mm, .int mb, .int ms, .ref r4, .int my])), (r1, .inl (gJ g, 327680, .inr (.inl tb))), (r2, .inl (gZ g, 6, .inl (fun _ => (0 : Int32)))), (r3, .inl (gI g, 6, .inl gr)), (r4, .inl (gI g, 64, .inl ml))])) := by
  refine et_startW (by decide) rfl (Nat.le_of_ble_eq_true rfl) ?_
  intro p e s m args below meth c hx hb hr hts0 hown hlocks hml hP hC hD hS ls hl
  have hts : ∀ w ∈ W0, w.before args s = true := fun w h => hts0 w (List.mem_cons_of_mem _ h)
  have hown : s.vm.findClass RX5 = some m.cls := hown
  have hl : lv_has ls 6 [(0, .ref md), (1, .int (1 : Int32)), (2, .int who), (3, .int nn)] := hl
  refine lv_aload_n hx hb dX5_count_0 rfl (lv_at hl 0 rfl) ?_
  have hj1 : ∀ ls : Array Slot, lv_has ls 6 [(0, .ref md), (1, .int (1 : Int32)), (2, .int who), (3, .int nn)] → W p l e ({ frames := 8, cells := 0, slots := 0, locals := 206 } : Room) s m args below meth c s.heap [] 0 0 (MQ below (et_QW g ([(md, .inr (5, [.int th, .int mF, .int mR, .ref r1, .ref r2, .ref r3, .int (zI mt), .int mk, .int mw, .int mm, .int mb, .int ms, .ref r4, .int my])), (r1, .inl (gJ g, 327680, .inr (.inl tb))), (r2, .inl (gZ g, 6, .inl (fun _ => (0 : Int32)))), (r3, .inl (gI g, 6, .inl gr)), (r4, .inl (gI g, 64, .inl ml))]) ([(md, .inr (5, [.int ((mX5_count_1 mF mR tb gr fu_1_1_1 fu_1_3_2 fu_1_5_3 fu_1_7_4 fu_9_5 who nn).2.1), .int mF, .int mR, .ref r1, .ref r2, .ref r3, .int (zI mt), .int mk, .int mw, .int mm, .int mb, .int ms, .ref r4, .int my])), (r1, .inl (gJ g, 327680, .inr (.inl ((mX5_count_1 mF mR tb gr fu_1_1_1 fu_1_3_2 fu_1_5_3 fu_1_7_4 fu_9_5 who nn).2.2.1)))), (r2, .inl (gZ g, 6, .inl ((mX5_count_1 mF mR tb gr fu_1_1_1 fu_1_3_2 fu_1_5_3 fu_1_7_4 fu_9_5 who nn).2.2.2.2))), (r3, .inl (gI g, 6, .inl ((mX5_count_1 mF mR tb gr fu_1_1_1 fu_1_3_2 fu_1_5_3 fu_1_7_4 fu_9_5 who nn).2.2.2.1))), (r4, .inl (gI g, 64, .inl ml))]) (some (.int ((mX5_count_1 mF mR tb gr fu_1_1_1 fu_1_3_2 fu_1_5_3 fu_1_7_4 fu_9_5 who nn).1)))) args s 0 0 (et_ad ([(md, .inr (5, [.int th, .int mF, .int mR, .ref r1, .ref r2, .ref r3, .int (zI mt), .int mk, .int mw, .int mm, .int mb, .int ms, .ref r4, .int my])), (r1, .inl (gJ g, 327680, .inr (.inl tb))), (r2, .inl (gZ g, 6, .inl (fun _ => (0 : Int32)))), (r3, .inl (gI g, 6, .inl gr)), (r4, .inl (gI g, 64, .inl ml))]))) (F0 m 22 ls [.int (mX5_count_1_V1 who), .ref md]) := by
    intro ls hl
    refine va_put (D := gD g) (ci := 5) (v := .int (mX5_count_1_V1 who)) (ty := .int) (C := RX5) (T := TX5) (N := 14) hx hb hts inW_X5 tyX5 tyX5_ok nmX5 hown hC.1 hP hD hS 0 rfl rfl 0 (by decide) (hts _ w_733) (fun _ h9 => h9) rfl (by decide +kernel) rfl rfl (Nat.le_of_ble_eq_true rfl) dX5_count_22 (fun H locs hP hD hS => ?_)
    have hP : va_P (gD g) vwCl ([(md, .inr (5, [.int (mX5_count_1_V1 who), .int mF, .int mR, .ref r1, .ref r2, .ref r3, .int (zI mt), .int mk, .int mw, .int mm, .int mb, .int ms, .ref r4, .int my])), (r1, .inl (gJ g, 327680, .inr (.inl tb))), (r2, .inl (gZ g, 6, .inl (fun _ => (0 : Int32)))), (r3, .inl (gI g, 6, .inl gr)), (r4, .inl (gI g, 64, .inl ml))]) H := hP
    have hD : va_D (et_ad ([(md, .inr (5, [.int th, .int mF, .int mR, .ref r1, .ref r2, .ref r3, .int (zI mt), .int mk, .int mw, .int mm, .int mb, .int ms, .ref r4, .int my])), (r1, .inl (gJ g, 327680, .inr (.inl tb))), (r2, .inl (gZ g, 6, .inl (fun _ => (0 : Int32)))), (r3, .inl (gI g, 6, .inl gr)), (r4, .inl (gI g, 64, .inl ml))])) ([(md, .inr (5, [.int (mX5_count_1_V1 who), .int mF, .int mR, .ref r1, .ref r2, .ref r3, .int (zI mt), .int mk, .int mw, .int mm, .int mb, .int ms, .ref r4, .int my])), (r1, .inl (gJ g, 327680, .inr (.inl tb))), (r2, .inl (gZ g, 6, .inl (fun _ => (0 : Int32)))), (r3, .inl (gI g, 6, .inl gr)), (r4, .inl (gI g, 64, .inl ml))]) := hD
    refine lv_aload_n hx hb dX5_count_25 rfl (lv_at hl 0 rfl) ?_
    refine va_get (D := gD g) (ci := 5) (v := .int (mX5_count_1_V1 who)) (C := RX5) (T := TX5) (N := 14) hx hb hts inW_X5 hown hC.1 hP 0 rfl rfl 0 (by decide) (hts _ w_733) (fun _ h9 => h9) rfl dX5_count_26 ?_
    refine lv_if_le (tgt := 34) hx hb dX5_count_29 (by decide) (fun c_1 => ?_) (fun c_1 => ?_)
    ·
      refine lv_aload_n hx hb dX5_count_34 rfl (lv_at hl 0 rfl) ?_
      refine lv_iload_n hx hb dX5_count_35 rfl (lv_at hl 1 rfl) ?_
      refine et_callW0 (ws' := [(md, .inr (5, [.int (mX5_count_1_V1 who), .int mF, .int mR, .ref r1, .ref r2, .ref r3, .int (zI mt), .int mk, .int mw, .int mm, .int mb, .int ms, .ref r4, .int my])), (r1, .inl (gJ g, 327680, .inr (.inl ((mX5_build_1 mF mR tb gr fu_1_1_1 fu_1_3_2 fu_1_5_3 fu_1_7_4 fu_9_5).1)))), (r2, .inl (gZ g, 6, .inl (upd (upd (upd (upd (upd (fun _ => (0 : Int32)) (2 : Int32).toNatClampNeg (vp_nar .boolean (1 : Int32))) (3 : Int32).toNatClampNeg (vp_nar .boolean (1 : Int32))) (4 : Int32).toNatClampNeg (vp_nar .boolean (1 : Int32))) (5 : Int32).toNatClampNeg (vp_nar .boolean (1 : Int32))) (1 : Int32).toNatClampNeg (vp_nar .boolean (1 : Int32))))), (r3, .inl (gI g, 6, .inl ((mX5_build_1 mF mR tb gr fu_1_1_1 fu_1_3_2 fu_1_5_3 fu_1_7_4 fu_9_5).2))), (r4, .inl (gI g, 64, .inl ml))]) (va_runV (As := [.int (1 : Int32)]) (rest := []) ⟨hx, hb, hml, hown, hts⟩ (c_X5_build_1 l g md r1 r2 r3 r4 mF mR (mX5_count_1_V1 who) tb gr mt mk mw mm mb ms ml my fu_1_1_1 fu_1_3_2 fu_1_5_3 fu_1_7_4 fu_9_5 (by assumption) (by assumption) hT_2_2_6 hT_2_4_7 hT_2_6_8 hT_2_8_9 hT_10_10) (cwV 1 hts (W0_gV w_821 w_823 w_56 w_82 w_824) rfl rfl rfl (by decide +kernel) ⟨Nat.le_of_ble_eq_true rfl, Nat.le_of_ble_eq_true rfl⟩) (et_preVW hP hC hD [0, 1, 2, 3, 4] (by decide) rfl (ci := 5) (q0 := 0) rfl rfl) rfl rfl hl.1 rfl (lv_room (Nat.le_of_ble_eq_true rfl)) dX5_count_36 ⟨Nat.le_of_ble_eq_true rfl, Nat.le_of_ble_eq_true rfl⟩) hP hD hS [0, 1, 2, 3, 4] [] 5 rfl [md, r1, r2, r3, r4] rfl rfl rfl [] rfl rfl rfl (by decide +kernel) (fun H locs hP hD hS => ?_)
      refine lv_iconst (v := (0 : Int32)) hx hb dX5_count_39 (by decide) ?_
      refine lv_istore (lv' := [(4, .int (0 : Int32)), (0, .ref md), (1, .int (1 : Int32)), (2, .int who), (3, .int nn)]) hx hb dX5_count_40 hl (by decide) rfl (fun ls hl => ?_)
      refine lv_iconst (v := (0 : Int32)) hx hb dX5_count_42 (by decide) ?_
      refine lv_istore (lv' := [(5, .int (0 : Int32)), (4, .int (0 : Int32)), (0, .ref md), (1, .int (1 : Int32)), (2, .int who), (3, .int nn)]) hx hb dX5_count_43 hl (by decide) rfl (fun ls hl => ?_)
      have hx1 : ∀ (H : Heap) (locs : List Loc), va_P (gD g) vwCl ([(md, .inr (5, [.int (mX5_count_1_V1 who), .int mF, .int mR, .ref r1, .ref r2, .ref r3, .int (zI mt), .int mk, .int mw, .int mm, .int mb, .int ms, .ref r4, .int my])), (r1, .inl (gJ g, 327680, .inr (.inl ((mX5_build_1 mF mR tb gr fu_1_1_1 fu_1_3_2 fu_1_5_3 fu_1_7_4 fu_9_5).1)))), (r2, .inl (gZ g, 6, .inl (upd (upd (upd (upd (upd (fun _ => (0 : Int32)) (2 : Int32).toNatClampNeg (vp_nar .boolean (1 : Int32))) (3 : Int32).toNatClampNeg (vp_nar .boolean (1 : Int32))) (4 : Int32).toNatClampNeg (vp_nar .boolean (1 : Int32))) (5 : Int32).toNatClampNeg (vp_nar .boolean (1 : Int32))) (1 : Int32).toNatClampNeg (vp_nar .boolean (1 : Int32))))), (r3, .inl (gI g, 6, .inl ((mX5_build_1 mF mR tb gr fu_1_1_1 fu_1_3_2 fu_1_5_3 fu_1_7_4 fu_9_5).2))), (r4, .inl (gI g, 64, .inl ml))]) H → va_D (et_ad ([(md, .inr (5, [.int th, .int mF, .int mR, .ref r1, .ref r2, .ref r3, .int (zI mt), .int mk, .int mw, .int mm, .int mb, .int ms, .ref r4, .int my])), (r1, .inl (gJ g, 327680, .inr (.inl tb))), (r2, .inl (gZ g, 6, .inl (fun _ => (0 : Int32)))), (r3, .inl (gI g, 6, .inl gr)), (r4, .inl (gI g, 64, .inl ml))])) ([(md, .inr (5, [.int (mX5_count_1_V1 who), .int mF, .int mR, .ref r1, .ref r2, .ref r3, .int (zI mt), .int mk, .int mw, .int mm, .int mb, .int ms, .ref r4, .int my])), (r1, .inl (gJ g, 327680, .inr (.inl ((mX5_build_1 mF mR tb gr fu_1_1_1 fu_1_3_2 fu_1_5_3 fu_1_7_4 fu_9_5).1)))), (r2, .inl (gZ g, 6, .inl (upd (upd (upd (upd (upd (fun _ => (0 : Int32)) (2 : Int32).toNatClampNeg (vp_nar .boolean (1 : Int32))) (3 : Int32).toNatClampNeg (vp_nar .boolean (1 : Int32))) (4 : Int32).toNatClampNeg (vp_nar .boolean (1 : Int32))) (5 : Int32).toNatClampNeg (vp_nar .boolean (1 : Int32))) (1 : Int32).toNatClampNeg (vp_nar .boolean (1 : Int32))))), (r3, .inl (gI g, 6, .inl ((mX5_build_1 mF mR tb gr fu_1_1_1 fu_1_3_2 fu_1_5_3 fu_1_7_4 fu_9_5).2))), (r4, .inl (gI g, 64, .inl ml))]) → va_S (et_ad ([(md, .inr (5, [.int th, .int mF, .int mR, .ref r1, .ref r2, .ref r3, .int (zI mt), .int mk, .int mw, .int mm, .int mb, .int ms, .ref r4, .int my])), (r1, .inl (gJ g, 327680, .inr (.inl tb))), (r2, .inl (gZ g, 6, .inl (fun _ => (0 : Int32)))), (r3, .inl (gI g, 6, .inl gr)), (r4, .inl (gI g, 64, .inl ml))])) s.heap H locs → ∀ ls : Array Slot, lv_has ls 6 [(4, .int (mX5_count_1_L1 mF mR tb gr fu_1_1_1 fu_1_3_2 fu_1_5_3 fu_1_7_4 fu_9_5 who nn 262144 0 (0 : Int32))), (0, .ref md), (1, .int (1 : Int32)), (2, .int who), (3, .int nn)] → W p l e ({ frames := 8, cells := 0, slots := 0, locals := 206 } : Room) s m args below meth c H locs 0 0 (MQ below (et_QW g ([(md, .inr (5, [.int th, .int mF, .int mR, .ref r1, .ref r2, .ref r3, .int (zI mt), .int mk, .int mw, .int mm, .int mb, .int ms, .ref r4, .int my])), (r1, .inl (gJ g, 327680, .inr (.inl tb))), (r2, .inl (gZ g, 6, .inl (fun _ => (0 : Int32)))), (r3, .inl (gI g, 6, .inl gr)), (r4, .inl (gI g, 64, .inl ml))]) ([(md, .inr (5, [.int ((mX5_count_1 mF mR tb gr fu_1_1_1 fu_1_3_2 fu_1_5_3 fu_1_7_4 fu_9_5 who nn).2.1), .int mF, .int mR, .ref r1, .ref r2, .ref r3, .int (zI mt), .int mk, .int mw, .int mm, .int mb, .int ms, .ref r4, .int my])), (r1, .inl (gJ g, 327680, .inr (.inl ((mX5_count_1 mF mR tb gr fu_1_1_1 fu_1_3_2 fu_1_5_3 fu_1_7_4 fu_9_5 who nn).2.2.1)))), (r2, .inl (gZ g, 6, .inl ((mX5_count_1 mF mR tb gr fu_1_1_1 fu_1_3_2 fu_1_5_3 fu_1_7_4 fu_9_5 who nn).2.2.2.2))), (r3, .inl (gI g, 6, .inl ((mX5_count_1 mF mR tb gr fu_1_1_1 fu_1_3_2 fu_1_5_3 fu_1_7_4 fu_9_5 who nn).2.2.2.1))), (r4, .inl (gI g, 64, .inl ml))]) (some (.int ((mX5_count_1 mF mR tb gr fu_1_1_1 fu_1_3_2 fu_1_5_3 fu_1_7_4 fu_9_5 who nn).1)))) args s 0 0 (et_ad ([(md, .inr (5, [.int th, .int mF, .int mR, .ref r1, .ref r2, .ref r3, .int (zI mt), .int mk, .int mw, .int mm, .int mb, .int ms, .ref r4, .int my])), (r1, .inl (gJ g, 327680, .inr (.inl tb))), (r2, .inl (gZ g, 6, .inl (fun _ => (0 : Int32)))), (r3, .inl (gI g, 6, .inl gr)), (r4, .inl (gI g, 64, .inl ml))]))) (F0 m 81 ls []) := by
        intro H locs hP hD hS ls hl
        refine lv_iload hx hb dX5_count_81 (lv_at hl 0 rfl) ?_
        have hfin : ((mX5_count_1_L1 mF mR tb gr fu_1_1_1 fu_1_3_2 fu_1_5_3 fu_1_7_4 fu_9_5 who nn 262144 0 (0 : Int32)), (mX5_count_1_V1 who), (mX5_build_1 mF mR tb gr fu_1_1_1 fu_1_3_2 fu_1_5_3 fu_1_7_4 fu_9_5).1, (mX5_build_1 mF mR tb gr fu_1_1_1 fu_1_3_2 fu_1_5_3 fu_1_7_4 fu_9_5).2, upd (upd (upd (upd (upd (fun _ => (0 : Int32)) (2 : Int32).toNatClampNeg (vp_nar .boolean (1 : Int32))) (3 : Int32).toNatClampNeg (vp_nar .boolean (1 : Int32))) (4 : Int32).toNatClampNeg (vp_nar .boolean (1 : Int32))) (5 : Int32).toNatClampNeg (vp_nar .boolean (1 : Int32))) (1 : Int32).toNatClampNeg (vp_nar .boolean (1 : Int32))) = (mX5_count_1 mF mR tb gr fu_1_1_1 fu_1_3_2 fu_1_5_3 fu_1_7_4 fu_9_5 who nn) := (by rw [mX5_count_1, if_pos c_1])
        exact et_iretW hx hb hr hlocks dX5_count_83 hP hS (by rw [← hfin]) ((by rw [← hfin]))
      have hL1 : ∀ (k1 i1 : Nat) (sum1 : Int32), i1 + k1 = 262144 → mX5_count_1_L1 mF mR tb gr fu_1_1_1 fu_1_3_2 fu_1_5_3 fu_1_7_4 fu_9_5 who nn k1 i1 sum1 = (mX5_count_1_L1 mF mR tb gr fu_1_1_1 fu_1_3_2 fu_1_5_3 fu_1_7_4 fu_9_5 who nn 262144 0 (0 : Int32)) → ∀ (H : Heap) (locs : List Loc), va_P (gD g) vwCl ([(md, .inr (5, [.int (mX5_count_1_V1 who), .int mF, .int mR, .ref r1, .ref r2, .ref r3, .int (zI mt), .int mk, .int mw, .int mm, .int mb, .int ms, .ref r4, .int my])), (r1, .inl (gJ g, 327680, .inr (.inl ((mX5_build_1 mF mR tb gr fu_1_1_1 fu_1_3_2 fu_1_5_3 fu_1_7_4 fu_9_5).1)))), (r2, .inl (gZ g, 6, .inl (upd (upd (upd (upd (upd (fun _ => (0 : Int32)) (2 : Int32).toNatClampNeg (vp_nar .boolean (1 : Int32))) (3 : Int32).toNatClampNeg (vp_nar .boolean (1 : Int32))) (4 : Int32).toNatClampNeg (vp_nar .boolean (1 : Int32))) (5 : Int32).toNatClampNeg (vp_nar .boolean (1 : Int32))) (1 : Int32).toNatClampNeg (vp_nar .boolean (1 : Int32))))), (r3, .inl (gI g, 6, .inl ((mX5_build_1 mF mR tb gr fu_1_1_1 fu_1_3_2 fu_1_5_3 fu_1_7_4 fu_9_5).2))), (r4, .inl (gI g, 64, .inl ml))]) H → va_D (et_ad ([(md, .inr (5, [.int th, .int mF, .int mR, .ref r1, .ref r2, .ref r3, .int (zI mt), .int mk, .int mw, .int mm, .int mb, .int ms, .ref r4, .int my])), (r1, .inl (gJ g, 327680, .inr (.inl tb))), (r2, .inl (gZ g, 6, .inl (fun _ => (0 : Int32)))), (r3, .inl (gI g, 6, .inl gr)), (r4, .inl (gI g, 64, .inl ml))])) ([(md, .inr (5, [.int (mX5_count_1_V1 who), .int mF, .int mR, .ref r1, .ref r2, .ref r3, .int (zI mt), .int mk, .int mw, .int mm, .int mb, .int ms, .ref r4, .int my])), (r1, .inl (gJ g, 327680, .inr (.inl ((mX5_build_1 mF mR tb gr fu_1_1_1 fu_1_3_2 fu_1_5_3 fu_1_7_4 fu_9_5).1)))), (r2, .inl (gZ g, 6, .inl (upd (upd (upd (upd (upd (fun _ => (0 : Int32)) (2 : Int32).toNatClampNeg (vp_nar .boolean (1 : Int32))) (3 : Int32).toNatClampNeg (vp_nar .boolean (1 : Int32))) (4 : Int32).toNatClampNeg (vp_nar .boolean (1 : Int32))) (5 : Int32).toNatClampNeg (vp_nar .boolean (1 : Int32))) (1 : Int32).toNatClampNeg (vp_nar .boolean (1 : Int32))))), (r3, .inl (gI g, 6, .inl ((mX5_build_1 mF mR tb gr fu_1_1_1 fu_1_3_2 fu_1_5_3 fu_1_7_4 fu_9_5).2))), (r4, .inl (gI g, 64, .inl ml))]) → va_S (et_ad ([(md, .inr (5, [.int th, .int mF, .int mR, .ref r1, .ref r2, .ref r3, .int (zI mt), .int mk, .int mw, .int mm, .int mb, .int ms, .ref r4, .int my])), (r1, .inl (gJ g, 327680, .inr (.inl tb))), (r2, .inl (gZ g, 6, .inl (fun _ => (0 : Int32)))), (r3, .inl (gI g, 6, .inl gr)), (r4, .inl (gI g, 64, .inl ml))])) s.heap H locs → ∀ ls : Array Slot, lv_has ls 6 [(5, .int (nI i1)), (4, .int sum1), (0, .ref md), (1, .int (1 : Int32)), (2, .int who), (3, .int nn)] → W p l e ({ frames := 8, cells := 0, slots := 0, locals := 206 } : Room) s m args below meth c H locs 0 0 (MQ below (et_QW g ([(md, .inr (5, [.int th, .int mF, .int mR, .ref r1, .ref r2, .ref r3, .int (zI mt), .int mk, .int mw, .int mm, .int mb, .int ms, .ref r4, .int my])), (r1, .inl (gJ g, 327680, .inr (.inl tb))), (r2, .inl (gZ g, 6, .inl (fun _ => (0 : Int32)))), (r3, .inl (gI g, 6, .inl gr)), (r4, .inl (gI g, 64, .inl ml))]) ([(md, .inr (5, [.int ((mX5_count_1 mF mR tb gr fu_1_1_1 fu_1_3_2 fu_1_5_3 fu_1_7_4 fu_9_5 who nn).2.1), .int mF, .int mR, .ref r1, .ref r2, .ref r3, .int (zI mt), .int mk, .int mw, .int mm, .int mb, .int ms, .ref r4, .int my])), (r1, .inl (gJ g, 327680, .inr (.inl ((mX5_count_1 mF mR tb gr fu_1_1_1 fu_1_3_2 fu_1_5_3 fu_1_7_4 fu_9_5 who nn).2.2.1)))), (r2, .inl (gZ g, 6, .inl ((mX5_count_1 mF mR tb gr fu_1_1_1 fu_1_3_2 fu_1_5_3 fu_1_7_4 fu_9_5 who nn).2.2.2.2))), (r3, .inl (gI g, 6, .inl ((mX5_count_1 mF mR tb gr fu_1_1_1 fu_1_3_2 fu_1_5_3 fu_1_7_4 fu_9_5 who nn).2.2.2.1))), (r4, .inl (gI g, 64, .inl ml))]) (some (.int ((mX5_count_1 mF mR tb gr fu_1_1_1 fu_1_3_2 fu_1_5_3 fu_1_7_4 fu_9_5 who nn).1)))) args s 0 0 (et_ad ([(md, .inr (5, [.int th, .int mF, .int mR, .ref r1, .ref r2, .ref r3, .int (zI mt), .int mk, .int mw, .int mm, .int mb, .int ms, .ref r4, .int my])), (r1, .inl (gJ g, 327680, .inr (.inl tb))), (r2, .inl (gZ g, 6, .inl (fun _ => (0 : Int32)))), (r3, .inl (gI g, 6, .inl gr)), (r4, .inl (gI g, 64, .inl ml))]))) (F0 m 45 ls []) := by
        intro k1
        induction k1 with
        | zero =>
          intro i1 sum1 hik  hm H locs hP hD hS ls hl
          refine lv_iload hx hb dX5_count_45 (lv_at hl 0 rfl) ?_
          refine lv_ldc hx hb hown (hts _ w_844) dX5_count_47 ?_
          refine lv_icmp_ge (tgt := 81) hx hb dX5_count_49 (by decide) (fun c_2 => ?_) (fun c_2 => ?_)
          rotate_left
          · exact absurd (et_le (a := 262144) (b := i1) (by omega) (by omega)) c_2
          have hq1 : sum1 = (mX5_count_1_L1 mF mR tb gr fu_1_1_1 fu_1_3_2 fu_1_5_3 fu_1_7_4 fu_9_5 who nn 262144 0 (0 : Int32)) := (by rw [mX5_count_1_L1] : mX5_count_1_L1 mF mR tb gr fu_1_1_1 fu_1_3_2 fu_1_5_3 fu_1_7_4 fu_9_5 who nn 0 i1 sum1 = sum1).symm.trans hm
          exact hx1 _ _ hP hD hS ls (by rw [← hq1]; exact lv_sub hl [1, 2, 3, 4, 5] rfl)
        | succ k1 ih1 =>
          intro i1 sum1 hik  hm H locs hP hD hS ls hl
          refine lv_iload hx hb dX5_count_45 (lv_at hl 0 rfl) ?_
          refine lv_ldc hx hb hown (hts _ w_844) dX5_count_47 ?_
          refine lv_icmp_ge (tgt := 81) hx hb dX5_count_49 (by decide) (fun c_3 => ?_) (fun c_3 => ?_)
          · exact absurd c_3 (et_ge (a := i1) (b := 262144) (by omega) (by omega))
          have hj2 : ∀ ls : Array Slot, lv_has ls 6 [(5, .int (nI i1)), (4, .int sum1), (0, .ref md), (1, .int (1 : Int32)), (2, .int who), (3, .int nn)] → W p l e ({ frames := 8, cells := 0, slots := 0, locals := 206 } : Room) s m args below meth c H locs 0 0 (MQ below (et_QW g ([(md, .inr (5, [.int th, .int mF, .int mR, .ref r1, .ref r2, .ref r3, .int (zI mt), .int mk, .int mw, .int mm, .int mb, .int ms, .ref r4, .int my])), (r1, .inl (gJ g, 327680, .inr (.inl tb))), (r2, .inl (gZ g, 6, .inl (fun _ => (0 : Int32)))), (r3, .inl (gI g, 6, .inl gr)), (r4, .inl (gI g, 64, .inl ml))]) ([(md, .inr (5, [.int ((mX5_count_1 mF mR tb gr fu_1_1_1 fu_1_3_2 fu_1_5_3 fu_1_7_4 fu_9_5 who nn).2.1), .int mF, .int mR, .ref r1, .ref r2, .ref r3, .int (zI mt), .int mk, .int mw, .int mm, .int mb, .int ms, .ref r4, .int my])), (r1, .inl (gJ g, 327680, .inr (.inl ((mX5_count_1 mF mR tb gr fu_1_1_1 fu_1_3_2 fu_1_5_3 fu_1_7_4 fu_9_5 who nn).2.2.1)))), (r2, .inl (gZ g, 6, .inl ((mX5_count_1 mF mR tb gr fu_1_1_1 fu_1_3_2 fu_1_5_3 fu_1_7_4 fu_9_5 who nn).2.2.2.2))), (r3, .inl (gI g, 6, .inl ((mX5_count_1 mF mR tb gr fu_1_1_1 fu_1_3_2 fu_1_5_3 fu_1_7_4 fu_9_5 who nn).2.2.2.1))), (r4, .inl (gI g, 64, .inl ml))]) (some (.int ((mX5_count_1 mF mR tb gr fu_1_1_1 fu_1_3_2 fu_1_5_3 fu_1_7_4 fu_9_5 who nn).1)))) args s 0 0 (et_ad ([(md, .inr (5, [.int th, .int mF, .int mR, .ref r1, .ref r2, .ref r3, .int (zI mt), .int mk, .int mw, .int mm, .int mb, .int ms, .ref r4, .int my])), (r1, .inl (gJ g, 327680, .inr (.inl tb))), (r2, .inl (gZ g, 6, .inl (fun _ => (0 : Int32)))), (r3, .inl (gI g, 6, .inl gr)), (r4, .inl (gI g, 64, .inl ml))]))) (F0 m 73 ls [.int (mX5_count_1_V2 mF mR tb gr fu_1_1_1 fu_1_3_2 fu_1_5_3 fu_1_7_4 fu_9_5 who nn i1 sum1)]) := by
            intro ls hl
            refine lv_istore (lv' := [(4, .int (mX5_count_1_V2 mF mR tb gr fu_1_1_1 fu_1_3_2 fu_1_5_3 fu_1_7_4 fu_9_5 who nn i1 sum1)), (5, .int (nI i1)), (0, .ref md), (1, .int (1 : Int32)), (2, .int who), (3, .int nn)]) hx hb dX5_count_73 hl (by decide) rfl (fun ls hl => ?_)
            refine lv_iinc (v := nI (i1 + 1)) (lv' := [(5, .int (nI (i1 + 1))), (4, .int (mX5_count_1_V2 mF mR tb gr fu_1_1_1 fu_1_3_2 fu_1_5_3 fu_1_7_4 fu_9_5 who nn i1 sum1)), (0, .ref md), (1, .int (1 : Int32)), (2, .int who), (3, .int nn)]) hx hb dX5_count_75 hl (k := 1) rfl (et_inc i1) (by decide) rfl (fun ls hl => ?_)
            refine lv_goto (tgt := 45) hx hb dX5_count_78 (by decide) ?_
            exact ih1 (i1 + 1) (mX5_count_1_V2 mF mR tb gr fu_1_1_1 fu_1_3_2 fu_1_5_3 fu_1_7_4 fu_9_5 who nn i1 sum1) (by omega) ((by rw [mX5_count_1_L1] : mX5_count_1_L1 mF mR tb gr fu_1_1_1 fu_1_3_2 fu_1_5_3 fu_1_7_4 fu_9_5 who nn (k1 + 1) i1 sum1 = mX5_count_1_L1 mF mR tb gr fu_1_1_1 fu_1_3_2 fu_1_5_3 fu_1_7_4 fu_9_5 who nn k1 (i1 + 1) (mX5_count_1_V2 mF mR tb gr fu_1_1_1 fu_1_3_2 fu_1_5_3 fu_1_7_4 fu_9_5 who nn i1 sum1)).symm.trans hm) _ _ hP hD hS ls (lv_sub hl [0, 1, 2, 3, 4, 5] rfl)
          refine lv_aload_n hx hb dX5_count_52 rfl (lv_at hl 2 rfl) ?_
          refine lv_iload_n hx hb dX5_count_53 rfl (lv_at hl 3 rfl) ?_
          refine lv_iload_n hx hb dX5_count_54 rfl (lv_at hl 4 rfl) ?_
          refine lv_iload_n hx hb dX5_count_55 rfl (lv_at hl 5 rfl) ?_
          refine lv_iload hx hb dX5_count_56 (lv_at hl 0 rfl) ?_
          refine et_callP1 (v := .int (zI (mX5_isOne mF mR ((mX5_build_1 mF mR tb gr fu_1_1_1 fu_1_3_2 fu_1_5_3 fu_1_7_4 fu_9_5).1) (1 : Int32) who nn (nI i1)))) (va_runV (As := [.int (1 : Int32), .int who, .int nn, .int (nI i1)]) (rest := []) ⟨hx, hb, hml, hown, hts⟩ (c_X5_isOne l g md r1 r2 r3 r4 mF mR (mX5_count_1_V1 who) ((mX5_build_1 mF mR tb gr fu_1_1_1 fu_1_3_2 fu_1_5_3 fu_1_7_4 fu_9_5).1) (upd (upd (upd (upd (upd (fun _ => (0 : Int32)) (2 : Int32).toNatClampNeg (vp_nar .boolean (1 : Int32))) (3 : Int32).toNatClampNeg (vp_nar .boolean (1 : Int32))) (4 : Int32).toNatClampNeg (vp_nar .boolean (1 : Int32))) (5 : Int32).toNatClampNeg (vp_nar .boolean (1 : Int32))) (1 : Int32).toNatClampNeg (vp_nar .boolean (1 : Int32))) ((mX5_build_1 mF mR tb gr fu_1_1_1 fu_1_3_2 fu_1_5_3 fu_1_7_4 fu_9_5).2) mt mk mw mm mb ms ml my (1 : Int32) who nn (nI i1) (by assumption) (by assumption) (et_kdl (by decide)) (et_cntV_1 (by assumption)) (et_ati (by omega))) (cwV 4 hts (W0_gV w_874 w_876 w_67 w_82 w_877) rfl rfl rfl (by decide +kernel) ⟨Nat.le_of_ble_eq_true rfl, Nat.le_of_ble_eq_true rfl⟩) (et_preV hP hC [0, 1, 2, 3, 4] rfl (ci := 5) (q0 := 0) rfl rfl) rfl rfl hl.1 rfl (lv_room (Nat.le_of_ble_eq_true rfl)) dX5_count_58 ⟨Nat.le_of_ble_eq_true rfl, Nat.le_of_ble_eq_true rfl⟩) ?_
          refine lv_if_eq (tgt := 71) hx hb dX5_count_61 (by decide) (fun c_4 => ?_) (fun c_4 => ?_)
          ·
            refine lv_iload hx hb dX5_count_71 (lv_at hl 1 rfl) ?_
            have he2 : (sum1 : Int32) = (mX5_count_1_V2 mF mR tb gr fu_1_1_1 fu_1_3_2 fu_1_5_3 fu_1_7_4 fu_9_5 who nn i1 sum1) := (by rw [mX5_count_1_V2, if_pos c_4])
            exact et_stki he2 (hj2 ls (lv_sub hl [0, 1, 2, 3, 4, 5] rfl))
          ·
            refine lv_iload hx hb dX5_count_64 (lv_at hl 1 rfl) ?_
            refine lv_iconst (v := (1 : Int32)) hx hb dX5_count_66 (by decide) ?_
            refine lv_iadd hx hb dX5_count_67 ?_
            refine lv_goto (tgt := 73) hx hb dX5_count_68 (by decide) ?_
            have he3 : (sum1 + (1 : Int32) : Int32) = (mX5_count_1_V2 mF mR tb gr fu_1_1_1 fu_1_3_2 fu_1_5_3 fu_1_7_4 fu_9_5 who nn i1 sum1) := (by rw [mX5_count_1_V2, if_neg c_4])
            exact et_stki he3 (hj2 ls (lv_sub hl [0, 1, 2, 3, 4, 5] rfl))
      exact hL1 262144 0 (0 : Int32) (by omega) rfl _ _ hP hD hS ls (lv_sub hl [0, 1, 2, 3, 4, 5] rfl)
    ·
      refine lv_iconst (v := (0 : Int32)) hx hb dX5_count_32 (by decide) ?_
      have hfin : ((0 : Int32), (mX5_count_1_V1 who), tb, gr, (fun _ => (0 : Int32))) = (mX5_count_1 mF mR tb gr fu_1_1_1 fu_1_3_2 fu_1_5_3 fu_1_7_4 fu_9_5 who nn) := (by rw [mX5_count_1, if_neg c_1])
      exact et_iretW hx hb hr hlocks dX5_count_33 hP hS (by rw [← hfin]) ((by rw [← hfin]))
  refine lv_iload_n hx hb dX5_count_1 rfl (lv_at hl 1 rfl) ?_
  refine et_callP1 (v := .int (zI (mX5_isKind (1 : Int32)))) (va_runS (As := [.int (1 : Int32)]) (rest := [.ref md]) ⟨hx, hb, hml, hown, hts⟩ (c_X5_isKind l g (1 : Int32)) (va_cwS 1 hts (W0_gS w_789 w_790 w_82 w_791) rfl rfl rfl (by decide +kernel) ⟨Nat.le_of_ble_eq_true rfl, Nat.le_of_ble_eq_true rfl⟩) (et_preS hP hC [] rfl) rfl rfl hl.1 rfl (lv_room (Nat.le_of_ble_eq_true rfl)) dX5_count_2 ⟨Nat.le_of_ble_eq_true rfl, Nat.le_of_ble_eq_true rfl⟩) ?_
  refine lv_if_eq (tgt := 21) hx hb dX5_count_5 (by decide) (fun c_5 => ?_) (fun c_5 => ?_)
  ·
    refine lv_iconst (v := (1 : Int32)) hx hb dX5_count_21 (by decide) ?_
    have he4 : ((1 : Int32) : Int32) = (mX5_count_1_V1 who) := (by rw [mX5_count_1_V1, if_pos c_5])
    exact et_stki he4 (hj1 ls (lv_sub hl [0, 1, 2, 3] rfl))
  ·
    refine lv_iload_n hx hb dX5_count_8 rfl (lv_at hl 2 rfl) ?_
    refine lv_if_lt (tgt := 21) hx hb dX5_count_9 (by decide) (fun c_6 => ?_) (fun c_6 => ?_)
    ·
      refine lv_iconst (v := (1 : Int32)) hx hb dX5_count_21 (by decide) ?_
      have he5 : ((1 : Int32) : Int32) = (mX5_count_1_V1 who) := (by rw [mX5_count_1_V1, if_neg c_5, if_pos c_6])
      exact et_stki he5 (hj1 ls (lv_sub hl [0, 1, 2, 3] rfl))
    ·
      refine lv_iload_n hx hb dX5_count_12 rfl (lv_at hl 2 rfl) ?_
      refine lv_iconst (v := (2 : Int32)) hx hb dX5_count_13 (by decide) ?_
      refine lv_icmp_ge (tgt := 21) hx hb dX5_count_14 (by decide) (fun c_7 => ?_) (fun c_7 => ?_)
      ·
        refine lv_iconst (v := (1 : Int32)) hx hb dX5_count_21 (by decide) ?_
        have he6 : ((1 : Int32) : Int32) = (mX5_count_1_V1 who) := (by rw [mX5_count_1_V1, if_neg c_5, if_neg c_6, if_pos c_7])
        exact et_stki he6 (hj1 ls (lv_sub hl [0, 1, 2, 3] rfl))
      ·
        refine lv_iconst (v := (0 : Int32)) hx hb dX5_count_17 (by decide) ?_
        refine lv_goto (tgt := 22) hx hb dX5_count_18 (by decide) ?_
        have he7 : ((0 : Int32) : Int32) = (mX5_count_1_V1 who) := (by rw [mX5_count_1_V1, if_neg c_5, if_neg c_6, if_neg c_7])
        exact et_stki he7 (hj1 ls (lv_sub hl [0, 1, 2, 3] rfl))

def mX5_find_1_V1 (who : Int32) : Int32 :=
  if (zI (mX5_isKind (1 : Int32))) = 0 then
    (1 : Int32)
  else
    if who < 0 then
      (1 : Int32)
    else
      if (2 : Int32) ≤ who then
        (1 : Int32)
      else
        (0 : Int32)
def mX5_find_1_L1 (mF : Int32) (mR : Int32) (tb : Nat → Int64) (gr : Nat → Int32) (fu_1_1_1 : Nat) (fu_1_3_2 : Nat) (fu_1_5_3 : Nat) (fu_1_7_4 : Nat) (fu_9_5 : Nat) (who : Int32) (nn : Int32) (ix : Int32) : Nat → Nat → Int32 → Int32 × Int32 × (Nat → Int64) × (Nat → Int32) × (Nat → Int32)
  | 0, i1, left1 =>
    ((0 : Int32), (2 : Int32), (mX5_build_1 mF mR tb gr fu_1_1_1 fu_1_3_2 fu_1_5_3 fu_1_7_4 fu_9_5).1, (mX5_build_1 mF mR tb gr fu_1_1_1 fu_1_3_2 fu_1_5_3 fu_1_7_4 fu_9_5).2, upd (upd (upd (upd (upd (fun _ => (0 : Int32)) (2 : Int32).toNatClampNeg (vp_nar .boolean (1 : Int32))) (3 : Int32).toNatClampNeg (vp_nar .boolean (1 : Int32))) (4 : Int32).toNatClampNeg (vp_nar .boolean (1 : Int32))) (5 : Int32).toNatClampNeg (vp_nar .boolean (1 : Int32))) (1 : Int32).toNatClampNeg (vp_nar .boolean (1 : Int32)))
  | k1 + 1, i1, left1 =>
    if ix < 0 then
      ((0 : Int32), (2 : Int32), (mX5_build_1 mF mR tb gr fu_1_1_1 fu_1_3_2 fu_1_5_3 fu_1_7_4 fu_9_5).1, (mX5_build_1 mF mR tb gr fu_1_1_1 fu_1_3_2 fu_1_5_3 fu_1_7_4 fu_9_5).2, upd (upd (upd (upd (upd (fun _ => (0 : Int32)) (2 : Int32).toNatClampNeg (vp_nar .boolean (1 : Int32))) (3 : Int32).toNatClampNeg (vp_nar .boolean (1 : Int32))) (4 : Int32).toNatClampNeg (vp_nar .boolean (1 : Int32))) (5 : Int32).toNatClampNeg (vp_nar .boolean (1 : Int32))) (1 : Int32).toNatClampNeg (vp_nar .boolean (1 : Int32)))
    else
      if (zI (mX5_isOne mF mR ((mX5_build_1 mF mR tb gr fu_1_1_1 fu_1_3_2 fu_1_5_3 fu_1_7_4 fu_9_5).1) (1 : Int32) who nn (nI i1))) = 0 then
        mX5_find_1_L1 mF mR tb gr fu_1_1_1 fu_1_3_2 fu_1_5_3 fu_1_7_4 fu_9_5 who nn ix k1 (i1 + 1) left1
      else
        if left1 = 0 then
          ((((nI i1) / (4096 : Int32)) + ((64 : Int32) * (((nI i1) / (64 : Int32)) - ((nI i1) / (64 : Int32)) / (64 : Int32) * (64 : Int32)))) + ((4096 : Int32) * ((nI i1) - (nI i1) / (64 : Int32) * (64 : Int32))), (mX5_find_1_V1 who), (mX5_build_1 mF mR tb gr fu_1_1_1 fu_1_3_2 fu_1_5_3 fu_1_7_4 fu_9_5).1, (mX5_build_1 mF mR tb gr fu_1_1_1 fu_1_3_2 fu_1_5_3 fu_1_7_4 fu_9_5).2, upd (upd (upd (upd (upd (fun _ => (0 : Int32)) (2 : Int32).toNatClampNeg (vp_nar .boolean (1 : Int32))) (3 : Int32).toNatClampNeg (vp_nar .boolean (1 : Int32))) (4 : Int32).toNatClampNeg (vp_nar .boolean (1 : Int32))) (5 : Int32).toNatClampNeg (vp_nar .boolean (1 : Int32))) (1 : Int32).toNatClampNeg (vp_nar .boolean (1 : Int32)))
        else
          mX5_find_1_L1 mF mR tb gr fu_1_1_1 fu_1_3_2 fu_1_5_3 fu_1_7_4 fu_9_5 who nn ix k1 (i1 + 1) (left1 + (-1 : Int32))
def mX5_find_1 (mF : Int32) (mR : Int32) (tb : Nat → Int64) (gr : Nat → Int32) (fu_1_1_1 : Nat) (fu_1_3_2 : Nat) (fu_1_5_3 : Nat) (fu_1_7_4 : Nat) (fu_9_5 : Nat) (who : Int32) (nn : Int32) (ix : Int32) : Int32 × Int32 × (Nat → Int64) × (Nat → Int32) × (Nat → Int32) :=
  if (mX5_find_1_V1 who) ≤ 0 then
    mX5_find_1_L1 mF mR tb gr fu_1_1_1 fu_1_3_2 fu_1_5_3 fu_1_7_4 fu_9_5 who nn ix 262144 0 ix
  else
    ((0 : Int32), (mX5_find_1_V1 who), tb, gr, (fun _ => (0 : Int32)))
theorem et_findV_1 {who : Int32} (h : mX5_find_1_V1 who ≤ 0) : et_sd who := by
  unfold mX5_find_1_V1 at h
  rw [if_neg (show ¬ zI (mX5_isKind (1 : Int32)) = 0 by decide)] at h
  rcases pk_ix who (n := 2) (by omega) with h1 | h1 | ⟨j, hj, rfl⟩
  · rw [if_pos h1] at h
    exact absurd h (by decide)
  · rw [if_neg (show ¬ who < 0 from fun h2 => absurd (Int32.le_trans h1 (Int32.le_of_lt h2)) (by decide)), if_pos (show (2 : Int32) ≤ who from h1)] at h
    exact absurd h (by decide)
  · rcases (show j = 0 ∨ j = 1 by omega) with rfl | rfl
    · exact Or.inl rfl
    · exact Or.inr rfl
set_option maxHeartbeats 4000000 in
set_option maxRecDepth 100000 in
theorem c_X5_find_1 (l : Launch) (g : et_G) (md : Nat) (r1 : Nat) (r2 : Nat) (r3 : Nat) (r4 : Nat) (mF : Int32) (mR : Int32) (th : Int32) (tb : Nat → Int64) (gr : Nat → Int32) (mt : Bool) (mk : Int32) (mw : Int32) (mm : Int32) (mb : Int32) (ms : Int32) (ml : Nat → Int32) (my : Int32) (fu_1_1_1 : Nat) (fu_1_3_2 : Nat) (fu_1_5_3 : Nat) (fu_1_7_4 : Nat) (fu_9_5 : Nat) (who : Int32) (nn : Int32) (ix : Int32) (hF : et_b8 mF) (hR : et_b8 mR) (hT_2_2_6 : mX5_passAll_L1_ok mF mR (2 : Int32) (1 : Int32) fu_1_1_1 0 (0 : Int32) (0 : Int32) tb (upd gr (2 : Int32).toNatClampNeg (-1 : Int32)) = true) (hT_2_4_7 : mX5_passAll_L1_ok mF mR (3 : Int32) (1 : Int32) fu_1_3_2 0 (0 : Int32) (0 : Int32) ((mX5_build2_2 mF mR tb gr fu_1_1_1).1) (upd ((mX5_build2_2 mF mR tb gr fu_1_1_1).2) (3 : Int32).toNatClampNeg (-1 : Int32)) = true) (hT_2_6_8 : mX5_passAll_L1_ok mF mR (4 : Int32) (1 : Int32) fu_1_5_3 0 (0 : Int32) (0 : Int32) ((mX5_build2_3 mF mR ((mX5_build2_2 mF mR tb gr fu_1_1_1).1) ((mX5_build2_2 mF mR tb gr fu_1_1_1).2) fu_1_3_2).1) (upd ((mX5_build2_3 mF mR ((mX5_build2_2 mF mR tb gr fu_1_1_1).1) ((mX5_build2_2 mF mR tb gr fu_1_1_1).2) fu_1_3_2).2) (4 : Int32).toNatClampNeg (-1 : Int32)) = true) (hT_2_8_9 : mX5_passAll_L1_ok mF mR (5 : Int32) (1 : Int32) fu_1_7_4 0 (0 : Int32) (0 : Int32) ((mX5_build2_4 mF mR ((mX5_build2_3 mF mR ((mX5_build2_2 mF mR tb gr fu_1_1_1).1) ((mX5_build2_2 mF mR tb gr fu_1_1_1).2) fu_1_3_2).1) ((mX5_build2_3 mF mR ((mX5_build2_2 mF mR tb gr fu_1_1_1).1) ((mX5_build2_2 mF mR tb gr fu_1_1_1).2) fu_1_3_2).2) fu_1_5_3).1) (upd ((mX5_build2_4 mF mR ((mX5_build2_3 mF mR ((mX5_build2_2 mF mR tb gr fu_1_1_1).1) ((mX5_build2_2 mF mR tb gr fu_1_1_1).2) fu_1_3_2).1) ((mX5_build2_3 mF mR ((mX5_build2_2 mF mR tb gr fu_1_1_1).1) ((mX5_build2_2 mF mR tb gr fu_1_1_1).2) fu_1_3_2).2) fu_1_5_3).2) (5 : Int32).toNatClampNeg (-1 : Int32)) = true) (hT_10_10 : mX5_passAll_L1_ok mF mR (1 : Int32) (mX5_build_1_V4 mF mR tb gr fu_1_1_1 fu_1_3_2 fu_1_5_3 fu_1_7_4) fu_9_5 0 (0 : Int32) (0 : Int32) ((mX5_build2_5 mF mR ((mX5_build2_4 mF mR ((mX5_build2_3 mF mR ((mX5_build2_2 mF mR tb gr fu_1_1_1).1) ((mX5_build2_2 mF mR tb gr fu_1_1_1).2) fu_1_3_2).1) ((mX5_build2_3 mF mR ((mX5_build2_2 mF mR tb gr fu_1_1_1).1) ((mX5_build2_2 mF mR tb gr fu_1_1_1).2) fu_1_3_2).2) fu_1_5_3).1) ((mX5_build2_4 mF mR ((mX5_build2_3 mF mR ((mX5_build2_2 mF mR tb gr fu_1_1_1).1) ((mX5_build2_2 mF mR tb gr fu_1_1_1).2) fu_1_3_2).1) ((mX5_build2_3 mF mR ((mX5_build2_2 mF mR tb gr fu_1_1_1).1) ((mX5_build2_2 mF mR tb gr fu_1_1_1).2) fu_1_3_2).2) fu_1_5_3).2) fu_1_7_4).1) (upd ((mX5_build2_5 mF mR ((mX5_build2_4 mF mR ((mX5_build2_3 mF mR ((mX5_build2_2 mF mR tb gr fu_1_1_1).1) ((mX5_build2_2 mF mR tb gr fu_1_1_1).2) fu_1_3_2).1) ((mX5_build2_3 mF mR ((mX5_build2_2 mF mR tb gr fu_1_1_1).1) ((mX5_build2_2 mF mR tb gr fu_1_1_1).2) fu_1_3_2).2) fu_1_5_3).1) ((mX5_build2_4 mF mR ((mX5_build2_3 mF mR ((mX5_build2_2 mF mR tb gr fu_1_1_1).1) ((mX5_build2_2 mF mR tb gr fu_1_1_1).2) fu_1_3_2).1) ((mX5_build2_3 mF mR ((mX5_build2_2 mF mR tb gr fu_1_1_1).1) ((mX5_build2_2 mF mR tb gr fu_1_1_1).2) fu_1_3_2).2) fu_1_5_3).2) fu_1_7_4).2) (1 : Int32).toNatClampNeg (-1 : Int32)) = true) : Met l yX5_find (Cond.code yX5_find cX5_find 7 (some (.int)) :: W0) ({ frames := 8, cells := 0, slots := 0, locals := 206 } : Room) (et_PcW g ([(md, .inr (5, [.int th, .int mF, .int mR, .ref r1, .ref r2, .ref r3, .int (zI mt), .int mk, .int mw, .int mm, .int mb, .int ms, .ref r4, .int my])), (r1, .inl (gJ g, 327680, .inr (.inl tb))), (r2, .inl (gZ g, 6, .inl (fun _ => (0 : Int32)))), (r3, .inl (gI g, 6, .inl gr)), (r4, .inl (gI g, 64, .inl ml))]) [.ref md, .int (1 : Int32), .int who, .int nn, .int ix]) (et_QW g ([(md, .inr (5, [.int th, .int mF, .int mR, .ref r1, .ref r2, .ref r3, .int (zI mt), .int mk, .int mw, .int mm, .int mb, .int ms, .ref r4, .int my])), (r1, .inl (gJ g, 327680, .inr (.inl tb))), (r2, .inl (gZ g, 6, .inl (fun _ => (0 : Int32)))), (r3, .inl (gI g, 6, .inl gr)), (r4, .inl (gI g, 64, .inl ml))]) ([(md, .inr (5, [.int ((mX5_find_1 mF mR tb gr fu_1_1_1 fu_1_3_2 fu_1_5_3 fu_1_7_4 fu_9_5 who nn ix).2.1), .int mF, .int mR, .ref r1, .ref r2, .ref r3, .int (zI mt), .int mk, .int mw, .int mm, .int mb, .int ms, .ref r4, .int my])), (r1, .inl (gJ g, 327680, .inr (.inl ((mX5_find_1 mF mR tb gr fu_1_1_1 fu_1_3_2 fu_1_5_3 fu_1_7_4 fu_9_5 who nn ix).2.2.1)))), (r2, .inl (gZ g, 6, .inl ((mX5_find_1 mF mR tb gr fu_1_1_1 fu_1_3_2 fu_1_5_3 fu_1_7_4 fu_9_5 who nn ix).2.2.2.2))), (r3, .inl (gI g, 6, .inl ((mX5_find_1 mF mR tb gr fu_1_1_1 fu_1_3_2 fu_1_5_3 fu_1_7_4 fu_9_5 who nn ix).2.2.2.1))), (r4, .inl (gI g, 64, .inl ml))]) (some (.int ((mX5_find_1 mF mR tb gr fu_1_1_1 fu_1_3_2 fu_1_5_3 fu_1_7_4 fu_9_5 who nn ix).1)))) 0 0 (et_ad ([(md, .inr (5, [.int th, .int mF, .int mR, .ref r1, .ref r2, .ref r3, .int (zI mt), .int mk, .int mw, .int mm, .int mb, .int ms, .ref r4, .int my])), (r1, .inl (gJ g, 327680, .inr (.inl tb))), (r2, .inl (gZ g, 6, .inl (fun _ => (0 : Int32)))), (r3, .inl (gI g, 6, .inl gr)), (r4, .inl (gI g, 64, .inl ml))])) := by
  refine et_startW (by decide) rfl (Nat.le_of_ble_eq_true rfl) ?_
  intro p e s m args below meth c hx hb hr hts0 hown hlocks hml hP hC hD hS ls hl
  have hts : ∀ w ∈ W0, w.before args s = true := fun w h => hts0 w (List.mem_cons_of_mem _ h)
  have hown : s.vm.findClass RX5 = some m.cls := hown
  have hl : lv_has ls 7 [(0, .ref md), (1, .int (1 : Int32)), (2, .int who), (3, .int nn), (4, .int ix)] := hl
  refine lv_aload_n hx hb dX5_find_0 rfl (lv_at hl 0 rfl) ?_
  have hj1 : ∀ ls : Array Slot, lv_has ls 7 [(0, .ref md), (1, .int (1 : Int32)), (2, .int who), (3, .int nn), (4, .int ix)] → W p l e ({ frames := 8, cells := 0, slots := 0, locals := 206 } : Room) s m args below meth c s.heap [] 0 0 (MQ below (et_QW g ([(md, .inr (5, [.int th, .int mF, .int mR, .ref r1, .ref r2, .ref r3, .int (zI mt), .int mk, .int mw, .int mm, .int mb, .int ms, .ref r4, .int my])), (r1, .inl (gJ g, 327680, .inr (.inl tb))), (r2, .inl (gZ g, 6, .inl (fun _ => (0 : Int32)))), (r3, .inl (gI g, 6, .inl gr)), (r4, .inl (gI g, 64, .inl ml))]) ([(md, .inr (5, [.int ((mX5_find_1 mF mR tb gr fu_1_1_1 fu_1_3_2 fu_1_5_3 fu_1_7_4 fu_9_5 who nn ix).2.1), .int mF, .int mR, .ref r1, .ref r2, .ref r3, .int (zI mt), .int mk, .int mw, .int mm, .int mb, .int ms, .ref r4, .int my])), (r1, .inl (gJ g, 327680, .inr (.inl ((mX5_find_1 mF mR tb gr fu_1_1_1 fu_1_3_2 fu_1_5_3 fu_1_7_4 fu_9_5 who nn ix).2.2.1)))), (r2, .inl (gZ g, 6, .inl ((mX5_find_1 mF mR tb gr fu_1_1_1 fu_1_3_2 fu_1_5_3 fu_1_7_4 fu_9_5 who nn ix).2.2.2.2))), (r3, .inl (gI g, 6, .inl ((mX5_find_1 mF mR tb gr fu_1_1_1 fu_1_3_2 fu_1_5_3 fu_1_7_4 fu_9_5 who nn ix).2.2.2.1))), (r4, .inl (gI g, 64, .inl ml))]) (some (.int ((mX5_find_1 mF mR tb gr fu_1_1_1 fu_1_3_2 fu_1_5_3 fu_1_7_4 fu_9_5 who nn ix).1)))) args s 0 0 (et_ad ([(md, .inr (5, [.int th, .int mF, .int mR, .ref r1, .ref r2, .ref r3, .int (zI mt), .int mk, .int mw, .int mm, .int mb, .int ms, .ref r4, .int my])), (r1, .inl (gJ g, 327680, .inr (.inl tb))), (r2, .inl (gZ g, 6, .inl (fun _ => (0 : Int32)))), (r3, .inl (gI g, 6, .inl gr)), (r4, .inl (gI g, 64, .inl ml))]))) (F0 m 22 ls [.int (mX5_find_1_V1 who), .ref md]) := by
    intro ls hl
    refine va_put (D := gD g) (ci := 5) (v := .int (mX5_find_1_V1 who)) (ty := .int) (C := RX5) (T := TX5) (N := 14) hx hb hts inW_X5 tyX5 tyX5_ok nmX5 hown hC.1 hP hD hS 0 rfl rfl 0 (by decide) (hts _ w_733) (fun _ h9 => h9) rfl (by decide +kernel) rfl rfl (Nat.le_of_ble_eq_true rfl) dX5_find_22 (fun H locs hP hD hS => ?_)
    have hP : va_P (gD g) vwCl ([(md, .inr (5, [.int (mX5_find_1_V1 who), .int mF, .int mR, .ref r1, .ref r2, .ref r3, .int (zI mt), .int mk, .int mw, .int mm, .int mb, .int ms, .ref r4, .int my])), (r1, .inl (gJ g, 327680, .inr (.inl tb))), (r2, .inl (gZ g, 6, .inl (fun _ => (0 : Int32)))), (r3, .inl (gI g, 6, .inl gr)), (r4, .inl (gI g, 64, .inl ml))]) H := hP
    have hD : va_D (et_ad ([(md, .inr (5, [.int th, .int mF, .int mR, .ref r1, .ref r2, .ref r3, .int (zI mt), .int mk, .int mw, .int mm, .int mb, .int ms, .ref r4, .int my])), (r1, .inl (gJ g, 327680, .inr (.inl tb))), (r2, .inl (gZ g, 6, .inl (fun _ => (0 : Int32)))), (r3, .inl (gI g, 6, .inl gr)), (r4, .inl (gI g, 64, .inl ml))])) ([(md, .inr (5, [.int (mX5_find_1_V1 who), .int mF, .int mR, .ref r1, .ref r2, .ref r3, .int (zI mt), .int mk, .int mw, .int mm, .int mb, .int ms, .ref r4, .int my])), (r1, .inl (gJ g, 327680, .inr (.inl tb))), (r2, .inl (gZ g, 6, .inl (fun _ => (0 : Int32)))), (r3, .inl (gI g, 6, .inl gr)), (r4, .inl (gI g, 64, .inl ml))]) := hD
    refine lv_aload_n hx hb dX5_find_25 rfl (lv_at hl 0 rfl) ?_
    refine va_get (D := gD g) (ci := 5) (v := .int (mX5_find_1_V1 who)) (C := RX5) (T := TX5) (N := 14) hx hb hts inW_X5 hown hC.1 hP 0 rfl rfl 0 (by decide) (hts _ w_733) (fun _ h9 => h9) rfl dX5_find_26 ?_
    refine lv_if_le (tgt := 34) hx hb dX5_find_29 (by decide) (fun c_1 => ?_) (fun c_1 => ?_)
    ·
      refine lv_aload_n hx hb dX5_find_34 rfl (lv_at hl 0 rfl) ?_
      refine lv_iload_n hx hb dX5_find_35 rfl (lv_at hl 1 rfl) ?_
      refine et_callW0 (ws' := [(md, .inr (5, [.int (mX5_find_1_V1 who), .int mF, .int mR, .ref r1, .ref r2, .ref r3, .int (zI mt), .int mk, .int mw, .int mm, .int mb, .int ms, .ref r4, .int my])), (r1, .inl (gJ g, 327680, .inr (.inl ((mX5_build_1 mF mR tb gr fu_1_1_1 fu_1_3_2 fu_1_5_3 fu_1_7_4 fu_9_5).1)))), (r2, .inl (gZ g, 6, .inl (upd (upd (upd (upd (upd (fun _ => (0 : Int32)) (2 : Int32).toNatClampNeg (vp_nar .boolean (1 : Int32))) (3 : Int32).toNatClampNeg (vp_nar .boolean (1 : Int32))) (4 : Int32).toNatClampNeg (vp_nar .boolean (1 : Int32))) (5 : Int32).toNatClampNeg (vp_nar .boolean (1 : Int32))) (1 : Int32).toNatClampNeg (vp_nar .boolean (1 : Int32))))), (r3, .inl (gI g, 6, .inl ((mX5_build_1 mF mR tb gr fu_1_1_1 fu_1_3_2 fu_1_5_3 fu_1_7_4 fu_9_5).2))), (r4, .inl (gI g, 64, .inl ml))]) (va_runV (As := [.int (1 : Int32)]) (rest := []) ⟨hx, hb, hml, hown, hts⟩ (c_X5_build_1 l g md r1 r2 r3 r4 mF mR (mX5_find_1_V1 who) tb gr mt mk mw mm mb ms ml my fu_1_1_1 fu_1_3_2 fu_1_5_3 fu_1_7_4 fu_9_5 (by assumption) (by assumption) hT_2_2_6 hT_2_4_7 hT_2_6_8 hT_2_8_9 hT_10_10) (cwV 1 hts (W0_gV w_821 w_823 w_56 w_82 w_824) rfl rfl rfl (by decide +kernel) ⟨Nat.le_of_ble_eq_true rfl, Nat.le_of_ble_eq_true rfl⟩) (et_preVW hP hC hD [0, 1, 2, 3, 4] (by decide) rfl (ci := 5) (q0 := 0) rfl rfl) rfl rfl hl.1 rfl (lv_room (Nat.le_of_ble_eq_true rfl)) dX5_find_36 ⟨Nat.le_of_ble_eq_true rfl, Nat.le_of_ble_eq_true rfl⟩) hP hD hS [0, 1, 2, 3, 4] [] 5 rfl [md, r1, r2, r3, r4] rfl rfl rfl [] rfl rfl rfl (by decide +kernel) (fun H locs hP hD hS => ?_)
      refine lv_iload hx hb dX5_find_39 (lv_at hl 4 rfl) ?_
      refine lv_istore (lv' := [(5, .int ix), (0, .ref md), (1, .int (1 : Int32)), (2, .int who), (3, .int nn), (4, .int ix)]) hx hb dX5_find_41 hl (by decide) rfl (fun ls hl => ?_)
      refine lv_iconst (v := (0 : Int32)) hx hb dX5_find_43 (by decide) ?_
      refine lv_istore (lv' := [(6, .int (0 : Int32)), (5, .int ix), (0, .ref md), (1, .int (1 : Int32)), (2, .int who), (3, .int nn), (4, .int ix)]) hx hb dX5_find_44 hl (by decide) rfl (fun ls hl => ?_)
      have hL1 : ∀ (k1 i1 : Nat) (left1 : Int32), i1 + k1 = 262144 → mX5_find_1_L1 mF mR tb gr fu_1_1_1 fu_1_3_2 fu_1_5_3 fu_1_7_4 fu_9_5 who nn ix k1 i1 left1 = (mX5_find_1 mF mR tb gr fu_1_1_1 fu_1_3_2 fu_1_5_3 fu_1_7_4 fu_9_5 who nn ix) → ∀ (H : Heap) (locs : List Loc), va_P (gD g) vwCl ([(md, .inr (5, [.int (mX5_find_1_V1 who), .int mF, .int mR, .ref r1, .ref r2, .ref r3, .int (zI mt), .int mk, .int mw, .int mm, .int mb, .int ms, .ref r4, .int my])), (r1, .inl (gJ g, 327680, .inr (.inl ((mX5_build_1 mF mR tb gr fu_1_1_1 fu_1_3_2 fu_1_5_3 fu_1_7_4 fu_9_5).1)))), (r2, .inl (gZ g, 6, .inl (upd (upd (upd (upd (upd (fun _ => (0 : Int32)) (2 : Int32).toNatClampNeg (vp_nar .boolean (1 : Int32))) (3 : Int32).toNatClampNeg (vp_nar .boolean (1 : Int32))) (4 : Int32).toNatClampNeg (vp_nar .boolean (1 : Int32))) (5 : Int32).toNatClampNeg (vp_nar .boolean (1 : Int32))) (1 : Int32).toNatClampNeg (vp_nar .boolean (1 : Int32))))), (r3, .inl (gI g, 6, .inl ((mX5_build_1 mF mR tb gr fu_1_1_1 fu_1_3_2 fu_1_5_3 fu_1_7_4 fu_9_5).2))), (r4, .inl (gI g, 64, .inl ml))]) H → va_D (et_ad ([(md, .inr (5, [.int th, .int mF, .int mR, .ref r1, .ref r2, .ref r3, .int (zI mt), .int mk, .int mw, .int mm, .int mb, .int ms, .ref r4, .int my])), (r1, .inl (gJ g, 327680, .inr (.inl tb))), (r2, .inl (gZ g, 6, .inl (fun _ => (0 : Int32)))), (r3, .inl (gI g, 6, .inl gr)), (r4, .inl (gI g, 64, .inl ml))])) ([(md, .inr (5, [.int (mX5_find_1_V1 who), .int mF, .int mR, .ref r1, .ref r2, .ref r3, .int (zI mt), .int mk, .int mw, .int mm, .int mb, .int ms, .ref r4, .int my])), (r1, .inl (gJ g, 327680, .inr (.inl ((mX5_build_1 mF mR tb gr fu_1_1_1 fu_1_3_2 fu_1_5_3 fu_1_7_4 fu_9_5).1)))), (r2, .inl (gZ g, 6, .inl (upd (upd (upd (upd (upd (fun _ => (0 : Int32)) (2 : Int32).toNatClampNeg (vp_nar .boolean (1 : Int32))) (3 : Int32).toNatClampNeg (vp_nar .boolean (1 : Int32))) (4 : Int32).toNatClampNeg (vp_nar .boolean (1 : Int32))) (5 : Int32).toNatClampNeg (vp_nar .boolean (1 : Int32))) (1 : Int32).toNatClampNeg (vp_nar .boolean (1 : Int32))))), (r3, .inl (gI g, 6, .inl ((mX5_build_1 mF mR tb gr fu_1_1_1 fu_1_3_2 fu_1_5_3 fu_1_7_4 fu_9_5).2))), (r4, .inl (gI g, 64, .inl ml))]) → va_S (et_ad ([(md, .inr (5, [.int th, .int mF, .int mR, .ref r1, .ref r2, .ref r3, .int (zI mt), .int mk, .int mw, .int mm, .int mb, .int ms, .ref r4, .int my])), (r1, .inl (gJ g, 327680, .inr (.inl tb))), (r2, .inl (gZ g, 6, .inl (fun _ => (0 : Int32)))), (r3, .inl (gI g, 6, .inl gr)), (r4, .inl (gI g, 64, .inl ml))])) s.heap H locs → ∀ ls : Array Slot, lv_has ls 7 [(6, .int (nI i1)), (5, .int left1), (0, .ref md), (1, .int (1 : Int32)), (2, .int who), (3, .int nn), (4, .int ix)] → W p l e ({ frames := 8, cells := 0, slots := 0, locals := 206 } : Room) s m args below meth c H locs 0 0 (MQ below (et_QW g ([(md, .inr (5, [.int th, .int mF, .int mR, .ref r1, .ref r2, .ref r3, .int (zI mt), .int mk, .int mw, .int mm, .int mb, .int ms, .ref r4, .int my])), (r1, .inl (gJ g, 327680, .inr (.inl tb))), (r2, .inl (gZ g, 6, .inl (fun _ => (0 : Int32)))), (r3, .inl (gI g, 6, .inl gr)), (r4, .inl (gI g, 64, .inl ml))]) ([(md, .inr (5, [.int ((mX5_find_1 mF mR tb gr fu_1_1_1 fu_1_3_2 fu_1_5_3 fu_1_7_4 fu_9_5 who nn ix).2.1), .int mF, .int mR, .ref r1, .ref r2, .ref r3, .int (zI mt), .int mk, .int mw, .int mm, .int mb, .int ms, .ref r4, .int my])), (r1, .inl (gJ g, 327680, .inr (.inl ((mX5_find_1 mF mR tb gr fu_1_1_1 fu_1_3_2 fu_1_5_3 fu_1_7_4 fu_9_5 who nn ix).2.2.1)))), (r2, .inl (gZ g, 6, .inl ((mX5_find_1 mF mR tb gr fu_1_1_1 fu_1_3_2 fu_1_5_3 fu_1_7_4 fu_9_5 who nn ix).2.2.2.2))), (r3, .inl (gI g, 6, .inl ((mX5_find_1 mF mR tb gr fu_1_1_1 fu_1_3_2 fu_1_5_3 fu_1_7_4 fu_9_5 who nn ix).2.2.2.1))), (r4, .inl (gI g, 64, .inl ml))]) (some (.int ((mX5_find_1 mF mR tb gr fu_1_1_1 fu_1_3_2 fu_1_5_3 fu_1_7_4 fu_9_5 who nn ix).1)))) args s 0 0 (et_ad ([(md, .inr (5, [.int th, .int mF, .int mR, .ref r1, .ref r2, .ref r3, .int (zI mt), .int mk, .int mw, .int mm, .int mb, .int ms, .ref r4, .int my])), (r1, .inl (gJ g, 327680, .inr (.inl tb))), (r2, .inl (gZ g, 6, .inl (fun _ => (0 : Int32)))), (r3, .inl (gI g, 6, .inl gr)), (r4, .inl (gI g, 64, .inl ml))]))) (F0 m 46 ls []) := by
        intro k1
        induction k1 with
        | zero =>
          intro i1 left1 hik hm H locs hP hD hS ls hl
          refine lv_iload hx hb dX5_find_46 (lv_at hl 0 rfl) ?_
          refine lv_ldc hx hb hown (hts _ w_844) dX5_find_48 ?_
          refine lv_icmp_ge (tgt := 113) hx hb dX5_find_50 (by decide) (fun c_2 => ?_) (fun c_2 => ?_)
          rotate_left
          · exact absurd (et_le (a := 262144) (b := i1) (by omega) (by omega)) c_2
          refine lv_aload_n hx hb dX5_find_113 rfl (lv_at hl 2 rfl) ?_
          refine lv_iconst (v := (2 : Int32)) hx hb dX5_find_114 (by decide) ?_
          refine va_put (D := gD g) (ci := 5) (v := .int (2 : Int32)) (ty := .int) (C := RX5) (T := TX5) (N := 14) hx hb hts inW_X5 tyX5 tyX5_ok nmX5 hown hC.1 hP hD hS 0 rfl rfl 0 (by decide) (hts _ w_733) (fun _ h9 => h9) rfl (by decide +kernel) rfl rfl (Nat.le_of_ble_eq_true rfl) dX5_find_115 (fun H locs hP hD hS => ?_)
          have hP : va_P (gD g) vwCl ([(md, .inr (5, [.int (2 : Int32), .int mF, .int mR, .ref r1, .ref r2, .ref r3, .int (zI mt), .int mk, .int mw, .int mm, .int mb, .int ms, .ref r4, .int my])), (r1, .inl (gJ g, 327680, .inr (.inl ((mX5_build_1 mF mR tb gr fu_1_1_1 fu_1_3_2 fu_1_5_3 fu_1_7_4 fu_9_5).1)))), (r2, .inl (gZ g, 6, .inl (upd (upd (upd (upd (upd (fun _ => (0 : Int32)) (2 : Int32).toNatClampNeg (vp_nar .boolean (1 : Int32))) (3 : Int32).toNatClampNeg (vp_nar .boolean (1 : Int32))) (4 : Int32).toNatClampNeg (vp_nar .boolean (1 : Int32))) (5 : Int32).toNatClampNeg (vp_nar .boolean (1 : Int32))) (1 : Int32).toNatClampNeg (vp_nar .boolean (1 : Int32))))), (r3, .inl (gI g, 6, .inl ((mX5_build_1 mF mR tb gr fu_1_1_1 fu_1_3_2 fu_1_5_3 fu_1_7_4 fu_9_5).2))), (r4, .inl (gI g, 64, .inl ml))]) H := hP
          have hD : va_D (et_ad ([(md, .inr (5, [.int th, .int mF, .int mR, .ref r1, .ref r2, .ref r3, .int (zI mt), .int mk, .int mw, .int mm, .int mb, .int ms, .ref r4, .int my])), (r1, .inl (gJ g, 327680, .inr (.inl tb))), (r2, .inl (gZ g, 6, .inl (fun _ => (0 : Int32)))), (r3, .inl (gI g, 6, .inl gr)), (r4, .inl (gI g, 64, .inl ml))])) ([(md, .inr (5, [.int (2 : Int32), .int mF, .int mR, .ref r1, .ref r2, .ref r3, .int (zI mt), .int mk, .int mw, .int mm, .int mb, .int ms, .ref r4, .int my])), (r1, .inl (gJ g, 327680, .inr (.inl ((mX5_build_1 mF mR tb gr fu_1_1_1 fu_1_3_2 fu_1_5_3 fu_1_7_4 fu_9_5).1)))), (r2, .inl (gZ g, 6, .inl (upd (upd (upd (upd (upd (fun _ => (0 : Int32)) (2 : Int32).toNatClampNeg (vp_nar .boolean (1 : Int32))) (3 : Int32).toNatClampNeg (vp_nar .boolean (1 : Int32))) (4 : Int32).toNatClampNeg (vp_nar .boolean (1 : Int32))) (5 : Int32).toNatClampNeg (vp_nar .boolean (1 : Int32))) (1 : Int32).toNatClampNeg (vp_nar .boolean (1 : Int32))))), (r3, .inl (gI g, 6, .inl ((mX5_build_1 mF mR tb gr fu_1_1_1 fu_1_3_2 fu_1_5_3 fu_1_7_4 fu_9_5).2))), (r4, .inl (gI g, 64, .inl ml))]) := hD
          refine lv_iconst (v := (0 : Int32)) hx hb dX5_find_118 (by decide) ?_
          have hfin : ((0 : Int32), (2 : Int32), (mX5_build_1 mF mR tb gr fu_1_1_1 fu_1_3_2 fu_1_5_3 fu_1_7_4 fu_9_5).1, (mX5_build_1 mF mR tb gr fu_1_1_1 fu_1_3_2 fu_1_5_3 fu_1_7_4 fu_9_5).2, upd (upd (upd (upd (upd (fun _ => (0 : Int32)) (2 : Int32).toNatClampNeg (vp_nar .boolean (1 : Int32))) (3 : Int32).toNatClampNeg (vp_nar .boolean (1 : Int32))) (4 : Int32).toNatClampNeg (vp_nar .boolean (1 : Int32))) (5 : Int32).toNatClampNeg (vp_nar .boolean (1 : Int32))) (1 : Int32).toNatClampNeg (vp_nar .boolean (1 : Int32))) = (mX5_find_1 mF mR tb gr fu_1_1_1 fu_1_3_2 fu_1_5_3 fu_1_7_4 fu_9_5 who nn ix) := (by rw [mX5_find_1_L1] : mX5_find_1_L1 mF mR tb gr fu_1_1_1 fu_1_3_2 fu_1_5_3 fu_1_7_4 fu_9_5 who nn ix 0 i1 left1 = ((0 : Int32), (2 : Int32), (mX5_build_1 mF mR tb gr fu_1_1_1 fu_1_3_2 fu_1_5_3 fu_1_7_4 fu_9_5).1, (mX5_build_1 mF mR tb gr fu_1_1_1 fu_1_3_2 fu_1_5_3 fu_1_7_4 fu_9_5).2, upd (upd (upd (upd (upd (fun _ => (0 : Int32)) (2 : Int32).toNatClampNeg (vp_nar .boolean (1 : Int32))) (3 : Int32).toNatClampNeg (vp_nar .boolean (1 : Int32))) (4 : Int32).toNatClampNeg (vp_nar .boolean (1 : Int32))) (5 : Int32).toNatClampNeg (vp_nar .boolean (1 : Int32))) (1 : Int32).toNatClampNeg (vp_nar .boolean (1 : Int32)))).symm.trans hm
          exact et_iretW hx hb hr hlocks dX5_find_119 hP hS (by rw [← hfin]) ((by rw [← hfin]))
        | succ k1 ih1 =>
          intro i1 left1 hik hm H locs hP hD hS ls hl
          refine lv_iload hx hb dX5_find_46 (lv_at hl 0 rfl) ?_
          refine lv_ldc hx hb hown (hts _ w_844) dX5_find_48 ?_
          refine lv_icmp_ge (tgt := 113) hx hb dX5_find_50 (by decide) (fun c_3 => ?_) (fun c_3 => ?_)
          · exact absurd c_3 (et_ge (a := i1) (b := 262144) (by omega) (by omega))
          refine lv_iload hx hb dX5_find_53 (lv_at hl 6 rfl) ?_
          refine lv_if_lt (tgt := 113) hx hb dX5_find_55 (by decide) (fun c_4 => ?_) (fun c_4 => ?_)
          ·
            refine lv_aload_n hx hb dX5_find_113 rfl (lv_at hl 2 rfl) ?_
            refine lv_iconst (v := (2 : Int32)) hx hb dX5_find_114 (by decide) ?_
            refine va_put (D := gD g) (ci := 5) (v := .int (2 : Int32)) (ty := .int) (C := RX5) (T := TX5) (N := 14) hx hb hts inW_X5 tyX5 tyX5_ok nmX5 hown hC.1 hP hD hS 0 rfl rfl 0 (by decide) (hts _ w_733) (fun _ h9 => h9) rfl (by decide +kernel) rfl rfl (Nat.le_of_ble_eq_true rfl) dX5_find_115 (fun H locs hP hD hS => ?_)
            have hP : va_P (gD g) vwCl ([(md, .inr (5, [.int (2 : Int32), .int mF, .int mR, .ref r1, .ref r2, .ref r3, .int (zI mt), .int mk, .int mw, .int mm, .int mb, .int ms, .ref r4, .int my])), (r1, .inl (gJ g, 327680, .inr (.inl ((mX5_build_1 mF mR tb gr fu_1_1_1 fu_1_3_2 fu_1_5_3 fu_1_7_4 fu_9_5).1)))), (r2, .inl (gZ g, 6, .inl (upd (upd (upd (upd (upd (fun _ => (0 : Int32)) (2 : Int32).toNatClampNeg (vp_nar .boolean (1 : Int32))) (3 : Int32).toNatClampNeg (vp_nar .boolean (1 : Int32))) (4 : Int32).toNatClampNeg (vp_nar .boolean (1 : Int32))) (5 : Int32).toNatClampNeg (vp_nar .boolean (1 : Int32))) (1 : Int32).toNatClampNeg (vp_nar .boolean (1 : Int32))))), (r3, .inl (gI g, 6, .inl ((mX5_build_1 mF mR tb gr fu_1_1_1 fu_1_3_2 fu_1_5_3 fu_1_7_4 fu_9_5).2))), (r4, .inl (gI g, 64, .inl ml))]) H := hP
            have hD : va_D (et_ad ([(md, .inr (5, [.int th, .int mF, .int mR, .ref r1, .ref r2, .ref r3, .int (zI mt), .int mk, .int mw, .int mm, .int mb, .int ms, .ref r4, .int my])), (r1, .inl (gJ g, 327680, .inr (.inl tb))), (r2, .inl (gZ g, 6, .inl (fun _ => (0 : Int32)))), (r3, .inl (gI g, 6, .inl gr)), (r4, .inl (gI g, 64, .inl ml))])) ([(md, .inr (5, [.int (2 : Int32), .int mF, .int mR, .ref r1, .ref r2, .ref r3, .int (zI mt), .int mk, .int mw, .int mm, .int mb, .int ms, .ref r4, .int my])), (r1, .inl (gJ g, 327680, .inr (.inl ((mX5_build_1 mF mR tb gr fu_1_1_1 fu_1_3_2 fu_1_5_3 fu_1_7_4 fu_9_5).1)))), (r2, .inl (gZ g, 6, .inl (upd (upd (upd (upd (upd (fun _ => (0 : Int32)) (2 : Int32).toNatClampNeg (vp_nar .boolean (1 : Int32))) (3 : Int32).toNatClampNeg (vp_nar .boolean (1 : Int32))) (4 : Int32).toNatClampNeg (vp_nar .boolean (1 : Int32))) (5 : Int32).toNatClampNeg (vp_nar .boolean (1 : Int32))) (1 : Int32).toNatClampNeg (vp_nar .boolean (1 : Int32))))), (r3, .inl (gI g, 6, .inl ((mX5_build_1 mF mR tb gr fu_1_1_1 fu_1_3_2 fu_1_5_3 fu_1_7_4 fu_9_5).2))), (r4, .inl (gI g, 64, .inl ml))]) := hD
            refine lv_iconst (v := (0 : Int32)) hx hb dX5_find_118 (by decide) ?_
            have hfin : ((0 : Int32), (2 : Int32), (mX5_build_1 mF mR tb gr fu_1_1_1 fu_1_3_2 fu_1_5_3 fu_1_7_4 fu_9_5).1, (mX5_build_1 mF mR tb gr fu_1_1_1 fu_1_3_2 fu_1_5_3 fu_1_7_4 fu_9_5).2, upd (upd (upd (upd (upd (fun _ => (0 : Int32)) (2 : Int32).toNatClampNeg (vp_nar .boolean (1 : Int32))) (3 : Int32).toNatClampNeg (vp_nar .boolean (1 : Int32))) (4 : Int32).toNatClampNeg (vp_nar .boolean (1 : Int32))) (5 : Int32).toNatClampNeg (vp_nar .boolean (1 : Int32))) (1 : Int32).toNatClampNeg (vp_nar .boolean (1 : Int32))) = (mX5_find_1 mF mR tb gr fu_1_1_1 fu_1_3_2 fu_1_5_3 fu_1_7_4 fu_9_5 who nn ix) := (by rw [mX5_find_1_L1, if_pos c_4] : mX5_find_1_L1 mF mR tb gr fu_1_1_1 fu_1_3_2 fu_1_5_3 fu_1_7_4 fu_9_5 who nn ix (k1 + 1) i1 left1 = ((0 : Int32), (2 : Int32), (mX5_build_1 mF mR tb gr fu_1_1_1 fu_1_3_2 fu_1_5_3 fu_1_7_4 fu_9_5).1, (mX5_build_1 mF mR tb gr fu_1_1_1 fu_1_3_2 fu_1_5_3 fu_1_7_4 fu_9_5).2, upd (upd (upd (upd (upd (fun _ => (0 : Int32)) (2 : Int32).toNatClampNeg (vp_nar .boolean (1 : Int32))) (3 : Int32).toNatClampNeg (vp_nar .boolean (1 : Int32))) (4 : Int32).toNatClampNeg (vp_nar .boolean (1 : Int32))) (5 : Int32).toNatClampNeg (vp_nar .boolean (1 : Int32))) (1 : Int32).toNatClampNeg (vp_nar .boolean (1 : Int32)))).symm.trans hm
            exact et_iretW hx hb hr hlocks dX5_find_119 hP hS (by rw [← hfin]) ((by rw [← hfin]))
          ·
            refine lv_aload_n hx hb dX5_find_58 rfl (lv_at hl 2 rfl) ?_
            refine lv_iload_n hx hb dX5_find_59 rfl (lv_at hl 3 rfl) ?_
            refine lv_iload_n hx hb dX5_find_60 rfl (lv_at hl 4 rfl) ?_
            refine lv_iload_n hx hb dX5_find_61 rfl (lv_at hl 5 rfl) ?_
            refine lv_iload hx hb dX5_find_62 (lv_at hl 0 rfl) ?_
            refine et_callP1 (v := .int (zI (mX5_isOne mF mR ((mX5_build_1 mF mR tb gr fu_1_1_1 fu_1_3_2 fu_1_5_3 fu_1_7_4 fu_9_5).1) (1 : Int32) who nn (nI i1)))) (va_runV (As := [.int (1 : Int32), .int who, .int nn, .int (nI i1)]) (rest := []) ⟨hx, hb, hml, hown, hts⟩ (c_X5_isOne l g md r1 r2 r3 r4 mF mR (mX5_find_1_V1 who) ((mX5_build_1 mF mR tb gr fu_1_1_1 fu_1_3_2 fu_1_5_3 fu_1_7_4 fu_9_5).1) (upd (upd (upd (upd (upd (fun _ => (0 : Int32)) (2 : Int32).toNatClampNeg (vp_nar .boolean (1 : Int32))) (3 : Int32).toNatClampNeg (vp_nar .boolean (1 : Int32))) (4 : Int32).toNatClampNeg (vp_nar .boolean (1 : Int32))) (5 : Int32).toNatClampNeg (vp_nar .boolean (1 : Int32))) (1 : Int32).toNatClampNeg (vp_nar .boolean (1 : Int32))) ((mX5_build_1 mF mR tb gr fu_1_1_1 fu_1_3_2 fu_1_5_3 fu_1_7_4 fu_9_5).2) mt mk mw mm mb ms ml my (1 : Int32) who nn (nI i1) (by assumption) (by assumption) (et_kdl (by decide)) (et_findV_1 (by assumption)) (et_ati (by omega))) (cwV 4 hts (W0_gV w_874 w_876 w_67 w_82 w_877) rfl rfl rfl (by decide +kernel) ⟨Nat.le_of_ble_eq_true rfl, Nat.le_of_ble_eq_true rfl⟩) (et_preV hP hC [0, 1, 2, 3, 4] rfl (ci := 5) (q0 := 0) rfl rfl) rfl rfl hl.1 rfl (lv_room (Nat.le_of_ble_eq_true rfl)) dX5_find_64 ⟨Nat.le_of_ble_eq_true rfl, Nat.le_of_ble_eq_true rfl⟩) ?_
            refine lv_if_eq (tgt := 107) hx hb dX5_find_67 (by decide) (fun c_5 => ?_) (fun c_5 => ?_)
            ·
              refine lv_iinc (v := nI (i1 + 1)) (lv' := [(6, .int (nI (i1 + 1))), (5, .int left1), (0, .ref md), (1, .int (1 : Int32)), (2, .int who), (3, .int nn), (4, .int ix)]) hx hb dX5_find_107 hl (k := 0) rfl (et_inc i1) (by decide) rfl (fun ls hl => ?_)
              refine lv_goto (tgt := 46) hx hb dX5_find_110 (by decide) ?_
              exact ih1 (i1 + 1) left1 (by omega) ((by rw [mX5_find_1_L1, if_neg c_4, if_pos c_5] : mX5_find_1_L1 mF mR tb gr fu_1_1_1 fu_1_3_2 fu_1_5_3 fu_1_7_4 fu_9_5 who nn ix (k1 + 1) i1 left1 = mX5_find_1_L1 mF mR tb gr fu_1_1_1 fu_1_3_2 fu_1_5_3 fu_1_7_4 fu_9_5 who nn ix k1 (i1 + 1) left1).symm.trans hm) _ _ hP hD hS ls (lv_sub hl [0, 1, 2, 3, 4, 5, 6] rfl)
            ·
              refine lv_iload hx hb dX5_find_70 (lv_at hl 1 rfl) ?_
              refine lv_if_ne (tgt := 104) hx hb dX5_find_72 (by decide) (fun c_6 => ?_) (fun c_6 => ?_)
              ·
                refine lv_iinc (v := left1 + (-1 : Int32)) (lv' := [(5, .int (left1 + (-1 : Int32))), (6, .int (nI i1)), (0, .ref md), (1, .int (1 : Int32)), (2, .int who), (3, .int nn), (4, .int ix)]) hx hb dX5_find_104 hl (k := 1) rfl rfl (by decide) rfl (fun ls hl => ?_)
                refine lv_iinc (v := nI (i1 + 1)) (lv' := [(6, .int (nI (i1 + 1))), (5, .int (left1 + (-1 : Int32))), (0, .ref md), (1, .int (1 : Int32)), (2, .int who), (3, .int nn), (4, .int ix)]) hx hb dX5_find_107 hl (k := 1) rfl (et_inc i1) (by decide) rfl (fun ls hl => ?_)
                refine lv_goto (tgt := 46) hx hb dX5_find_110 (by decide) ?_
                exact ih1 (i1 + 1) (left1 + (-1 : Int32)) (by omega) ((by rw [mX5_find_1_L1, if_neg c_4, if_neg c_5, if_neg c_6] : mX5_find_1_L1 mF mR tb gr fu_1_1_1 fu_1_3_2 fu_1_5_3 fu_1_7_4 fu_9_5 who nn ix (k1 + 1) i1 left1 = mX5_find_1_L1 mF mR tb gr fu_1_1_1 fu_1_3_2 fu_1_5_3 fu_1_7_4 fu_9_5 who nn ix k1 (i1 + 1) (left1 + (-1 : Int32))).symm.trans hm) _ _ hP hD hS ls (lv_sub hl [0, 1, 2, 3, 4, 5, 6] rfl)
              ·
                refine lv_iload hx hb dX5_find_75 (lv_at hl 0 rfl) ?_
                refine lv_sipush (v := (4096 : Int32)) hx hb dX5_find_77 (by decide) ?_
                refine lv_idiv hx hb dX5_find_80 (by decide) ?_
                refine lv_bipush (v := (64 : Int32)) hx hb dX5_find_81 (by decide) ?_
                refine lv_iload hx hb dX5_find_83 (lv_at hl 0 rfl) ?_
                refine lv_bipush (v := (64 : Int32)) hx hb dX5_find_85 (by decide) ?_
                refine lv_idiv hx hb dX5_find_87 (by decide) ?_
                refine lv_bipush (v := (64 : Int32)) hx hb dX5_find_88 (by decide) ?_
                refine lv_irem hx hb dX5_find_90 (by decide) ?_
                refine lv_imul hx hb dX5_find_91 ?_
                refine lv_iadd hx hb dX5_find_92 ?_
                refine lv_sipush (v := (4096 : Int32)) hx hb dX5_find_93 (by decide) ?_
                refine lv_iload hx hb dX5_find_96 (lv_at hl 0 rfl) ?_
                refine lv_bipush (v := (64 : Int32)) hx hb dX5_find_98 (by decide) ?_
                refine lv_irem hx hb dX5_find_100 (by decide) ?_
                refine lv_imul hx hb dX5_find_101 ?_
                refine lv_iadd hx hb dX5_find_102 ?_
                have hfin : ((((nI i1) / (4096 : Int32)) + ((64 : Int32) * (((nI i1) / (64 : Int32)) - ((nI i1) / (64 : Int32)) / (64 : Int32) * (64 : Int32)))) + ((4096 : Int32) * ((nI i1) - (nI i1) / (64 : Int32) * (64 : Int32))), (mX5_find_1_V1 who), (mX5_build_1 mF mR tb gr fu_1_1_1 fu_1_3_2 fu_1_5_3 fu_1_7_4 fu_9_5).1, (mX5_build_1 mF mR tb gr fu_1_1_1 fu_1_3_2 fu_1_5_3 fu_1_7_4 fu_9_5).2, upd (upd (upd (upd (upd (fun _ => (0 : Int32)) (2 : Int32).toNatClampNeg (vp_nar .boolean (1 : Int32))) (3 : Int32).toNatClampNeg (vp_nar .boolean (1 : Int32))) (4 : Int32).toNatClampNeg (vp_nar .boolean (1 : Int32))) (5 : Int32).toNatClampNeg (vp_nar .boolean (1 : Int32))) (1 : Int32).toNatClampNeg (vp_nar .boolean (1 : Int32))) = (mX5_find_1 mF mR tb gr fu_1_1_1 fu_1_3_2 fu_1_5_3 fu_1_7_4 fu_9_5 who nn ix) := (by rw [mX5_find_1_L1, if_neg c_4, if_neg c_5, if_pos c_6] : mX5_find_1_L1 mF mR tb gr fu_1_1_1 fu_1_3_2 fu_1_5_3 fu_1_7_4 fu_9_5 who nn ix (k1 + 1) i1 left1 = ((((nI i1) / (4096 : Int32)) + ((64 : Int32) * (((nI i1) / (64 : Int32)) - ((nI i1) / (64 : Int32)) / (64 : Int32) * (64 : Int32)))) + ((4096 : Int32) * ((nI i1) - (nI i1) / (64 : Int32) * (64 : Int32))), (mX5_find_1_V1 who), (mX5_build_1 mF mR tb gr fu_1_1_1 fu_1_3_2 fu_1_5_3 fu_1_7_4 fu_9_5).1, (mX5_build_1 mF mR tb gr fu_1_1_1 fu_1_3_2 fu_1_5_3 fu_1_7_4 fu_9_5).2, upd (upd (upd (upd (upd (fun _ => (0 : Int32)) (2 : Int32).toNatClampNeg (vp_nar .boolean (1 : Int32))) (3 : Int32).toNatClampNeg (vp_nar .boolean (1 : Int32))) (4 : Int32).toNatClampNeg (vp_nar .boolean (1 : Int32))) (5 : Int32).toNatClampNeg (vp_nar .boolean (1 : Int32))) (1 : Int32).toNatClampNeg (vp_nar .boolean (1 : Int32)))).symm.trans hm
                exact et_iretW hx hb hr hlocks dX5_find_103 hP hS (by rw [← hfin]) ((by rw [← hfin]))
      exact hL1 262144 0 ix (by omega) (show mX5_find_1_L1 mF mR tb gr fu_1_1_1 fu_1_3_2 fu_1_5_3 fu_1_7_4 fu_9_5 who nn ix 262144 0 ix = (mX5_find_1 mF mR tb gr fu_1_1_1 fu_1_3_2 fu_1_5_3 fu_1_7_4 fu_9_5 who nn ix) from (by rw [mX5_find_1, if_pos c_1])) _ _ hP hD hS ls (lv_sub hl [0, 1, 2, 3, 4, 5, 6] rfl)
    ·
      refine lv_iconst (v := (0 : Int32)) hx hb dX5_find_32 (by decide) ?_
      have hfin : ((0 : Int32), (mX5_find_1_V1 who), tb, gr, (fun _ => (0 : Int32))) = (mX5_find_1 mF mR tb gr fu_1_1_1 fu_1_3_2 fu_1_5_3 fu_1_7_4 fu_9_5 who nn ix) := (by rw [mX5_find_1, if_neg c_1])
      exact et_iretW hx hb hr hlocks dX5_find_33 hP hS (by rw [← hfin]) ((by rw [← hfin]))
  refine lv_iload_n hx hb dX5_find_1 rfl (lv_at hl 1 rfl) ?_
  refine et_callP1 (v := .int (zI (mX5_isKind (1 : Int32)))) (va_runS (As := [.int (1 : Int32)]) (rest := [.ref md]) ⟨hx, hb, hml, hown, hts⟩ (c_X5_isKind l g (1 : Int32)) (va_cwS 1 hts (W0_gS w_789 w_790 w_82 w_791) rfl rfl rfl (by decide +kernel) ⟨Nat.le_of_ble_eq_true rfl, Nat.le_of_ble_eq_true rfl⟩) (et_preS hP hC [] rfl) rfl rfl hl.1 rfl (lv_room (Nat.le_of_ble_eq_true rfl)) dX5_find_2 ⟨Nat.le_of_ble_eq_true rfl, Nat.le_of_ble_eq_true rfl⟩) ?_
  refine lv_if_eq (tgt := 21) hx hb dX5_find_5 (by decide) (fun c_7 => ?_) (fun c_7 => ?_)
  ·
    refine lv_iconst (v := (1 : Int32)) hx hb dX5_find_21 (by decide) ?_
    have he1 : ((1 : Int32) : Int32) = (mX5_find_1_V1 who) := (by rw [mX5_find_1_V1, if_pos c_7])
    exact et_stki he1 (hj1 ls (lv_sub hl [0, 1, 2, 3, 4] rfl))
  ·
    refine lv_iload_n hx hb dX5_find_8 rfl (lv_at hl 2 rfl) ?_
    refine lv_if_lt (tgt := 21) hx hb dX5_find_9 (by decide) (fun c_8 => ?_) (fun c_8 => ?_)
    ·
      refine lv_iconst (v := (1 : Int32)) hx hb dX5_find_21 (by decide) ?_
      have he2 : ((1 : Int32) : Int32) = (mX5_find_1_V1 who) := (by rw [mX5_find_1_V1, if_neg c_7, if_pos c_8])
      exact et_stki he2 (hj1 ls (lv_sub hl [0, 1, 2, 3, 4] rfl))
    ·
      refine lv_iload_n hx hb dX5_find_12 rfl (lv_at hl 2 rfl) ?_
      refine lv_iconst (v := (2 : Int32)) hx hb dX5_find_13 (by decide) ?_
      refine lv_icmp_ge (tgt := 21) hx hb dX5_find_14 (by decide) (fun c_9 => ?_) (fun c_9 => ?_)
      ·
        refine lv_iconst (v := (1 : Int32)) hx hb dX5_find_21 (by decide) ?_
        have he3 : ((1 : Int32) : Int32) = (mX5_find_1_V1 who) := (by rw [mX5_find_1_V1, if_neg c_7, if_neg c_8, if_pos c_9])
        exact et_stki he3 (hj1 ls (lv_sub hl [0, 1, 2, 3, 4] rfl))
      ·
        refine lv_iconst (v := (0 : Int32)) hx hb dX5_find_17 (by decide) ?_
        refine lv_goto (tgt := 22) hx hb dX5_find_18 (by decide) ?_
        have he4 : ((0 : Int32) : Int32) = (mX5_find_1_V1 who) := (by rw [mX5_find_1_V1, if_neg c_7, if_neg c_8, if_neg c_9])
        exact et_stki he4 (hj1 ls (lv_sub hl [0, 1, 2, 3, 4] rfl))

def mX5_longest_1_V1  : Int32 :=
  if (zI (mX5_isKind (1 : Int32))) = 0 then
    (1 : Int32)
  else
    (0 : Int32)
def mX5_longest_1 (mF : Int32) (mR : Int32) (tb : Nat → Int64) (gr : Nat → Int32) (fu_1_1_1 : Nat) (fu_1_3_2 : Nat) (fu_1_5_3 : Nat) (fu_1_7_4 : Nat) (fu_9_5 : Nat) : Int32 × Int32 × (Nat → Int64) × (Nat → Int32) × (Nat → Int32) :=
  if (mX5_longest_1_V1) ≤ 0 then
    (((mX5_build_1 mF mR tb gr fu_1_1_1 fu_1_3_2 fu_1_5_3 fu_1_7_4 fu_9_5).2) (1 : Int32).toNatClampNeg, (mX5_longest_1_V1), (mX5_build_1 mF mR tb gr fu_1_1_1 fu_1_3_2 fu_1_5_3 fu_1_7_4 fu_9_5).1, (mX5_build_1 mF mR tb gr fu_1_1_1 fu_1_3_2 fu_1_5_3 fu_1_7_4 fu_9_5).2, upd (upd (upd (upd (upd (fun _ => (0 : Int32)) (2 : Int32).toNatClampNeg (vp_nar .boolean (1 : Int32))) (3 : Int32).toNatClampNeg (vp_nar .boolean (1 : Int32))) (4 : Int32).toNatClampNeg (vp_nar .boolean (1 : Int32))) (5 : Int32).toNatClampNeg (vp_nar .boolean (1 : Int32))) (1 : Int32).toNatClampNeg (vp_nar .boolean (1 : Int32)))
  else
    ((0 : Int32), (mX5_longest_1_V1), tb, gr, (fun _ => (0 : Int32)))
set_option maxHeartbeats 4000000 in
set_option maxRecDepth 100000 in
theorem c_X5_longest_1 (l : Launch) (g : et_G) (md : Nat) (r1 : Nat) (r2 : Nat) (r3 : Nat) (r4 : Nat) (mF : Int32) (mR : Int32) (th : Int32) (tb : Nat → Int64) (gr : Nat → Int32) (mt : Bool) (mk : Int32) (mw : Int32) (mm : Int32) (mb : Int32) (ms : Int32) (ml : Nat → Int32) (my : Int32) (fu_1_1_1 : Nat) (fu_1_3_2 : Nat) (fu_1_5_3 : Nat) (fu_1_7_4 : Nat) (fu_9_5 : Nat) (hF : et_b8 mF) (hR : et_b8 mR) (hT_2_2_6 : mX5_passAll_L1_ok mF mR (2 : Int32) (1 : Int32) fu_1_1_1 0 (0 : Int32) (0 : Int32) tb (upd gr (2 : Int32).toNatClampNeg (-1 : Int32)) = true) (hT_2_4_7 : mX5_passAll_L1_ok mF mR (3 : Int32) (1 : Int32) fu_1_3_2 0 (0 : Int32) (0 : Int32) ((mX5_build2_2 mF mR tb gr fu_1_1_1).1) (upd ((mX5_build2_2 mF mR tb gr fu_1_1_1).2) (3 : Int32).toNatClampNeg (-1 : Int32)) = true) (hT_2_6_8 : mX5_passAll_L1_ok mF mR (4 : Int32) (1 : Int32) fu_1_5_3 0 (0 : Int32) (0 : Int32) ((mX5_build2_3 mF mR ((mX5_build2_2 mF mR tb gr fu_1_1_1).1) ((mX5_build2_2 mF mR tb gr fu_1_1_1).2) fu_1_3_2).1) (upd ((mX5_build2_3 mF mR ((mX5_build2_2 mF mR tb gr fu_1_1_1).1) ((mX5_build2_2 mF mR tb gr fu_1_1_1).2) fu_1_3_2).2) (4 : Int32).toNatClampNeg (-1 : Int32)) = true) (hT_2_8_9 : mX5_passAll_L1_ok mF mR (5 : Int32) (1 : Int32) fu_1_7_4 0 (0 : Int32) (0 : Int32) ((mX5_build2_4 mF mR ((mX5_build2_3 mF mR ((mX5_build2_2 mF mR tb gr fu_1_1_1).1) ((mX5_build2_2 mF mR tb gr fu_1_1_1).2) fu_1_3_2).1) ((mX5_build2_3 mF mR ((mX5_build2_2 mF mR tb gr fu_1_1_1).1) ((mX5_build2_2 mF mR tb gr fu_1_1_1).2) fu_1_3_2).2) fu_1_5_3).1) (upd ((mX5_build2_4 mF mR ((mX5_build2_3 mF mR ((mX5_build2_2 mF mR tb gr fu_1_1_1).1) ((mX5_build2_2 mF mR tb gr fu_1_1_1).2) fu_1_3_2).1) ((mX5_build2_3 mF mR ((mX5_build2_2 mF mR tb gr fu_1_1_1).1) ((mX5_build2_2 mF mR tb gr fu_1_1_1).2) fu_1_3_2).2) fu_1_5_3).2) (5 : Int32).toNatClampNeg (-1 : Int32)) = true) (hT_10_10 : mX5_passAll_L1_ok mF mR (1 : Int32) (mX5_build_1_V4 mF mR tb gr fu_1_1_1 fu_1_3_2 fu_1_5_3 fu_1_7_4) fu_9_5 0 (0 : Int32) (0 : Int32) ((mX5_build2_5 mF mR ((mX5_build2_4 mF mR ((mX5_build2_3 mF mR ((mX5_build2_2 mF mR tb gr fu_1_1_1).1) ((mX5_build2_2 mF mR tb gr fu_1_1_1).2) fu_1_3_2).1) ((mX5_build2_3 mF mR ((mX5_build2_2 mF mR tb gr fu_1_1_1).1) ((mX5_build2_2 mF mR tb gr fu_1_1_1).2) fu_1_3_2).2) fu_1_5_3).1) ((mX5_build2_4 mF mR ((mX5_build2_3 mF mR ((mX5_build2_2 mF mR tb gr fu_1_1_1).1) ((mX5_build2_2 mF mR tb gr fu_1_1_1).2) fu_1_3_2).1) ((mX5_build2_3 mF mR ((mX5_build2_2 mF mR tb gr fu_1_1_1).1) ((mX5_build2_2 mF mR tb gr fu_1_1_1).2) fu_1_3_2).2) fu_1_5_3).2) fu_1_7_4).1) (upd ((mX5_build2_5 mF mR ((mX5_build2_4 mF mR ((mX5_build2_3 mF mR ((mX5_build2_2 mF mR tb gr fu_1_1_1).1) ((mX5_build2_2 mF mR tb gr fu_1_1_1).2) fu_1_3_2).1) ((mX5_build2_3 mF mR ((mX5_build2_2 mF mR tb gr fu_1_1_1).1) ((mX5_build2_2 mF mR tb gr fu_1_1_1).2) fu_1_3_2).2) fu_1_5_3).1) ((mX5_build2_4 mF mR ((mX5_build2_3 mF mR ((mX5_build2_2 mF mR tb gr fu_1_1_1).1) ((mX5_build2_2 mF mR tb gr fu_1_1_1).2) fu_1_3_2).1) ((mX5_build2_3 mF mR ((mX5_build2_2 mF mR tb gr fu_1_1_1).1) ((mX5_build2_2 mF mR tb gr fu_1_1_1).2) fu_1_3_2).2) fu_1_5_3).2) fu_1_7_4).2) (1 : Int32).toNatClampNeg (-1 : Int32)) = true) : Met l yX5_longest (Cond.code yX5_longest cX5_longest 2 (some (.int)) :: W0) ({ frames := 8, cells := 0, slots := 0, locals := 206 } : Room) (et_PcW g ([(md, .inr (5, [.int th, .int mF, .int mR, .ref r1, .ref r2, .ref r3, .int (zI mt), .int mk, .int mw, .int mm, .int mb, .int ms, .ref r4, .int my])), (r1, .inl (gJ g, 327680, .inr (.inl tb))), (r2, .inl (gZ g, 6, .inl (fun _ => (0 : Int32)))), (r3, .inl (gI g, 6, .inl gr)), (r4, .inl (gI g, 64, .inl ml))]) [.ref md, .int (1 : Int32)]) (et_QW g ([(md, .inr (5, [.int th, .int mF, .int mR, .ref r1, .ref r2, .ref r3, .int (zI mt), .int mk, .int mw, .int mm, .int mb, .int ms, .ref r4, .int my])), (r1, .inl (gJ g, 327680, .inr (.inl tb))), (r2, .inl (gZ g, 6, .inl (fun _ => (0 : Int32)))), (r3, .inl (gI g, 6, .inl gr)), (r4, .inl (gI g, 64, .inl ml))]) ([(md, .inr (5, [.int ((mX5_longest_1 mF mR tb gr fu_1_1_1 fu_1_3_2 fu_1_5_3 fu_1_7_4 fu_9_5).2.1), .int mF, .int mR, .ref r1, .ref r2, .ref r3, .int (zI mt), .int mk, .int mw, .int mm, .int mb, .int ms, .ref r4, .int my])), (r1, .inl (gJ g, 327680, .inr (.inl ((mX5_longest_1 mF mR tb gr fu_1_1_1 fu_1_3_2 fu_1_5_3 fu_1_7_4 fu_9_5).2.2.1)))), (r2, .inl (gZ g, 6, .inl ((mX5_longest_1 mF mR tb gr fu_1_1_1 fu_1_3_2 fu_1_5_3 fu_1_7_4 fu_9_5).2.2.2.2))), (r3, .inl (gI g, 6, .inl ((mX5_longest_1 mF mR tb gr fu_1_1_1 fu_1_3_2 fu_1_5_3 fu_1_7_4 fu_9_5).2.2.2.1))), (r4, .inl (gI g, 64, .inl ml))]) (some (.int ((mX5_longest_1 mF mR tb gr fu_1_1_1 fu_1_3_2 fu_1_5_3 fu_1_7_4 fu_9_5).1)))) 0 0 (et_ad ([(md, .inr (5, [.int th, .int mF, .int mR, .ref r1, .ref r2, .ref r3, .int (zI mt), .int mk, .int mw, .int mm, .int mb, .int ms, .ref r4, .int my])), (r1, .inl (gJ g, 327680, .inr (.inl tb))), (r2, .inl (gZ g, 6, .inl (fun _ => (0 : Int32)))), (r3, .inl (gI g, 6, .inl gr)), (r4, .inl (gI g, 64, .inl ml))])) := by
  refine et_startW (by decide) rfl (Nat.le_of_ble_eq_true rfl) ?_
  intro p e s m args below meth c hx hb hr hts0 hown hlocks hml hP hC hD hS ls hl
  have hts : ∀ w ∈ W0, w.before args s = true := fun w h => hts0 w (List.mem_cons_of_mem _ h)
  have hown : s.vm.findClass RX5 = some m.cls := hown
  have hl : lv_has ls 2 [(0, .ref md), (1, .int (1 : Int32))] := hl
  refine lv_aload_n hx hb dX5_longest_0 rfl (lv_at hl 0 rfl) ?_
  have hj1 : ∀ ls : Array Slot, lv_has ls 2 [(0, .ref md), (1, .int (1 : Int32))] → W p l e ({ frames := 8, cells := 0, slots := 0, locals := 206 } : Room) s m args below meth c s.heap [] 0 0 (MQ below (et_QW g ([(md, .inr (5, [.int th, .int mF, .int mR, .ref r1, .ref r2, .ref r3, .int (zI mt), .int mk, .int mw, .int mm, .int mb, .int ms, .ref r4, .int my])), (r1, .inl (gJ g, 327680, .inr (.inl tb))), (r2, .inl (gZ g, 6, .inl (fun _ => (0 : Int32)))), (r3, .inl (gI g, 6, .inl gr)), (r4, .inl (gI g, 64, .inl ml))]) ([(md, .inr (5, [.int ((mX5_longest_1 mF mR tb gr fu_1_1_1 fu_1_3_2 fu_1_5_3 fu_1_7_4 fu_9_5).2.1), .int mF, .int mR, .ref r1, .ref r2, .ref r3, .int (zI mt), .int mk, .int mw, .int mm, .int mb, .int ms, .ref r4, .int my])), (r1, .inl (gJ g, 327680, .inr (.inl ((mX5_longest_1 mF mR tb gr fu_1_1_1 fu_1_3_2 fu_1_5_3 fu_1_7_4 fu_9_5).2.2.1)))), (r2, .inl (gZ g, 6, .inl ((mX5_longest_1 mF mR tb gr fu_1_1_1 fu_1_3_2 fu_1_5_3 fu_1_7_4 fu_9_5).2.2.2.2))), (r3, .inl (gI g, 6, .inl ((mX5_longest_1 mF mR tb gr fu_1_1_1 fu_1_3_2 fu_1_5_3 fu_1_7_4 fu_9_5).2.2.2.1))), (r4, .inl (gI g, 64, .inl ml))]) (some (.int ((mX5_longest_1 mF mR tb gr fu_1_1_1 fu_1_3_2 fu_1_5_3 fu_1_7_4 fu_9_5).1)))) args s 0 0 (et_ad ([(md, .inr (5, [.int th, .int mF, .int mR, .ref r1, .ref r2, .ref r3, .int (zI mt), .int mk, .int mw, .int mm, .int mb, .int ms, .ref r4, .int my])), (r1, .inl (gJ g, 327680, .inr (.inl tb))), (r2, .inl (gZ g, 6, .inl (fun _ => (0 : Int32)))), (r3, .inl (gI g, 6, .inl gr)), (r4, .inl (gI g, 64, .inl ml))]))) (F0 m 13 ls [.int (mX5_longest_1_V1), .ref md]) := by
    intro ls hl
    refine va_put (D := gD g) (ci := 5) (v := .int (mX5_longest_1_V1)) (ty := .int) (C := RX5) (T := TX5) (N := 14) hx hb hts inW_X5 tyX5 tyX5_ok nmX5 hown hC.1 hP hD hS 0 rfl rfl 0 (by decide) (hts _ w_733) (fun _ h9 => h9) rfl (by decide +kernel) rfl rfl (Nat.le_of_ble_eq_true rfl) dX5_longest_13 (fun H locs hP hD hS => ?_)
    have hP : va_P (gD g) vwCl ([(md, .inr (5, [.int (mX5_longest_1_V1), .int mF, .int mR, .ref r1, .ref r2, .ref r3, .int (zI mt), .int mk, .int mw, .int mm, .int mb, .int ms, .ref r4, .int my])), (r1, .inl (gJ g, 327680, .inr (.inl tb))), (r2, .inl (gZ g, 6, .inl (fun _ => (0 : Int32)))), (r3, .inl (gI g, 6, .inl gr)), (r4, .inl (gI g, 64, .inl ml))]) H := hP
    have hD : va_D (et_ad ([(md, .inr (5, [.int th, .int mF, .int mR, .ref r1, .ref r2, .ref r3, .int (zI mt), .int mk, .int mw, .int mm, .int mb, .int ms, .ref r4, .int my])), (r1, .inl (gJ g, 327680, .inr (.inl tb))), (r2, .inl (gZ g, 6, .inl (fun _ => (0 : Int32)))), (r3, .inl (gI g, 6, .inl gr)), (r4, .inl (gI g, 64, .inl ml))])) ([(md, .inr (5, [.int (mX5_longest_1_V1), .int mF, .int mR, .ref r1, .ref r2, .ref r3, .int (zI mt), .int mk, .int mw, .int mm, .int mb, .int ms, .ref r4, .int my])), (r1, .inl (gJ g, 327680, .inr (.inl tb))), (r2, .inl (gZ g, 6, .inl (fun _ => (0 : Int32)))), (r3, .inl (gI g, 6, .inl gr)), (r4, .inl (gI g, 64, .inl ml))]) := hD
    refine lv_aload_n hx hb dX5_longest_16 rfl (lv_at hl 0 rfl) ?_
    refine va_get (D := gD g) (ci := 5) (v := .int (mX5_longest_1_V1)) (C := RX5) (T := TX5) (N := 14) hx hb hts inW_X5 hown hC.1 hP 0 rfl rfl 0 (by decide) (hts _ w_733) (fun _ h9 => h9) rfl dX5_longest_17 ?_
    refine lv_if_le (tgt := 25) hx hb dX5_longest_20 (by decide) (fun c_1 => ?_) (fun c_1 => ?_)
    ·
      refine lv_aload_n hx hb dX5_longest_25 rfl (lv_at hl 0 rfl) ?_
      refine lv_iload_n hx hb dX5_longest_26 rfl (lv_at hl 1 rfl) ?_
      refine et_callW0 (ws' := [(md, .inr (5, [.int (mX5_longest_1_V1), .int mF, .int mR, .ref r1, .ref r2, .ref r3, .int (zI mt), .int mk, .int mw, .int mm, .int mb, .int ms, .ref r4, .int my])), (r1, .inl (gJ g, 327680, .inr (.inl ((mX5_build_1 mF mR tb gr fu_1_1_1 fu_1_3_2 fu_1_5_3 fu_1_7_4 fu_9_5).1)))), (r2, .inl (gZ g, 6, .inl (upd (upd (upd (upd (upd (fun _ => (0 : Int32)) (2 : Int32).toNatClampNeg (vp_nar .boolean (1 : Int32))) (3 : Int32).toNatClampNeg (vp_nar .boolean (1 : Int32))) (4 : Int32).toNatClampNeg (vp_nar .boolean (1 : Int32))) (5 : Int32).toNatClampNeg (vp_nar .boolean (1 : Int32))) (1 : Int32).toNatClampNeg (vp_nar .boolean (1 : Int32))))), (r3, .inl (gI g, 6, .inl ((mX5_build_1 mF mR tb gr fu_1_1_1 fu_1_3_2 fu_1_5_3 fu_1_7_4 fu_9_5).2))), (r4, .inl (gI g, 64, .inl ml))]) (va_runV (As := [.int (1 : Int32)]) (rest := []) ⟨hx, hb, hml, hown, hts⟩ (c_X5_build_1 l g md r1 r2 r3 r4 mF mR (mX5_longest_1_V1) tb gr mt mk mw mm mb ms ml my fu_1_1_1 fu_1_3_2 fu_1_5_3 fu_1_7_4 fu_9_5 (by assumption) (by assumption) hT_2_2_6 hT_2_4_7 hT_2_6_8 hT_2_8_9 hT_10_10) (cwV 1 hts (W0_gV w_821 w_823 w_56 w_82 w_824) rfl rfl rfl (by decide +kernel) ⟨Nat.le_of_ble_eq_true rfl, Nat.le_of_ble_eq_true rfl⟩) (et_preVW hP hC hD [0, 1, 2, 3, 4] (by decide) rfl (ci := 5) (q0 := 0) rfl rfl) rfl rfl hl.1 rfl (lv_room (Nat.le_of_ble_eq_true rfl)) dX5_longest_27 ⟨Nat.le_of_ble_eq_true rfl, Nat.le_of_ble_eq_true rfl⟩) hP hD hS [0, 1, 2, 3, 4] [] 5 rfl [md, r1, r2, r3, r4] rfl rfl rfl [] rfl rfl rfl (by decide +kernel) (fun H locs hP hD hS => ?_)
      refine lv_aload_n hx hb dX5_longest_30 rfl (lv_at hl 0 rfl) ?_
      refine va_get (D := gD g) (ci := 5) (v := .ref r3) (C := RX5) (T := TX5) (N := 14) hx hb hts inW_X5 hown hC.1 hP 0 rfl rfl 5 (by decide) (hts _ w_738) (fun _ h9 => h9) rfl dX5_longest_31 ?_
      refine lv_iload_n hx hb dX5_longest_34 rfl (lv_at hl 1 rfl) ?_
      refine va_iald (D := gD g) hx hb hC.1 hP 3 0 rfl rfl (et_kd_in (et_kdl (by decide))) dX5_longest_35 ?_
      have hfin : (((mX5_build_1 mF mR tb gr fu_1_1_1 fu_1_3_2 fu_1_5_3 fu_1_7_4 fu_9_5).2) (1 : Int32).toNatClampNeg, (mX5_longest_1_V1), (mX5_build_1 mF mR tb gr fu_1_1_1 fu_1_3_2 fu_1_5_3 fu_1_7_4 fu_9_5).1, (mX5_build_1 mF mR tb gr fu_1_1_1 fu_1_3_2 fu_1_5_3 fu_1_7_4 fu_9_5).2, upd (upd (upd (upd (upd (fun _ => (0 : Int32)) (2 : Int32).toNatClampNeg (vp_nar .boolean (1 : Int32))) (3 : Int32).toNatClampNeg (vp_nar .boolean (1 : Int32))) (4 : Int32).toNatClampNeg (vp_nar .boolean (1 : Int32))) (5 : Int32).toNatClampNeg (vp_nar .boolean (1 : Int32))) (1 : Int32).toNatClampNeg (vp_nar .boolean (1 : Int32))) = (mX5_longest_1 mF mR tb gr fu_1_1_1 fu_1_3_2 fu_1_5_3 fu_1_7_4 fu_9_5) := (by rw [mX5_longest_1, if_pos c_1])
      exact et_iretW hx hb hr hlocks dX5_longest_36 hP hS (by rw [← hfin]) ((by rw [← hfin]))
    ·
      refine lv_iconst (v := (0 : Int32)) hx hb dX5_longest_23 (by decide) ?_
      have hfin : ((0 : Int32), (mX5_longest_1_V1), tb, gr, (fun _ => (0 : Int32))) = (mX5_longest_1 mF mR tb gr fu_1_1_1 fu_1_3_2 fu_1_5_3 fu_1_7_4 fu_9_5) := (by rw [mX5_longest_1, if_neg c_1])
      exact et_iretW hx hb hr hlocks dX5_longest_24 hP hS (by rw [← hfin]) ((by rw [← hfin]))
  refine lv_iload_n hx hb dX5_longest_1 rfl (lv_at hl 1 rfl) ?_
  refine et_callP1 (v := .int (zI (mX5_isKind (1 : Int32)))) (va_runS (As := [.int (1 : Int32)]) (rest := [.ref md]) ⟨hx, hb, hml, hown, hts⟩ (c_X5_isKind l g (1 : Int32)) (va_cwS 1 hts (W0_gS w_789 w_790 w_82 w_791) rfl rfl rfl (by decide +kernel) ⟨Nat.le_of_ble_eq_true rfl, Nat.le_of_ble_eq_true rfl⟩) (et_preS hP hC [] rfl) rfl rfl hl.1 rfl (lv_room (Nat.le_of_ble_eq_true rfl)) dX5_longest_2 ⟨Nat.le_of_ble_eq_true rfl, Nat.le_of_ble_eq_true rfl⟩) ?_
  refine lv_if_eq (tgt := 12) hx hb dX5_longest_5 (by decide) (fun c_2 => ?_) (fun c_2 => ?_)
  ·
    refine lv_iconst (v := (1 : Int32)) hx hb dX5_longest_12 (by decide) ?_
    have he1 : ((1 : Int32) : Int32) = (mX5_longest_1_V1) := (by rw [mX5_longest_1_V1, if_pos c_2])
    exact et_stki he1 (hj1 ls (lv_sub hl [0, 1] rfl))
  ·
    refine lv_iconst (v := (0 : Int32)) hx hb dX5_longest_8 (by decide) ?_
    refine lv_goto (tgt := 13) hx hb dX5_longest_9 (by decide) ?_
    have he2 : ((0 : Int32) : Int32) = (mX5_longest_1_V1) := (by rw [mX5_longest_1_V1, if_neg c_2])
    exact et_stki he2 (hj1 ls (lv_sub hl [0, 1] rfl))

def mX5_distance_2_V1 (mF : Int32) (mR : Int32) (ww : Int32) (wm : Int32) (wb : Int32) (who : Int32) : Int32 :=
  if (zI (mX5_isKind (2 : Int32))) = 0 then
    (1 : Int32)
  else
    if (zI (mX5_isPosition mF mR (2 : Int32) ww wm wb who)) = 0 then
      (1 : Int32)
    else
      (0 : Int32)
def mX5_distance_2 (mF : Int32) (mR : Int32) (tb : Nat → Int64) (gr : Nat → Int32) (fu_1_1_1 : Nat) (ww : Int32) (wm : Int32) (wb : Int32) (who : Int32) : Int32 × Int32 × (Nat → Int64) × (Nat → Int32) × (Nat → Int32) :=
  if (mX5_distance_2_V1 mF mR ww wm wb who) ≤ 0 then
    ((mX5_distanceOf_2 mF mR tb gr fu_1_1_1 ww wm wb who).1, (mX5_distance_2_V1 mF mR ww wm wb who), (mX5_distanceOf_2 mF mR tb gr fu_1_1_1 ww wm wb who).2.1, (mX5_distanceOf_2 mF mR tb gr fu_1_1_1 ww wm wb who).2.2, upd (fun _ => (0 : Int32)) (2 : Int32).toNatClampNeg (vp_nar .boolean (1 : Int32)))
  else
    ((0 : Int32), (mX5_distance_2_V1 mF mR ww wm wb who), tb, gr, (fun _ => (0 : Int32)))
theorem et_distV_2 {mF mR ww wm wb who : Int32} (h : mX5_distance_2_V1 mF mR ww wm wb who ≤ 0) : et_sd who ∧ et_r64 ww ∧ et_r64 wm ∧ et_r64 wb := by
  refine et_posr (mF := mF) (mR := mR) (kd := (2 : Int32)) (by decide) (fun h1 => ?_)
  unfold mX5_distance_2_V1 at h
  rw [if_neg (show ¬ zI (mX5_isKind (2 : Int32)) = 0 by decide), if_pos h1] at h
  exact absurd h (by decide)
set_option maxHeartbeats 4000000 in
set_option maxRecDepth 100000 in
theorem c_X5_distance_2 (l : Launch) (g : et_G) (md : Nat) (r1 : Nat) (r2 : Nat) (r3 : Nat) (r4 : Nat) (mF : Int32) (mR : Int32) (th : Int32) (tb : Nat → Int64) (gr : Nat → Int32) (mt : Bool) (mk : Int32) (mw : Int32) (mm : Int32) (mb : Int32) (ms : Int32) (ml : Nat → Int32) (my : Int32) (fu_1_1_1 : Nat) (ww : Int32) (wm : Int32) (wb : Int32) (who : Int32) (hF : et_b8 mF) (hR : et_b8 mR) (hT_2_2_2 : mX5_passAll_L1_ok mF mR (2 : Int32) (1 : Int32) fu_1_1_1 0 (0 : Int32) (0 : Int32) tb (upd gr (2 : Int32).toNatClampNeg (-1 : Int32)) = true) : Met l yX5_distance (Cond.code yX5_distance cX5_distance 6 (some (.int)) :: W0) ({ frames := 8, cells := 0, slots := 0, locals := 210 } : Room) (et_PcW g ([(md, .inr (5, [.int th, .int mF, .int mR, .ref r1, .ref r2, .ref r3, .int (zI mt), .int mk, .int mw, .int mm, .int mb, .int ms, .ref r4, .int my])), (r1, .inl (gJ g, 327680, .inr (.inl tb))), (r2, .inl (gZ g, 6, .inl (fun _ => (0 : Int32)))), (r3, .inl (gI g, 6, .inl gr)), (r4, .inl (gI g, 64, .inl ml))]) [.ref md, .int (2 : Int32), .int ww, .int wm, .int wb, .int who]) (et_QW g ([(md, .inr (5, [.int th, .int mF, .int mR, .ref r1, .ref r2, .ref r3, .int (zI mt), .int mk, .int mw, .int mm, .int mb, .int ms, .ref r4, .int my])), (r1, .inl (gJ g, 327680, .inr (.inl tb))), (r2, .inl (gZ g, 6, .inl (fun _ => (0 : Int32)))), (r3, .inl (gI g, 6, .inl gr)), (r4, .inl (gI g, 64, .inl ml))]) ([(md, .inr (5, [.int ((mX5_distance_2 mF mR tb gr fu_1_1_1 ww wm wb who).2.1), .int mF, .int mR, .ref r1, .ref r2, .ref r3, .int (zI mt), .int mk, .int mw, .int mm, .int mb, .int ms, .ref r4, .int my])), (r1, .inl (gJ g, 327680, .inr (.inl ((mX5_distance_2 mF mR tb gr fu_1_1_1 ww wm wb who).2.2.1)))), (r2, .inl (gZ g, 6, .inl ((mX5_distance_2 mF mR tb gr fu_1_1_1 ww wm wb who).2.2.2.2))), (r3, .inl (gI g, 6, .inl ((mX5_distance_2 mF mR tb gr fu_1_1_1 ww wm wb who).2.2.2.1))), (r4, .inl (gI g, 64, .inl ml))]) (some (.int ((mX5_distance_2 mF mR tb gr fu_1_1_1 ww wm wb who).1)))) 0 0 (et_ad ([(md, .inr (5, [.int th, .int mF, .int mR, .ref r1, .ref r2, .ref r3, .int (zI mt), .int mk, .int mw, .int mm, .int mb, .int ms, .ref r4, .int my])), (r1, .inl (gJ g, 327680, .inr (.inl tb))), (r2, .inl (gZ g, 6, .inl (fun _ => (0 : Int32)))), (r3, .inl (gI g, 6, .inl gr)), (r4, .inl (gI g, 64, .inl ml))])) := by
  refine et_startW (by decide) rfl (Nat.le_of_ble_eq_true rfl) ?_
  intro p e s m args below meth c hx hb hr hts0 hown hlocks hml hP hC hD hS ls hl
  have hts : ∀ w ∈ W0, w.before args s = true := fun w h => hts0 w (List.mem_cons_of_mem _ h)
  have hown : s.vm.findClass RX5 = some m.cls := hown
  have hl : lv_has ls 6 [(0, .ref md), (1, .int (2 : Int32)), (2, .int ww), (3, .int wm), (4, .int wb), (5, .int who)] := hl
  refine lv_aload_n hx hb dX5_distance_0 rfl (lv_at hl 0 rfl) ?_
  have hj1 : ∀ ls : Array Slot, lv_has ls 6 [(0, .ref md), (1, .int (2 : Int32)), (2, .int ww), (3, .int wm), (4, .int wb), (5, .int who)] → W p l e ({ frames := 8, cells := 0, slots := 0, locals := 210 } : Room) s m args below meth c s.heap [] 0 0 (MQ below (et_QW g ([(md, .inr (5, [.int th, .int mF, .int mR, .ref r1, .ref r2, .ref r3, .int (zI mt), .int mk, .int mw, .int mm, .int mb, .int ms, .ref r4, .int my])), (r1, .inl (gJ g, 327680, .inr (.inl tb))), (r2, .inl (gZ g, 6, .inl (fun _ => (0 : Int32)))), (r3, .inl (gI g, 6, .inl gr)), (r4, .inl (gI g, 64, .inl ml))]) ([(md, .inr (5, [.int ((mX5_distance_2 mF mR tb gr fu_1_1_1 ww wm wb who).2.1), .int mF, .int mR, .ref r1, .ref r2, .ref r3, .int (zI mt), .int mk, .int mw, .int mm, .int mb, .int ms, .ref r4, .int my])), (r1, .inl (gJ g, 327680, .inr (.inl ((mX5_distance_2 mF mR tb gr fu_1_1_1 ww wm wb who).2.2.1)))), (r2, .inl (gZ g, 6, .inl ((mX5_distance_2 mF mR tb gr fu_1_1_1 ww wm wb who).2.2.2.2))), (r3, .inl (gI g, 6, .inl ((mX5_distance_2 mF mR tb gr fu_1_1_1 ww wm wb who).2.2.2.1))), (r4, .inl (gI g, 64, .inl ml))]) (some (.int ((mX5_distance_2 mF mR tb gr fu_1_1_1 ww wm wb who).1)))) args s 0 0 (et_ad ([(md, .inr (5, [.int th, .int mF, .int mR, .ref r1, .ref r2, .ref r3, .int (zI mt), .int mk, .int mw, .int mm, .int mb, .int ms, .ref r4, .int my])), (r1, .inl (gJ g, 327680, .inr (.inl tb))), (r2, .inl (gZ g, 6, .inl (fun _ => (0 : Int32)))), (r3, .inl (gI g, 6, .inl gr)), (r4, .inl (gI g, 64, .inl ml))]))) (F0 m 27 ls [.int (mX5_distance_2_V1 mF mR ww wm wb who), .ref md]) := by
    intro ls hl
    refine va_put (D := gD g) (ci := 5) (v := .int (mX5_distance_2_V1 mF mR ww wm wb who)) (ty := .int) (C := RX5) (T := TX5) (N := 14) hx hb hts inW_X5 tyX5 tyX5_ok nmX5 hown hC.1 hP hD hS 0 rfl rfl 0 (by decide) (hts _ w_733) (fun _ h9 => h9) rfl (by decide +kernel) rfl rfl (Nat.le_of_ble_eq_true rfl) dX5_distance_27 (fun H locs hP hD hS => ?_)
    have hP : va_P (gD g) vwCl ([(md, .inr (5, [.int (mX5_distance_2_V1 mF mR ww wm wb who), .int mF, .int mR, .ref r1, .ref r2, .ref r3, .int (zI mt), .int mk, .int mw, .int mm, .int mb, .int ms, .ref r4, .int my])), (r1, .inl (gJ g, 327680, .inr (.inl tb))), (r2, .inl (gZ g, 6, .inl (fun _ => (0 : Int32)))), (r3, .inl (gI g, 6, .inl gr)), (r4, .inl (gI g, 64, .inl ml))]) H := hP
    have hD : va_D (et_ad ([(md, .inr (5, [.int th, .int mF, .int mR, .ref r1, .ref r2, .ref r3, .int (zI mt), .int mk, .int mw, .int mm, .int mb, .int ms, .ref r4, .int my])), (r1, .inl (gJ g, 327680, .inr (.inl tb))), (r2, .inl (gZ g, 6, .inl (fun _ => (0 : Int32)))), (r3, .inl (gI g, 6, .inl gr)), (r4, .inl (gI g, 64, .inl ml))])) ([(md, .inr (5, [.int (mX5_distance_2_V1 mF mR ww wm wb who), .int mF, .int mR, .ref r1, .ref r2, .ref r3, .int (zI mt), .int mk, .int mw, .int mm, .int mb, .int ms, .ref r4, .int my])), (r1, .inl (gJ g, 327680, .inr (.inl tb))), (r2, .inl (gZ g, 6, .inl (fun _ => (0 : Int32)))), (r3, .inl (gI g, 6, .inl gr)), (r4, .inl (gI g, 64, .inl ml))]) := hD
    refine lv_aload_n hx hb dX5_distance_30 rfl (lv_at hl 0 rfl) ?_
    refine va_get (D := gD g) (ci := 5) (v := .int (mX5_distance_2_V1 mF mR ww wm wb who)) (C := RX5) (T := TX5) (N := 14) hx hb hts inW_X5 hown hC.1 hP 0 rfl rfl 0 (by decide) (hts _ w_733) (fun _ h9 => h9) rfl dX5_distance_31 ?_
    refine lv_if_le (tgt := 41) hx hb dX5_distance_34 (by decide) (fun c_1 => ?_) (fun c_1 => ?_)
    ·
      refine lv_aload_n hx hb dX5_distance_41 rfl (lv_at hl 0 rfl) ?_
      refine lv_iload_n hx hb dX5_distance_42 rfl (lv_at hl 1 rfl) ?_
      refine lv_iload_n hx hb dX5_distance_43 rfl (lv_at hl 2 rfl) ?_
      refine lv_iload_n hx hb dX5_distance_44 rfl (lv_at hl 3 rfl) ?_
      refine lv_iload hx hb dX5_distance_45 (lv_at hl 4 rfl) ?_
      refine lv_iload hx hb dX5_distance_47 (lv_at hl 5 rfl) ?_
      refine et_callW1 (v := .int ((mX5_distanceOf_2 mF mR tb gr fu_1_1_1 ww wm wb who).1)) (ws' := [(md, .inr (5, [.int (mX5_distance_2_V1 mF mR ww wm wb who), .int mF, .int mR, .ref r1, .ref r2, .ref r3, .int (zI mt), .int mk, .int mw, .int mm, .int mb, .int ms, .ref r4, .int my])), (r1, .inl (gJ g, 327680, .inr (.inl ((mX5_distanceOf_2 mF mR tb gr fu_1_1_1 ww wm wb who).2.1)))), (r2, .inl (gZ g, 6, .inl (upd (fun _ => (0 : Int32)) (2 : Int32).toNatClampNeg (vp_nar .boolean (1 : Int32))))), (r3, .inl (gI g, 6, .inl ((mX5_distanceOf_2 mF mR tb gr fu_1_1_1 ww wm wb who).2.2))), (r4, .inl (gI g, 64, .inl ml))]) (va_runV (As := [.int (2 : Int32), .int ww, .int wm, .int wb, .int who]) (rest := []) ⟨hx, hb, hml, hown, hts⟩ (c_X5_distanceOf_2 l g md r1 r2 r3 r4 mF mR (mX5_distance_2_V1 mF mR ww wm wb who) tb gr mt mk mw mm mb ms ml my fu_1_1_1 ww wm wb who (by assumption) (by assumption) (et_distV_2 (by assumption)).1 (et_distV_2 (by assumption)).2.1 (et_distV_2 (by assumption)).2.2.1 (et_distV_2 (by assumption)).2.2.2 hT_2_2_2) (cwV 5 hts (W0_gV w_817 w_819 w_55 w_82 w_820) rfl rfl rfl (by decide +kernel) ⟨Nat.le_of_ble_eq_true rfl, Nat.le_of_ble_eq_true rfl⟩) (et_preVW hP hC hD [0, 1, 2, 3, 4] (by decide) rfl (ci := 5) (q0 := 0) rfl rfl) rfl rfl hl.1 rfl (lv_room (Nat.le_of_ble_eq_true rfl)) dX5_distance_49 ⟨Nat.le_of_ble_eq_true rfl, Nat.le_of_ble_eq_true rfl⟩) hP hD hS [0, 1, 2, 3, 4] [] 5 rfl [md, r1, r2, r3, r4] rfl rfl rfl [] rfl rfl rfl (by decide +kernel) (fun H locs hP hD hS => ?_)
      have hfin : ((mX5_distanceOf_2 mF mR tb gr fu_1_1_1 ww wm wb who).1, (mX5_distance_2_V1 mF mR ww wm wb who), (mX5_distanceOf_2 mF mR tb gr fu_1_1_1 ww wm wb who).2.1, (mX5_distanceOf_2 mF mR tb gr fu_1_1_1 ww wm wb who).2.2, upd (fun _ => (0 : Int32)) (2 : Int32).toNatClampNeg (vp_nar .boolean (1 : Int32))) = (mX5_distance_2 mF mR tb gr fu_1_1_1 ww wm wb who) := (by rw [mX5_distance_2, if_pos c_1])
      exact et_iretW hx hb hr hlocks dX5_distance_52 hP hS (by rw [← hfin]) ((by rw [← hfin]))
    ·
      refine lv_iconst (v := (0 : Int32)) hx hb dX5_distance_37 (by decide) ?_
      refine lv_goto (tgt := 52) hx hb dX5_distance_38 (by decide) ?_
      have hfin : ((0 : Int32), (mX5_distance_2_V1 mF mR ww wm wb who), tb, gr, (fun _ => (0 : Int32))) = (mX5_distance_2 mF mR tb gr fu_1_1_1 ww wm wb who) := (by rw [mX5_distance_2, if_neg c_1])
      exact et_iretW hx hb hr hlocks dX5_distance_52 hP hS (by rw [← hfin]) ((by rw [← hfin]))
  refine lv_iload_n hx hb dX5_distance_1 rfl (lv_at hl 1 rfl) ?_
  refine et_callP1 (v := .int (zI (mX5_isKind (2 : Int32)))) (va_runS (As := [.int (2 : Int32)]) (rest := [.ref md]) ⟨hx, hb, hml, hown, hts⟩ (c_X5_isKind l g (2 : Int32)) (va_cwS 1 hts (W0_gS w_789 w_790 w_82 w_791) rfl rfl rfl (by decide +kernel) ⟨Nat.le_of_ble_eq_true rfl, Nat.le_of_ble_eq_true rfl⟩) (et_preS hP hC [] rfl) rfl rfl hl.1 rfl (lv_room (Nat.le_of_ble_eq_true rfl)) dX5_distance_2 ⟨Nat.le_of_ble_eq_true rfl, Nat.le_of_ble_eq_true rfl⟩) ?_
  refine lv_if_eq (tgt := 26) hx hb dX5_distance_5 (by decide) (fun c_2 => ?_) (fun c_2 => ?_)
  ·
    refine lv_iconst (v := (1 : Int32)) hx hb dX5_distance_26 (by decide) ?_
    have he1 : ((1 : Int32) : Int32) = (mX5_distance_2_V1 mF mR ww wm wb who) := (by rw [mX5_distance_2_V1, if_pos c_2])
    exact et_stki he1 (hj1 ls (lv_sub hl [0, 1, 2, 3, 4, 5] rfl))
  ·
    refine lv_aload_n hx hb dX5_distance_8 rfl (lv_at hl 0 rfl) ?_
    refine lv_iload_n hx hb dX5_distance_9 rfl (lv_at hl 1 rfl) ?_
    refine lv_iload_n hx hb dX5_distance_10 rfl (lv_at hl 2 rfl) ?_
    refine lv_iload_n hx hb dX5_distance_11 rfl (lv_at hl 3 rfl) ?_
    refine lv_iload hx hb dX5_distance_12 (lv_at hl 4 rfl) ?_
    refine lv_iload hx hb dX5_distance_14 (lv_at hl 5 rfl) ?_
    refine et_callP1 (v := .int (zI (mX5_isPosition mF mR (2 : Int32) ww wm wb who))) (va_runV (As := [.int (2 : Int32), .int ww, .int wm, .int wb, .int who]) (rest := [.ref md]) ⟨hx, hb, hml, hown, hts⟩ (c_X5_isPosition l g md r1 r2 r3 r4 mF mR th tb (fun _ => (0 : Int32)) gr mt mk mw mm mb ms ml my (2 : Int32) ww wm wb who (by assumption) (by assumption)) (cwV 5 hts (W0_gV w_792 w_794 w_51 w_82 w_795) rfl rfl rfl (by decide +kernel) ⟨Nat.le_of_ble_eq_true rfl, Nat.le_of_ble_eq_true rfl⟩) (et_preV hP hC [0, 1, 2, 3, 4] rfl (ci := 5) (q0 := 0) rfl rfl) rfl rfl hl.1 rfl (lv_room (Nat.le_of_ble_eq_true rfl)) dX5_distance_16 ⟨Nat.le_of_ble_eq_true rfl, Nat.le_of_ble_eq_true rfl⟩) ?_
    refine lv_if_eq (tgt := 26) hx hb dX5_distance_19 (by decide) (fun c_3 => ?_) (fun c_3 => ?_)
    ·
      refine lv_iconst (v := (1 : Int32)) hx hb dX5_distance_26 (by decide) ?_
      have he2 : ((1 : Int32) : Int32) = (mX5_distance_2_V1 mF mR ww wm wb who) := (by rw [mX5_distance_2_V1, if_neg c_2, if_pos c_3])
      exact et_stki he2 (hj1 ls (lv_sub hl [0, 1, 2, 3, 4, 5] rfl))
    ·
      refine lv_iconst (v := (0 : Int32)) hx hb dX5_distance_22 (by decide) ?_
      refine lv_goto (tgt := 27) hx hb dX5_distance_23 (by decide) ?_
      have he3 : ((0 : Int32) : Int32) = (mX5_distance_2_V1 mF mR ww wm wb who) := (by rw [mX5_distance_2_V1, if_neg c_2, if_neg c_3])
      exact et_stki he3 (hj1 ls (lv_sub hl [0, 1, 2, 3, 4, 5] rfl))

def mX5_count_2_V2 (mF : Int32) (mR : Int32) (tb : Nat → Int64) (gr : Nat → Int32) (fu_1_1 : Nat) (who : Int32) (nn : Int32) (i1 : Nat) (sum1 : Int32) : Int32 :=
  if (zI (mX5_isOne mF mR ((mX5_build_2 mF mR tb gr fu_1_1).1) (2 : Int32) who nn (nI i1))) = 0 then
    sum1
  else
    sum1 + (1 : Int32)
def mX5_count_2_L1 (mF : Int32) (mR : Int32) (tb : Nat → Int64) (gr : Nat → Int32) (fu_1_1 : Nat) (who : Int32) (nn : Int32) : Nat → Nat → Int32 → Int32
  | 0, i1, sum1 =>
    sum1
  | k1 + 1, i1, sum1 =>
    mX5_count_2_L1 mF mR tb gr fu_1_1 who nn k1 (i1 + 1) (mX5_count_2_V2 mF mR tb gr fu_1_1 who nn i1 sum1)
def mX5_count_2_V1 (who : Int32) : Int32 :=
  if (zI (mX5_isKind (2 : Int32))) = 0 then
    (1 : Int32)
  else
    if who < 0 then
      (1 : Int32)
    else
      if (2 : Int32) ≤ who then
        (1 : Int32)
      else
        (0 : Int32)
def mX5_count_2 (mF : Int32) (mR : Int32) (tb : Nat → Int64) (gr : Nat → Int32) (fu_1_1 : Nat) (who : Int32) (nn : Int32) : Int32 × Int32 × (Nat → Int64) × (Nat → Int32) × (Nat → Int32) :=
  if (mX5_count_2_V1 who) ≤ 0 then
    ((mX5_count_2_L1 mF mR tb gr fu_1_1 who nn 262144 0 (0 : Int32)), (mX5_count_2_V1 who), (mX5_build_2 mF mR tb gr fu_1_1).1, (mX5_build_2 mF mR tb gr fu_1_1).2, upd (fun _ => (0 : Int32)) (2 : Int32).toNatClampNeg (vp_nar .boolean (1 : Int32)))
  else
    ((0 : Int32), (mX5_count_2_V1 who), tb, gr, (fun _ => (0 : Int32)))
theorem et_cntV_2 {who : Int32} (h : mX5_count_2_V1 who ≤ 0) : et_sd who := by
  unfold mX5_count_2_V1 at h
  rw [if_neg (show ¬ zI (mX5_isKind (2 : Int32)) = 0 by decide)] at h
  rcases pk_ix who (n := 2) (by omega) with h1 | h1 | ⟨j, hj, rfl⟩
  · rw [if_pos h1] at h
    exact absurd h (by decide)
  · rw [if_neg (show ¬ who < 0 from fun h2 => absurd (Int32.le_trans h1 (Int32.le_of_lt h2)) (by decide)), if_pos (show (2 : Int32) ≤ who from h1)] at h
    exact absurd h (by decide)
  · rcases (show j = 0 ∨ j = 1 by omega) with rfl | rfl
    · exact Or.inl rfl
    · exact Or.inr rfl
set_option maxHeartbeats 4000000 in
set_option maxRecDepth 100000 in
theorem c_X5_count_2 (l : Launch) (g : et_G) (md : Nat) (r1 : Nat) (r2 : Nat) (r3 : Nat) (r4 : Nat) (mF : Int32) (mR : Int32) (th : Int32) (tb : Nat → Int64) (gr : Nat → Int32) (mt : Bool) (mk : Int32) (mw : Int32) (mm : Int32) (mb : Int32) (ms : Int32) (ml : Nat → Int32) (my : Int32) (fu_1_1 : Nat) (who : Int32) (nn : Int32) (hF : et_b8 mF) (hR : et_b8 mR) (hT_2_2 : mX5_passAll_L1_ok mF mR (2 : Int32) (1 : Int32) fu_1_1 0 (0 : Int32) (0 : Int32) tb (upd gr (2 : Int32).toNatClampNeg (-1 : Int32)) = true) : Met l yX5_count (Cond.code yX5_count cX5_count 6 (some (.int)) :: W0) ({ frames := 7, cells := 0, slots := 0, locals := 185 } : Room) (et_PcW g ([(md, .inr (5, [.int th, .int mF, .int mR, .ref r1, .ref r2, .ref r3, .int (zI mt), .int mk, .int mw, .int mm, .int mb, .int ms, .ref r4, .int my])), (r1, .inl (gJ g, 327680, .inr (.inl tb))), (r2, .inl (gZ g, 6, .inl (fun _ => (0 : Int32)))), (r3, .inl (gI g, 6, .inl gr)), (r4, .inl (gI g, 64, .inl ml))]) [.ref md, .int (2 : Int32), .int who, .int nn]) (et_QW g ([(md, .inr (5, [.int th, .int mF, .int mR, .ref r1, .ref r2, .ref r3, .int (zI mt), .int mk, .int mw, .int mm, .int mb, .int ms, .ref r4, .int my])), (r1, .inl (gJ g, 327680, .inr (.inl tb))), (r2, .inl (gZ g, 6, .inl (fun _ => (0 : Int32)))), (r3, .inl (gI g, 6, .inl gr)), (r4, .inl (gI g, 64, .inl ml))]) ([(md, .inr (5, [.int ((mX5_count_2 mF mR tb gr fu_1_1 who nn).2.1), .int mF, .int mR, .ref r1, .ref r2, .ref r3, .int (zI mt), .int mk, .int mw, .int mm, .int mb, .int ms, .ref r4, .int my])), (r1, .inl (gJ g, 327680, .inr (.inl ((mX5_count_2 mF mR tb gr fu_1_1 who nn).2.2.1)))), (r2, .inl (gZ g, 6, .inl ((mX5_count_2 mF mR tb gr fu_1_1 who nn).2.2.2.2))), (r3, .inl (gI g, 6, .inl ((mX5_count_2 mF mR tb gr fu_1_1 who nn).2.2.2.1))), (r4, .inl (gI g, 64, .inl ml))]) (some (.int ((mX5_count_2 mF mR tb gr fu_1_1 who nn).1)))) 0 0 (et_ad ([(md, .inr (5, [.int th, .int mF, .int mR, .ref r1, .ref r2, .ref r3, .int (zI mt), .int mk, .int mw, .int mm, .int mb, .int ms, .ref r4, .int my])), (r1, .inl (gJ g, 327680, .inr (.inl tb))), (r2, .inl (gZ g, 6, .inl (fun _ => (0 : Int32)))), (r3, .inl (gI g, 6, .inl gr)), (r4, .inl (gI g, 64, .inl ml))])) := by
  refine et_startW (by decide) rfl (Nat.le_of_ble_eq_true rfl) ?_
  intro p e s m args below meth c hx hb hr hts0 hown hlocks hml hP hC hD hS ls hl
  have hts : ∀ w ∈ W0, w.before args s = true := fun w h => hts0 w (List.mem_cons_of_mem _ h)
  have hown : s.vm.findClass RX5 = some m.cls := hown
  have hl : lv_has ls 6 [(0, .ref md), (1, .int (2 : Int32)), (2, .int who), (3, .int nn)] := hl
  refine lv_aload_n hx hb dX5_count_0 rfl (lv_at hl 0 rfl) ?_
  have hj1 : ∀ ls : Array Slot, lv_has ls 6 [(0, .ref md), (1, .int (2 : Int32)), (2, .int who), (3, .int nn)] → W p l e ({ frames := 7, cells := 0, slots := 0, locals := 185 } : Room) s m args below meth c s.heap [] 0 0 (MQ below (et_QW g ([(md, .inr (5, [.int th, .int mF, .int mR, .ref r1, .ref r2, .ref r3, .int (zI mt), .int mk, .int mw, .int mm, .int mb, .int ms, .ref r4, .int my])), (r1, .inl (gJ g, 327680, .inr (.inl tb))), (r2, .inl (gZ g, 6, .inl (fun _ => (0 : Int32)))), (r3, .inl (gI g, 6, .inl gr)), (r4, .inl (gI g, 64, .inl ml))]) ([(md, .inr (5, [.int ((mX5_count_2 mF mR tb gr fu_1_1 who nn).2.1), .int mF, .int mR, .ref r1, .ref r2, .ref r3, .int (zI mt), .int mk, .int mw, .int mm, .int mb, .int ms, .ref r4, .int my])), (r1, .inl (gJ g, 327680, .inr (.inl ((mX5_count_2 mF mR tb gr fu_1_1 who nn).2.2.1)))), (r2, .inl (gZ g, 6, .inl ((mX5_count_2 mF mR tb gr fu_1_1 who nn).2.2.2.2))), (r3, .inl (gI g, 6, .inl ((mX5_count_2 mF mR tb gr fu_1_1 who nn).2.2.2.1))), (r4, .inl (gI g, 64, .inl ml))]) (some (.int ((mX5_count_2 mF mR tb gr fu_1_1 who nn).1)))) args s 0 0 (et_ad ([(md, .inr (5, [.int th, .int mF, .int mR, .ref r1, .ref r2, .ref r3, .int (zI mt), .int mk, .int mw, .int mm, .int mb, .int ms, .ref r4, .int my])), (r1, .inl (gJ g, 327680, .inr (.inl tb))), (r2, .inl (gZ g, 6, .inl (fun _ => (0 : Int32)))), (r3, .inl (gI g, 6, .inl gr)), (r4, .inl (gI g, 64, .inl ml))]))) (F0 m 22 ls [.int (mX5_count_2_V1 who), .ref md]) := by
    intro ls hl
    refine va_put (D := gD g) (ci := 5) (v := .int (mX5_count_2_V1 who)) (ty := .int) (C := RX5) (T := TX5) (N := 14) hx hb hts inW_X5 tyX5 tyX5_ok nmX5 hown hC.1 hP hD hS 0 rfl rfl 0 (by decide) (hts _ w_733) (fun _ h9 => h9) rfl (by decide +kernel) rfl rfl (Nat.le_of_ble_eq_true rfl) dX5_count_22 (fun H locs hP hD hS => ?_)
    have hP : va_P (gD g) vwCl ([(md, .inr (5, [.int (mX5_count_2_V1 who), .int mF, .int mR, .ref r1, .ref r2, .ref r3, .int (zI mt), .int mk, .int mw, .int mm, .int mb, .int ms, .ref r4, .int my])), (r1, .inl (gJ g, 327680, .inr (.inl tb))), (r2, .inl (gZ g, 6, .inl (fun _ => (0 : Int32)))), (r3, .inl (gI g, 6, .inl gr)), (r4, .inl (gI g, 64, .inl ml))]) H := hP
    have hD : va_D (et_ad ([(md, .inr (5, [.int th, .int mF, .int mR, .ref r1, .ref r2, .ref r3, .int (zI mt), .int mk, .int mw, .int mm, .int mb, .int ms, .ref r4, .int my])), (r1, .inl (gJ g, 327680, .inr (.inl tb))), (r2, .inl (gZ g, 6, .inl (fun _ => (0 : Int32)))), (r3, .inl (gI g, 6, .inl gr)), (r4, .inl (gI g, 64, .inl ml))])) ([(md, .inr (5, [.int (mX5_count_2_V1 who), .int mF, .int mR, .ref r1, .ref r2, .ref r3, .int (zI mt), .int mk, .int mw, .int mm, .int mb, .int ms, .ref r4, .int my])), (r1, .inl (gJ g, 327680, .inr (.inl tb))), (r2, .inl (gZ g, 6, .inl (fun _ => (0 : Int32)))), (r3, .inl (gI g, 6, .inl gr)), (r4, .inl (gI g, 64, .inl ml))]) := hD
    refine lv_aload_n hx hb dX5_count_25 rfl (lv_at hl 0 rfl) ?_
    refine va_get (D := gD g) (ci := 5) (v := .int (mX5_count_2_V1 who)) (C := RX5) (T := TX5) (N := 14) hx hb hts inW_X5 hown hC.1 hP 0 rfl rfl 0 (by decide) (hts _ w_733) (fun _ h9 => h9) rfl dX5_count_26 ?_
    refine lv_if_le (tgt := 34) hx hb dX5_count_29 (by decide) (fun c_1 => ?_) (fun c_1 => ?_)
    ·
      refine lv_aload_n hx hb dX5_count_34 rfl (lv_at hl 0 rfl) ?_
      refine lv_iload_n hx hb dX5_count_35 rfl (lv_at hl 1 rfl) ?_
      refine et_callW0 (ws' := [(md, .inr (5, [.int (mX5_count_2_V1 who), .int mF, .int mR, .ref r1, .ref r2, .ref r3, .int (zI mt), .int mk, .int mw, .int mm, .int mb, .int ms, .ref r4, .int my])), (r1, .inl (gJ g, 327680, .inr (.inl ((mX5_build_2 mF mR tb gr fu_1_1).1)))), (r2, .inl (gZ g, 6, .inl (upd (fun _ => (0 : Int32)) (2 : Int32).toNatClampNeg (vp_nar .boolean (1 : Int32))))), (r3, .inl (gI g, 6, .inl ((mX5_build_2 mF mR tb gr fu_1_1).2))), (r4, .inl (gI g, 64, .inl ml))]) (va_runV (As := [.int (2 : Int32)]) (rest := []) ⟨hx, hb, hml, hown, hts⟩ (c_X5_build_2 l g md r1 r2 r3 r4 mF mR (mX5_count_2_V1 who) tb gr mt mk mw mm mb ms ml my fu_1_1 (by assumption) (by assumption) hT_2_2) (cwV 1 hts (W0_gV w_821 w_823 w_56 w_82 w_824) rfl rfl rfl (by decide +kernel) ⟨Nat.le_of_ble_eq_true rfl, Nat.le_of_ble_eq_true rfl⟩) (et_preVW hP hC hD [0, 1, 2, 3, 4] (by decide) rfl (ci := 5) (q0 := 0) rfl rfl) rfl rfl hl.1 rfl (lv_room (Nat.le_of_ble_eq_true rfl)) dX5_count_36 ⟨Nat.le_of_ble_eq_true rfl, Nat.le_of_ble_eq_true rfl⟩) hP hD hS [0, 1, 2, 3, 4] [] 5 rfl [md, r1, r2, r3, r4] rfl rfl rfl [] rfl rfl rfl (by decide +kernel) (fun H locs hP hD hS => ?_)
      refine lv_iconst (v := (0 : Int32)) hx hb dX5_count_39 (by decide) ?_
      refine lv_istore (lv' := [(4, .int (0 : Int32)), (0, .ref md), (1, .int (2 : Int32)), (2, .int who), (3, .int nn)]) hx hb dX5_count_40 hl (by decide) rfl (fun ls hl => ?_)
      refine lv_iconst (v := (0 : Int32)) hx hb dX5_count_42 (by decide) ?_
      refine lv_istore (lv' := [(5, .int (0 : Int32)), (4, .int (0 : Int32)), (0, .ref md), (1, .int (2 : Int32)), (2, .int who), (3, .int nn)]) hx hb dX5_count_43 hl (by decide) rfl (fun ls hl => ?_)
      have hx1 : ∀ (H : Heap) (locs : List Loc), va_P (gD g) vwCl ([(md, .inr (5, [.int (mX5_count_2_V1 who), .int mF, .int mR, .ref r1, .ref r2, .ref r3, .int (zI mt), .int mk, .int mw, .int mm, .int mb, .int ms, .ref r4, .int my])), (r1, .inl (gJ g, 327680, .inr (.inl ((mX5_build_2 mF mR tb gr fu_1_1).1)))), (r2, .inl (gZ g, 6, .inl (upd (fun _ => (0 : Int32)) (2 : Int32).toNatClampNeg (vp_nar .boolean (1 : Int32))))), (r3, .inl (gI g, 6, .inl ((mX5_build_2 mF mR tb gr fu_1_1).2))), (r4, .inl (gI g, 64, .inl ml))]) H → va_D (et_ad ([(md, .inr (5, [.int th, .int mF, .int mR, .ref r1, .ref r2, .ref r3, .int (zI mt), .int mk, .int mw, .int mm, .int mb, .int ms, .ref r4, .int my])), (r1, .inl (gJ g, 327680, .inr (.inl tb))), (r2, .inl (gZ g, 6, .inl (fun _ => (0 : Int32)))), (r3, .inl (gI g, 6, .inl gr)), (r4, .inl (gI g, 64, .inl ml))])) ([(md, .inr (5, [.int (mX5_count_2_V1 who), .int mF, .int mR, .ref r1, .ref r2, .ref r3, .int (zI mt), .int mk, .int mw, .int mm, .int mb, .int ms, .ref r4, .int my])), (r1, .inl (gJ g, 327680, .inr (.inl ((mX5_build_2 mF mR tb gr fu_1_1).1)))), (r2, .inl (gZ g, 6, .inl (upd (fun _ => (0 : Int32)) (2 : Int32).toNatClampNeg (vp_nar .boolean (1 : Int32))))), (r3, .inl (gI g, 6, .inl ((mX5_build_2 mF mR tb gr fu_1_1).2))), (r4, .inl (gI g, 64, .inl ml))]) → va_S (et_ad ([(md, .inr (5, [.int th, .int mF, .int mR, .ref r1, .ref r2, .ref r3, .int (zI mt), .int mk, .int mw, .int mm, .int mb, .int ms, .ref r4, .int my])), (r1, .inl (gJ g, 327680, .inr (.inl tb))), (r2, .inl (gZ g, 6, .inl (fun _ => (0 : Int32)))), (r3, .inl (gI g, 6, .inl gr)), (r4, .inl (gI g, 64, .inl ml))])) s.heap H locs → ∀ ls : Array Slot, lv_has ls 6 [(4, .int (mX5_count_2_L1 mF mR tb gr fu_1_1 who nn 262144 0 (0 : Int32))), (0, .ref md), (1, .int (2 : Int32)), (2, .int who), (3, .int nn)] → W p l e ({ frames := 7, cells := 0, slots := 0, locals := 185 } : Room) s m args below meth c H locs 0 0 (MQ below (et_QW g ([(md, .inr (5, [.int th, .int mF, .int mR, .ref r1, .ref r2, .ref r3, .int (zI mt), .int mk, .int mw, .int mm, .int mb, .int ms, .ref r4, .int my])), (r1, .inl (gJ g, 327680, .inr (.inl tb))), (r2, .inl (gZ g, 6, .inl (fun _ => (0 : Int32)))), (r3, .inl (gI g, 6, .inl gr)), (r4, .inl (gI g, 64, .inl ml))]) ([(md, .inr (5, [.int ((mX5_count_2 mF mR tb gr fu_1_1 who nn).2.1), .int mF, .int mR, .ref r1, .ref r2, .ref r3, .int (zI mt), .int mk, .int mw, .int mm, .int mb, .int ms, .ref r4, .int my])), (r1, .inl (gJ g, 327680, .inr (.inl ((mX5_count_2 mF mR tb gr fu_1_1 who nn).2.2.1)))), (r2, .inl (gZ g, 6, .inl ((mX5_count_2 mF mR tb gr fu_1_1 who nn).2.2.2.2))), (r3, .inl (gI g, 6, .inl ((mX5_count_2 mF mR tb gr fu_1_1 who nn).2.2.2.1))), (r4, .inl (gI g, 64, .inl ml))]) (some (.int ((mX5_count_2 mF mR tb gr fu_1_1 who nn).1)))) args s 0 0 (et_ad ([(md, .inr (5, [.int th, .int mF, .int mR, .ref r1, .ref r2, .ref r3, .int (zI mt), .int mk, .int mw, .int mm, .int mb, .int ms, .ref r4, .int my])), (r1, .inl (gJ g, 327680, .inr (.inl tb))), (r2, .inl (gZ g, 6, .inl (fun _ => (0 : Int32)))), (r3, .inl (gI g, 6, .inl gr)), (r4, .inl (gI g, 64, .inl ml))]))) (F0 m 81 ls []) := by
        intro H locs hP hD hS ls hl
        refine lv_iload hx hb dX5_count_81 (lv_at hl 0 rfl) ?_
        have hfin : ((mX5_count_2_L1 mF mR tb gr fu_1_1 who nn 262144 0 (0 : Int32)), (mX5_count_2_V1 who), (mX5_build_2 mF mR tb gr fu_1_1).1, (mX5_build_2 mF mR tb gr fu_1_1).2, upd (fun _ => (0 : Int32)) (2 : Int32).toNatClampNeg (vp_nar .boolean (1 : Int32))) = (mX5_count_2 mF mR tb gr fu_1_1 who nn) := (by rw [mX5_count_2, if_pos c_1])
        exact et_iretW hx hb hr hlocks dX5_count_83 hP hS (by rw [← hfin]) ((by rw [← hfin]))
      have hL1 : ∀ (k1 i1 : Nat) (sum1 : Int32), i1 + k1 = 262144 → mX5_count_2_L1 mF mR tb gr fu_1_1 who nn k1 i1 sum1 = (mX5_count_2_L1 mF mR tb gr fu_1_1 who nn 262144 0 (0 : Int32)) → ∀ (H : Heap) (locs : List Loc), va_P (gD g) vwCl ([(md, .inr (5, [.int (mX5_count_2_V1 who), .int mF, .int mR, .ref r1, .ref r2, .ref r3, .int (zI mt), .int mk, .int mw, .int mm, .int mb, .int ms, .ref r4, .int my])), (r1, .inl (gJ g, 327680, .inr (.inl ((mX5_build_2 mF mR tb gr fu_1_1).1)))), (r2, .inl (gZ g, 6, .inl (upd (fun _ => (0 : Int32)) (2 : Int32).toNatClampNeg (vp_nar .boolean (1 : Int32))))), (r3, .inl (gI g, 6, .inl ((mX5_build_2 mF mR tb gr fu_1_1).2))), (r4, .inl (gI g, 64, .inl ml))]) H → va_D (et_ad ([(md, .inr (5, [.int th, .int mF, .int mR, .ref r1, .ref r2, .ref r3, .int (zI mt), .int mk, .int mw, .int mm, .int mb, .int ms, .ref r4, .int my])), (r1, .inl (gJ g, 327680, .inr (.inl tb))), (r2, .inl (gZ g, 6, .inl (fun _ => (0 : Int32)))), (r3, .inl (gI g, 6, .inl gr)), (r4, .inl (gI g, 64, .inl ml))])) ([(md, .inr (5, [.int (mX5_count_2_V1 who), .int mF, .int mR, .ref r1, .ref r2, .ref r3, .int (zI mt), .int mk, .int mw, .int mm, .int mb, .int ms, .ref r4, .int my])), (r1, .inl (gJ g, 327680, .inr (.inl ((mX5_build_2 mF mR tb gr fu_1_1).1)))), (r2, .inl (gZ g, 6, .inl (upd (fun _ => (0 : Int32)) (2 : Int32).toNatClampNeg (vp_nar .boolean (1 : Int32))))), (r3, .inl (gI g, 6, .inl ((mX5_build_2 mF mR tb gr fu_1_1).2))), (r4, .inl (gI g, 64, .inl ml))]) → va_S (et_ad ([(md, .inr (5, [.int th, .int mF, .int mR, .ref r1, .ref r2, .ref r3, .int (zI mt), .int mk, .int mw, .int mm, .int mb, .int ms, .ref r4, .int my])), (r1, .inl (gJ g, 327680, .inr (.inl tb))), (r2, .inl (gZ g, 6, .inl (fun _ => (0 : Int32)))), (r3, .inl (gI g, 6, .inl gr)), (r4, .inl (gI g, 64, .inl ml))])) s.heap H locs → ∀ ls : Array Slot, lv_has ls 6 [(5, .int (nI i1)), (4, .int sum1), (0, .ref md), (1, .int (2 : Int32)), (2, .int who), (3, .int nn)] → W p l e ({ frames := 7, cells := 0, slots := 0, locals := 185 } : Room) s m args below meth c H locs 0 0 (MQ below (et_QW g ([(md, .inr (5, [.int th, .int mF, .int mR, .ref r1, .ref r2, .ref r3, .int (zI mt), .int mk, .int mw, .int mm, .int mb, .int ms, .ref r4, .int my])), (r1, .inl (gJ g, 327680, .inr (.inl tb))), (r2, .inl (gZ g, 6, .inl (fun _ => (0 : Int32)))), (r3, .inl (gI g, 6, .inl gr)), (r4, .inl (gI g, 64, .inl ml))]) ([(md, .inr (5, [.int ((mX5_count_2 mF mR tb gr fu_1_1 who nn).2.1), .int mF, .int mR, .ref r1, .ref r2, .ref r3, .int (zI mt), .int mk, .int mw, .int mm, .int mb, .int ms, .ref r4, .int my])), (r1, .inl (gJ g, 327680, .inr (.inl ((mX5_count_2 mF mR tb gr fu_1_1 who nn).2.2.1)))), (r2, .inl (gZ g, 6, .inl ((mX5_count_2 mF mR tb gr fu_1_1 who nn).2.2.2.2))), (r3, .inl (gI g, 6, .inl ((mX5_count_2 mF mR tb gr fu_1_1 who nn).2.2.2.1))), (r4, .inl (gI g, 64, .inl ml))]) (some (.int ((mX5_count_2 mF mR tb gr fu_1_1 who nn).1)))) args s 0 0 (et_ad ([(md, .inr (5, [.int th, .int mF, .int mR, .ref r1, .ref r2, .ref r3, .int (zI mt), .int mk, .int mw, .int mm, .int mb, .int ms, .ref r4, .int my])), (r1, .inl (gJ g, 327680, .inr (.inl tb))), (r2, .inl (gZ g, 6, .inl (fun _ => (0 : Int32)))), (r3, .inl (gI g, 6, .inl gr)), (r4, .inl (gI g, 64, .inl ml))]))) (F0 m 45 ls []) := by
        intro k1
        induction k1 with
        | zero =>
          intro i1 sum1 hik  hm H locs hP hD hS ls hl
          refine lv_iload hx hb dX5_count_45 (lv_at hl 0 rfl) ?_
          refine lv_ldc hx hb hown (hts _ w_844) dX5_count_47 ?_
          refine lv_icmp_ge (tgt := 81) hx hb dX5_count_49 (by decide) (fun c_2 => ?_) (fun c_2 => ?_)
          rotate_left
          · exact absurd (et_le (a := 262144) (b := i1) (by omega) (by omega)) c_2
          have hq1 : sum1 = (mX5_count_2_L1 mF mR tb gr fu_1_1 who nn 262144 0 (0 : Int32)) := (by rw [mX5_count_2_L1] : mX5_count_2_L1 mF mR tb gr fu_1_1 who nn 0 i1 sum1 = sum1).symm.trans hm
          exact hx1 _ _ hP hD hS ls (by rw [← hq1]; exact lv_sub hl [1, 2, 3, 4, 5] rfl)
        | succ k1 ih1 =>
          intro i1 sum1 hik  hm H locs hP hD hS ls hl
          refine lv_iload hx hb dX5_count_45 (lv_at hl 0 rfl) ?_
          refine lv_ldc hx hb hown (hts _ w_844) dX5_count_47 ?_
          refine lv_icmp_ge (tgt := 81) hx hb dX5_count_49 (by decide) (fun c_3 => ?_) (fun c_3 => ?_)
          · exact absurd c_3 (et_ge (a := i1) (b := 262144) (by omega) (by omega))
          have hj2 : ∀ ls : Array Slot, lv_has ls 6 [(5, .int (nI i1)), (4, .int sum1), (0, .ref md), (1, .int (2 : Int32)), (2, .int who), (3, .int nn)] → W p l e ({ frames := 7, cells := 0, slots := 0, locals := 185 } : Room) s m args below meth c H locs 0 0 (MQ below (et_QW g ([(md, .inr (5, [.int th, .int mF, .int mR, .ref r1, .ref r2, .ref r3, .int (zI mt), .int mk, .int mw, .int mm, .int mb, .int ms, .ref r4, .int my])), (r1, .inl (gJ g, 327680, .inr (.inl tb))), (r2, .inl (gZ g, 6, .inl (fun _ => (0 : Int32)))), (r3, .inl (gI g, 6, .inl gr)), (r4, .inl (gI g, 64, .inl ml))]) ([(md, .inr (5, [.int ((mX5_count_2 mF mR tb gr fu_1_1 who nn).2.1), .int mF, .int mR, .ref r1, .ref r2, .ref r3, .int (zI mt), .int mk, .int mw, .int mm, .int mb, .int ms, .ref r4, .int my])), (r1, .inl (gJ g, 327680, .inr (.inl ((mX5_count_2 mF mR tb gr fu_1_1 who nn).2.2.1)))), (r2, .inl (gZ g, 6, .inl ((mX5_count_2 mF mR tb gr fu_1_1 who nn).2.2.2.2))), (r3, .inl (gI g, 6, .inl ((mX5_count_2 mF mR tb gr fu_1_1 who nn).2.2.2.1))), (r4, .inl (gI g, 64, .inl ml))]) (some (.int ((mX5_count_2 mF mR tb gr fu_1_1 who nn).1)))) args s 0 0 (et_ad ([(md, .inr (5, [.int th, .int mF, .int mR, .ref r1, .ref r2, .ref r3, .int (zI mt), .int mk, .int mw, .int mm, .int mb, .int ms, .ref r4, .int my])), (r1, .inl (gJ g, 327680, .inr (.inl tb))), (r2, .inl (gZ g, 6, .inl (fun _ => (0 : Int32)))), (r3, .inl (gI g, 6, .inl gr)), (r4, .inl (gI g, 64, .inl ml))]))) (F0 m 73 ls [.int (mX5_count_2_V2 mF mR tb gr fu_1_1 who nn i1 sum1)]) := by
            intro ls hl
            refine lv_istore (lv' := [(4, .int (mX5_count_2_V2 mF mR tb gr fu_1_1 who nn i1 sum1)), (5, .int (nI i1)), (0, .ref md), (1, .int (2 : Int32)), (2, .int who), (3, .int nn)]) hx hb dX5_count_73 hl (by decide) rfl (fun ls hl => ?_)
            refine lv_iinc (v := nI (i1 + 1)) (lv' := [(5, .int (nI (i1 + 1))), (4, .int (mX5_count_2_V2 mF mR tb gr fu_1_1 who nn i1 sum1)), (0, .ref md), (1, .int (2 : Int32)), (2, .int who), (3, .int nn)]) hx hb dX5_count_75 hl (k := 1) rfl (et_inc i1) (by decide) rfl (fun ls hl => ?_)
            refine lv_goto (tgt := 45) hx hb dX5_count_78 (by decide) ?_
            exact ih1 (i1 + 1) (mX5_count_2_V2 mF mR tb gr fu_1_1 who nn i1 sum1) (by omega) ((by rw [mX5_count_2_L1] : mX5_count_2_L1 mF mR tb gr fu_1_1 who nn (k1 + 1) i1 sum1 = mX5_count_2_L1 mF mR tb gr fu_1_1 who nn k1 (i1 + 1) (mX5_count_2_V2 mF mR tb gr fu_1_1 who nn i1 sum1)).symm.trans hm) _ _ hP hD hS ls (lv_sub hl [0, 1, 2, 3, 4, 5] rfl)
          refine lv_aload_n hx hb dX5_count_52 rfl (lv_at hl 2 rfl) ?_
          refine lv_iload_n hx hb dX5_count_53 rfl (lv_at hl 3 rfl) ?_
          refine lv_iload_n hx hb dX5_count_54 rfl (lv_at hl 4 rfl) ?_
          refine lv_iload_n hx hb dX5_count_55 rfl (lv_at hl 5 rfl) ?_
          refine lv_iload hx hb dX5_count_56 (lv_at hl 0 rfl) ?_
          refine et_callP1 (v := .int (zI (mX5_isOne mF mR ((mX5_build_2 mF mR tb gr fu_1_1).1) (2 : Int32) who nn (nI i1)))) (va_runV (As := [.int (2 : Int32), .int who, .int nn, .int (nI i1)]) (rest := []) ⟨hx, hb, hml, hown, hts⟩ (c_X5_isOne l g md r1 r2 r3 r4 mF mR (mX5_count_2_V1 who) ((mX5_build_2 mF mR tb gr fu_1_1).1) (upd (fun _ => (0 : Int32)) (2 : Int32).toNatClampNeg (vp_nar .boolean (1 : Int32))) ((mX5_build_2 mF mR tb gr fu_1_1).2) mt mk mw mm mb ms ml my (2 : Int32) who nn (nI i1) (by assumption) (by assumption) (et_kdl (by decide)) (et_cntV_2 (by assumption)) (et_ati (by omega))) (cwV 4 hts (W0_gV w_874 w_876 w_67 w_82 w_877) rfl rfl rfl (by decide +kernel) ⟨Nat.le_of_ble_eq_true rfl, Nat.le_of_ble_eq_true rfl⟩) (et_preV hP hC [0, 1, 2, 3, 4] rfl (ci := 5) (q0 := 0) rfl rfl) rfl rfl hl.1 rfl (lv_room (Nat.le_of_ble_eq_true rfl)) dX5_count_58 ⟨Nat.le_of_ble_eq_true rfl, Nat.le_of_ble_eq_true rfl⟩) ?_
          refine lv_if_eq (tgt := 71) hx hb dX5_count_61 (by decide) (fun c_4 => ?_) (fun c_4 => ?_)
          ·
            refine lv_iload hx hb dX5_count_71 (lv_at hl 1 rfl) ?_
            have he2 : (sum1 : Int32) = (mX5_count_2_V2 mF mR tb gr fu_1_1 who nn i1 sum1) := (by rw [mX5_count_2_V2, if_pos c_4])
            exact et_stki he2 (hj2 ls (lv_sub hl [0, 1, 2, 3, 4, 5] rfl))
          ·
            refine lv_iload hx hb dX5_count_64 (lv_at hl 1 rfl) ?_
            refine lv_iconst (v := (1 : Int32)) hx hb dX5_count_66 (by decide) ?_
            refine lv_iadd hx hb dX5_count_67 ?_
            refine lv_goto (tgt := 73) hx hb dX5_count_68 (by decide) ?_
            have he3 : (sum1 + (1 : Int32) : Int32) = (mX5_count_2_V2 mF mR tb gr fu_1_1 who nn i1 sum1) := (by rw [mX5_count_2_V2, if_neg c_4])
            exact et_stki he3 (hj2 ls (lv_sub hl [0, 1, 2, 3, 4, 5] rfl))
      exact hL1 262144 0 (0 : Int32) (by omega) rfl _ _ hP hD hS ls (lv_sub hl [0, 1, 2, 3, 4, 5] rfl)
    ·
      refine lv_iconst (v := (0 : Int32)) hx hb dX5_count_32 (by decide) ?_
      have hfin : ((0 : Int32), (mX5_count_2_V1 who), tb, gr, (fun _ => (0 : Int32))) = (mX5_count_2 mF mR tb gr fu_1_1 who nn) := (by rw [mX5_count_2, if_neg c_1])
      exact et_iretW hx hb hr hlocks dX5_count_33 hP hS (by rw [← hfin]) ((by rw [← hfin]))
  refine lv_iload_n hx hb dX5_count_1 rfl (lv_at hl 1 rfl) ?_
  refine et_callP1 (v := .int (zI (mX5_isKind (2 : Int32)))) (va_runS (As := [.int (2 : Int32)]) (rest := [.ref md]) ⟨hx, hb, hml, hown, hts⟩ (c_X5_isKind l g (2 : Int32)) (va_cwS 1 hts (W0_gS w_789 w_790 w_82 w_791) rfl rfl rfl (by decide +kernel) ⟨Nat.le_of_ble_eq_true rfl, Nat.le_of_ble_eq_true rfl⟩) (et_preS hP hC [] rfl) rfl rfl hl.1 rfl (lv_room (Nat.le_of_ble_eq_true rfl)) dX5_count_2 ⟨Nat.le_of_ble_eq_true rfl, Nat.le_of_ble_eq_true rfl⟩) ?_
  refine lv_if_eq (tgt := 21) hx hb dX5_count_5 (by decide) (fun c_5 => ?_) (fun c_5 => ?_)
  ·
    refine lv_iconst (v := (1 : Int32)) hx hb dX5_count_21 (by decide) ?_
    have he4 : ((1 : Int32) : Int32) = (mX5_count_2_V1 who) := (by rw [mX5_count_2_V1, if_pos c_5])
    exact et_stki he4 (hj1 ls (lv_sub hl [0, 1, 2, 3] rfl))
  ·
    refine lv_iload_n hx hb dX5_count_8 rfl (lv_at hl 2 rfl) ?_
    refine lv_if_lt (tgt := 21) hx hb dX5_count_9 (by decide) (fun c_6 => ?_) (fun c_6 => ?_)
    ·
      refine lv_iconst (v := (1 : Int32)) hx hb dX5_count_21 (by decide) ?_
      have he5 : ((1 : Int32) : Int32) = (mX5_count_2_V1 who) := (by rw [mX5_count_2_V1, if_neg c_5, if_pos c_6])
      exact et_stki he5 (hj1 ls (lv_sub hl [0, 1, 2, 3] rfl))
    ·
      refine lv_iload_n hx hb dX5_count_12 rfl (lv_at hl 2 rfl) ?_
      refine lv_iconst (v := (2 : Int32)) hx hb dX5_count_13 (by decide) ?_
      refine lv_icmp_ge (tgt := 21) hx hb dX5_count_14 (by decide) (fun c_7 => ?_) (fun c_7 => ?_)
      ·
        refine lv_iconst (v := (1 : Int32)) hx hb dX5_count_21 (by decide) ?_
        have he6 : ((1 : Int32) : Int32) = (mX5_count_2_V1 who) := (by rw [mX5_count_2_V1, if_neg c_5, if_neg c_6, if_pos c_7])
        exact et_stki he6 (hj1 ls (lv_sub hl [0, 1, 2, 3] rfl))
      ·
        refine lv_iconst (v := (0 : Int32)) hx hb dX5_count_17 (by decide) ?_
        refine lv_goto (tgt := 22) hx hb dX5_count_18 (by decide) ?_
        have he7 : ((0 : Int32) : Int32) = (mX5_count_2_V1 who) := (by rw [mX5_count_2_V1, if_neg c_5, if_neg c_6, if_neg c_7])
        exact et_stki he7 (hj1 ls (lv_sub hl [0, 1, 2, 3] rfl))

def mX5_find_2_V1 (who : Int32) : Int32 :=
  if (zI (mX5_isKind (2 : Int32))) = 0 then
    (1 : Int32)
  else
    if who < 0 then
      (1 : Int32)
    else
      if (2 : Int32) ≤ who then
        (1 : Int32)
      else
        (0 : Int32)
def mX5_find_2_L1 (mF : Int32) (mR : Int32) (tb : Nat → Int64) (gr : Nat → Int32) (fu_1_1 : Nat) (who : Int32) (nn : Int32) (ix : Int32) : Nat → Nat → Int32 → Int32 × Int32 × (Nat → Int64) × (Nat → Int32) × (Nat → Int32)
  | 0, i1, left1 =>
    ((0 : Int32), (2 : Int32), (mX5_build_2 mF mR tb gr fu_1_1).1, (mX5_build_2 mF mR tb gr fu_1_1).2, upd (fun _ => (0 : Int32)) (2 : Int32).toNatClampNeg (vp_nar .boolean (1 : Int32)))
  | k1 + 1, i1, left1 =>
    if ix < 0 then
      ((0 : Int32), (2 : Int32), (mX5_build_2 mF mR tb gr fu_1_1).1, (mX5_build_2 mF mR tb gr fu_1_1).2, upd (fun _ => (0 : Int32)) (2 : Int32).toNatClampNeg (vp_nar .boolean (1 : Int32)))
    else
      if (zI (mX5_isOne mF mR ((mX5_build_2 mF mR tb gr fu_1_1).1) (2 : Int32) who nn (nI i1))) = 0 then
        mX5_find_2_L1 mF mR tb gr fu_1_1 who nn ix k1 (i1 + 1) left1
      else
        if left1 = 0 then
          ((((nI i1) / (4096 : Int32)) + ((64 : Int32) * (((nI i1) / (64 : Int32)) - ((nI i1) / (64 : Int32)) / (64 : Int32) * (64 : Int32)))) + ((4096 : Int32) * ((nI i1) - (nI i1) / (64 : Int32) * (64 : Int32))), (mX5_find_2_V1 who), (mX5_build_2 mF mR tb gr fu_1_1).1, (mX5_build_2 mF mR tb gr fu_1_1).2, upd (fun _ => (0 : Int32)) (2 : Int32).toNatClampNeg (vp_nar .boolean (1 : Int32)))
        else
          mX5_find_2_L1 mF mR tb gr fu_1_1 who nn ix k1 (i1 + 1) (left1 + (-1 : Int32))
def mX5_find_2 (mF : Int32) (mR : Int32) (tb : Nat → Int64) (gr : Nat → Int32) (fu_1_1 : Nat) (who : Int32) (nn : Int32) (ix : Int32) : Int32 × Int32 × (Nat → Int64) × (Nat → Int32) × (Nat → Int32) :=
  if (mX5_find_2_V1 who) ≤ 0 then
    mX5_find_2_L1 mF mR tb gr fu_1_1 who nn ix 262144 0 ix
  else
    ((0 : Int32), (mX5_find_2_V1 who), tb, gr, (fun _ => (0 : Int32)))
theorem et_findV_2 {who : Int32} (h : mX5_find_2_V1 who ≤ 0) : et_sd who := by
  unfold mX5_find_2_V1 at h
  rw [if_neg (show ¬ zI (mX5_isKind (2 : Int32)) = 0 by decide)] at h
  rcases pk_ix who (n := 2) (by omega) with h1 | h1 | ⟨j, hj, rfl⟩
  · rw [if_pos h1] at h
    exact absurd h (by decide)
  · rw [if_neg (show ¬ who < 0 from fun h2 => absurd (Int32.le_trans h1 (Int32.le_of_lt h2)) (by decide)), if_pos (show (2 : Int32) ≤ who from h1)] at h
    exact absurd h (by decide)
  · rcases (show j = 0 ∨ j = 1 by omega) with rfl | rfl
    · exact Or.inl rfl
    · exact Or.inr rfl
set_option maxHeartbeats 4000000 in
set_option maxRecDepth 100000 in
theorem c_X5_find_2 (l : Launch) (g : et_G) (md : Nat) (r1 : Nat) (r2 : Nat) (r3 : Nat) (r4 : Nat) (mF : Int32) (mR : Int32) (th : Int32) (tb : Nat → Int64) (gr : Nat → Int32) (mt : Bool) (mk : Int32) (mw : Int32) (mm : Int32) (mb : Int32) (ms : Int32) (ml : Nat → Int32) (my : Int32) (fu_1_1 : Nat) (who : Int32) (nn : Int32) (ix : Int32) (hF : et_b8 mF) (hR : et_b8 mR) (hT_2_2 : mX5_passAll_L1_ok mF mR (2 : Int32) (1 : Int32) fu_1_1 0 (0 : Int32) (0 : Int32) tb (upd gr (2 : Int32).toNatClampNeg (-1 : Int32)) = true) : Met l yX5_find (Cond.code yX5_find cX5_find 7 (some (.int)) :: W0) ({ frames := 7, cells := 0, slots := 0, locals := 185 } : Room) (et_PcW g ([(md, .inr (5, [.int th, .int mF, .int mR, .ref r1, .ref r2, .ref r3, .int (zI mt), .int mk, .int mw, .int mm, .int mb, .int ms, .ref r4, .int my])), (r1, .inl (gJ g, 327680, .inr (.inl tb))), (r2, .inl (gZ g, 6, .inl (fun _ => (0 : Int32)))), (r3, .inl (gI g, 6, .inl gr)), (r4, .inl (gI g, 64, .inl ml))]) [.ref md, .int (2 : Int32), .int who, .int nn, .int ix]) (et_QW g ([(md, .inr (5, [.int th, .int mF, .int mR, .ref r1, .ref r2, .ref r3, .int (zI mt), .int mk, .int mw, .int mm, .int mb, .int ms, .ref r4, .int my])), (r1, .inl (gJ g, 327680, .inr (.inl tb))), (r2, .inl (gZ g, 6, .inl (fun _ => (0 : Int32)))), (r3, .inl (gI g, 6, .inl gr)), (r4, .inl (gI g, 64, .inl ml))]) ([(md, .inr (5, [.int ((mX5_find_2 mF mR tb gr fu_1_1 who nn ix).2.1), .int mF, .int mR, .ref r1, .ref r2, .ref r3, .int (zI mt), .int mk, .int mw, .int mm, .int mb, .int ms, .ref r4, .int my])), (r1, .inl (gJ g, 327680, .inr (.inl ((mX5_find_2 mF mR tb gr fu_1_1 who nn ix).2.2.1)))), (r2, .inl (gZ g, 6, .inl ((mX5_find_2 mF mR tb gr fu_1_1 who nn ix).2.2.2.2))), (r3, .inl (gI g, 6, .inl ((mX5_find_2 mF mR tb gr fu_1_1 who nn ix).2.2.2.1))), (r4, .inl (gI g, 64, .inl ml))]) (some (.int ((mX5_find_2 mF mR tb gr fu_1_1 who nn ix).1)))) 0 0 (et_ad ([(md, .inr (5, [.int th, .int mF, .int mR, .ref r1, .ref r2, .ref r3, .int (zI mt), .int mk, .int mw, .int mm, .int mb, .int ms, .ref r4, .int my])), (r1, .inl (gJ g, 327680, .inr (.inl tb))), (r2, .inl (gZ g, 6, .inl (fun _ => (0 : Int32)))), (r3, .inl (gI g, 6, .inl gr)), (r4, .inl (gI g, 64, .inl ml))])) := by
  refine et_startW (by decide) rfl (Nat.le_of_ble_eq_true rfl) ?_
  intro p e s m args below meth c hx hb hr hts0 hown hlocks hml hP hC hD hS ls hl
  have hts : ∀ w ∈ W0, w.before args s = true := fun w h => hts0 w (List.mem_cons_of_mem _ h)
  have hown : s.vm.findClass RX5 = some m.cls := hown
  have hl : lv_has ls 7 [(0, .ref md), (1, .int (2 : Int32)), (2, .int who), (3, .int nn), (4, .int ix)] := hl
  refine lv_aload_n hx hb dX5_find_0 rfl (lv_at hl 0 rfl) ?_
  have hj1 : ∀ ls : Array Slot, lv_has ls 7 [(0, .ref md), (1, .int (2 : Int32)), (2, .int who), (3, .int nn), (4, .int ix)] → W p l e ({ frames := 7, cells := 0, slots := 0, locals := 185 } : Room) s m args below meth c s.heap [] 0 0 (MQ below (et_QW g ([(md, .inr (5, [.int th, .int mF, .int mR, .ref r1, .ref r2, .ref r3, .int (zI mt), .int mk, .int mw, .int mm, .int mb, .int ms, .ref r4, .int my])), (r1, .inl (gJ g, 327680, .inr (.inl tb))), (r2, .inl (gZ g, 6, .inl (fun _ => (0 : Int32)))), (r3, .inl (gI g, 6, .inl gr)), (r4, .inl (gI g, 64, .inl ml))]) ([(md, .inr (5, [.int ((mX5_find_2 mF mR tb gr fu_1_1 who nn ix).2.1), .int mF, .int mR, .ref r1, .ref r2, .ref r3, .int (zI mt), .int mk, .int mw, .int mm, .int mb, .int ms, .ref r4, .int my])), (r1, .inl (gJ g, 327680, .inr (.inl ((mX5_find_2 mF mR tb gr fu_1_1 who nn ix).2.2.1)))), (r2, .inl (gZ g, 6, .inl ((mX5_find_2 mF mR tb gr fu_1_1 who nn ix).2.2.2.2))), (r3, .inl (gI g, 6, .inl ((mX5_find_2 mF mR tb gr fu_1_1 who nn ix).2.2.2.1))), (r4, .inl (gI g, 64, .inl ml))]) (some (.int ((mX5_find_2 mF mR tb gr fu_1_1 who nn ix).1)))) args s 0 0 (et_ad ([(md, .inr (5, [.int th, .int mF, .int mR, .ref r1, .ref r2, .ref r3, .int (zI mt), .int mk, .int mw, .int mm, .int mb, .int ms, .ref r4, .int my])), (r1, .inl (gJ g, 327680, .inr (.inl tb))), (r2, .inl (gZ g, 6, .inl (fun _ => (0 : Int32)))), (r3, .inl (gI g, 6, .inl gr)), (r4, .inl (gI g, 64, .inl ml))]))) (F0 m 22 ls [.int (mX5_find_2_V1 who), .ref md]) := by
    intro ls hl
    refine va_put (D := gD g) (ci := 5) (v := .int (mX5_find_2_V1 who)) (ty := .int) (C := RX5) (T := TX5) (N := 14) hx hb hts inW_X5 tyX5 tyX5_ok nmX5 hown hC.1 hP hD hS 0 rfl rfl 0 (by decide) (hts _ w_733) (fun _ h9 => h9) rfl (by decide +kernel) rfl rfl (Nat.le_of_ble_eq_true rfl) dX5_find_22 (fun H locs hP hD hS => ?_)
    have hP : va_P (gD g) vwCl ([(md, .inr (5, [.int (mX5_find_2_V1 who), .int mF, .int mR, .ref r1, .ref r2, .ref r3, .int (zI mt), .int mk, .int mw, .int mm, .int mb, .int ms, .ref r4, .int my])), (r1, .inl (gJ g, 327680, .inr (.inl tb))), (r2, .inl (gZ g, 6, .inl (fun _ => (0 : Int32)))), (r3, .inl (gI g, 6, .inl gr)), (r4, .inl (gI g, 64, .inl ml))]) H := hP
    have hD : va_D (et_ad ([(md, .inr (5, [.int th, .int mF, .int mR, .ref r1, .ref r2, .ref r3, .int (zI mt), .int mk, .int mw, .int mm, .int mb, .int ms, .ref r4, .int my])), (r1, .inl (gJ g, 327680, .inr (.inl tb))), (r2, .inl (gZ g, 6, .inl (fun _ => (0 : Int32)))), (r3, .inl (gI g, 6, .inl gr)), (r4, .inl (gI g, 64, .inl ml))])) ([(md, .inr (5, [.int (mX5_find_2_V1 who), .int mF, .int mR, .ref r1, .ref r2, .ref r3, .int (zI mt), .int mk, .int mw, .int mm, .int mb, .int ms, .ref r4, .int my])), (r1, .inl (gJ g, 327680, .inr (.inl tb))), (r2, .inl (gZ g, 6, .inl (fun _ => (0 : Int32)))), (r3, .inl (gI g, 6, .inl gr)), (r4, .inl (gI g, 64, .inl ml))]) := hD
    refine lv_aload_n hx hb dX5_find_25 rfl (lv_at hl 0 rfl) ?_
    refine va_get (D := gD g) (ci := 5) (v := .int (mX5_find_2_V1 who)) (C := RX5) (T := TX5) (N := 14) hx hb hts inW_X5 hown hC.1 hP 0 rfl rfl 0 (by decide) (hts _ w_733) (fun _ h9 => h9) rfl dX5_find_26 ?_
    refine lv_if_le (tgt := 34) hx hb dX5_find_29 (by decide) (fun c_1 => ?_) (fun c_1 => ?_)
    ·
      refine lv_aload_n hx hb dX5_find_34 rfl (lv_at hl 0 rfl) ?_
      refine lv_iload_n hx hb dX5_find_35 rfl (lv_at hl 1 rfl) ?_
      refine et_callW0 (ws' := [(md, .inr (5, [.int (mX5_find_2_V1 who), .int mF, .int mR, .ref r1, .ref r2, .ref r3, .int (zI mt), .int mk, .int mw, .int mm, .int mb, .int ms, .ref r4, .int my])), (r1, .inl (gJ g, 327680, .inr (.inl ((mX5_build_2 mF mR tb gr fu_1_1).1)))), (r2, .inl (gZ g, 6, .inl (upd (fun _ => (0 : Int32)) (2 : Int32).toNatClampNeg (vp_nar .boolean (1 : Int32))))), (r3, .inl (gI g, 6, .inl ((mX5_build_2 mF mR tb gr fu_1_1).2))), (r4, .inl (gI g, 64, .inl ml))]) (va_runV (As := [.int (2 : Int32)]) (rest := []) ⟨hx, hb, hml, hown, hts⟩ (c_X5_build_2 l g md r1 r2 r3 r4 mF mR (mX5_find_2_V1 who) tb gr mt mk mw mm mb ms ml my fu_1_1 (by assumption) (by assumption) hT_2_2) (cwV 1 hts (W0_gV w_821 w_823 w_56 w_82 w_824) rfl rfl rfl (by decide +kernel) ⟨Nat.le_of_ble_eq_true rfl, Nat.le_of_ble_eq_true rfl⟩) (et_preVW hP hC hD [0, 1, 2, 3, 4] (by decide) rfl (ci := 5) (q0 := 0) rfl rfl) rfl rfl hl.1 rfl (lv_room (Nat.le_of_ble_eq_true rfl)) dX5_find_36 ⟨Nat.le_of_ble_eq_true rfl, Nat.le_of_ble_eq_true rfl⟩) hP hD hS [0, 1, 2, 3, 4] [] 5 rfl [md, r1, r2, r3, r4] rfl rfl rfl [] rfl rfl rfl (by decide +kernel) (fun H locs hP hD hS => ?_)
      refine lv_iload hx hb dX5_find_39 (lv_at hl 4 rfl) ?_
      refine lv_istore (lv' := [(5, .int ix), (0, .ref md), (1, .int (2 : Int32)), (2, .int who), (3, .int nn), (4, .int ix)]) hx hb dX5_find_41 hl (by decide) rfl (fun ls hl => ?_)
      refine lv_iconst (v := (0 : Int32)) hx hb dX5_find_43 (by decide) ?_
      refine lv_istore (lv' := [(6, .int (0 : Int32)), (5, .int ix), (0, .ref md), (1, .int (2 : Int32)), (2, .int who), (3, .int nn), (4, .int ix)]) hx hb dX5_find_44 hl (by decide) rfl (fun ls hl => ?_)
      have hL1 : ∀ (k1 i1 : Nat) (left1 : Int32), i1 + k1 = 262144 → mX5_find_2_L1 mF mR tb gr fu_1_1 who nn ix k1 i1 left1 = (mX5_find_2 mF mR tb gr fu_1_1 who nn ix) → ∀ (H : Heap) (locs : List Loc), va_P (gD g) vwCl ([(md, .inr (5, [.int (mX5_find_2_V1 who), .int mF, .int mR, .ref r1, .ref r2, .ref r3, .int (zI mt), .int mk, .int mw, .int mm, .int mb, .int ms, .ref r4, .int my])), (r1, .inl (gJ g, 327680, .inr (.inl ((mX5_build_2 mF mR tb gr fu_1_1).1)))), (r2, .inl (gZ g, 6, .inl (upd (fun _ => (0 : Int32)) (2 : Int32).toNatClampNeg (vp_nar .boolean (1 : Int32))))), (r3, .inl (gI g, 6, .inl ((mX5_build_2 mF mR tb gr fu_1_1).2))), (r4, .inl (gI g, 64, .inl ml))]) H → va_D (et_ad ([(md, .inr (5, [.int th, .int mF, .int mR, .ref r1, .ref r2, .ref r3, .int (zI mt), .int mk, .int mw, .int mm, .int mb, .int ms, .ref r4, .int my])), (r1, .inl (gJ g, 327680, .inr (.inl tb))), (r2, .inl (gZ g, 6, .inl (fun _ => (0 : Int32)))), (r3, .inl (gI g, 6, .inl gr)), (r4, .inl (gI g, 64, .inl ml))])) ([(md, .inr (5, [.int (mX5_find_2_V1 who), .int mF, .int mR, .ref r1, .ref r2, .ref r3, .int (zI mt), .int mk, .int mw, .int mm, .int mb, .int ms, .ref r4, .int my])), (r1, .inl (gJ g, 327680, .inr (.inl ((mX5_build_2 mF mR tb gr fu_1_1).1)))), (r2, .inl (gZ g, 6, .inl (upd (fun _ => (0 : Int32)) (2 : Int32).toNatClampNeg (vp_nar .boolean (1 : Int32))))), (r3, .inl (gI g, 6, .inl ((mX5_build_2 mF mR tb gr fu_1_1).2))), (r4, .inl (gI g, 64, .inl ml))]) → va_S (et_ad ([(md, .inr (5, [.int th, .int mF, .int mR, .ref r1, .ref r2, .ref r3, .int (zI mt), .int mk, .int mw, .int mm, .int mb, .int ms, .ref r4, .int my])), (r1, .inl (gJ g, 327680, .inr (.inl tb))), (r2, .inl (gZ g, 6, .inl (fun _ => (0 : Int32)))), (r3, .inl (gI g, 6, .inl gr)), (r4, .inl (gI g, 64, .inl ml))])) s.heap H locs → ∀ ls : Array Slot, lv_has ls 7 [(6, .int (nI i1)), (5, .int left1), (0, .ref md), (1, .int (2 : Int32)), (2, .int who), (3, .int nn), (4, .int ix)] → W p l e ({ frames := 7, cells := 0, slots := 0, locals := 185 } : Room) s m args below meth c H locs 0 0 (MQ below (et_QW g ([(md, .inr (5, [.int th, .int mF, .int mR, .ref r1, .ref r2, .ref r3, .int (zI mt), .int mk, .int mw, .int mm, .int mb, .int ms, .ref r4, .int my])), (r1, .inl (gJ g, 327680, .inr (.inl tb))), (r2, .inl (gZ g, 6, .inl (fun _ => (0 : Int32)))), (r3, .inl (gI g, 6, .inl gr)), (r4, .inl (gI g, 64, .inl ml))]) ([(md, .inr (5, [.int ((mX5_find_2 mF mR tb gr fu_1_1 who nn ix).2.1), .int mF, .int mR, .ref r1, .ref r2, .ref r3, .int (zI mt), .int mk, .int mw, .int mm, .int mb, .int ms, .ref r4, .int my])), (r1, .inl (gJ g, 327680, .inr (.inl ((mX5_find_2 mF mR tb gr fu_1_1 who nn ix).2.2.1)))), (r2, .inl (gZ g, 6, .inl ((mX5_find_2 mF mR tb gr fu_1_1 who nn ix).2.2.2.2))), (r3, .inl (gI g, 6, .inl ((mX5_find_2 mF mR tb gr fu_1_1 who nn ix).2.2.2.1))), (r4, .inl (gI g, 64, .inl ml))]) (some (.int ((mX5_find_2 mF mR tb gr fu_1_1 who nn ix).1)))) args s 0 0 (et_ad ([(md, .inr (5, [.int th, .int mF, .int mR, .ref r1, .ref r2, .ref r3, .int (zI mt), .int mk, .int mw, .int mm, .int mb, .int ms, .ref r4, .int my])), (r1, .inl (gJ g, 327680, .inr (.inl tb))), (r2, .inl (gZ g, 6, .inl (fun _ => (0 : Int32)))), (r3, .inl (gI g, 6, .inl gr)), (r4, .inl (gI g, 64, .inl ml))]))) (F0 m 46 ls []) := by
        intro k1
        induction k1 with
        | zero =>
          intro i1 left1 hik hm H locs hP hD hS ls hl
          refine lv_iload hx hb dX5_find_46 (lv_at hl 0 rfl) ?_
          refine lv_ldc hx hb hown (hts _ w_844) dX5_find_48 ?_
          refine lv_icmp_ge (tgt := 113) hx hb dX5_find_50 (by decide) (fun c_2 => ?_) (fun c_2 => ?_)
          rotate_left
          · exact absurd (et_le (a := 262144) (b := i1) (by omega) (by omega)) c_2
          refine lv_aload_n hx hb dX5_find_113 rfl (lv_at hl 2 rfl) ?_
          refine lv_iconst (v := (2 : Int32)) hx hb dX5_find_114 (by decide) ?_
          refine va_put (D := gD g) (ci := 5) (v := .int (2 : Int32)) (ty := .int) (C := RX5) (T := TX5) (N := 14) hx hb hts inW_X5 tyX5 tyX5_ok nmX5 hown hC.1 hP hD hS 0 rfl rfl 0 (by decide) (hts _ w_733) (fun _ h9 => h9) rfl (by decide +kernel) rfl rfl (Nat.le_of_ble_eq_true rfl) dX5_find_115 (fun H locs hP hD hS => ?_)
          have hP : va_P (gD g) vwCl ([(md, .inr (5, [.int (2 : Int32), .int mF, .int mR, .ref r1, .ref r2, .ref r3, .int (zI mt), .int mk, .int mw, .int mm, .int mb, .int ms, .ref r4, .int my])), (r1, .inl (gJ g, 327680, .inr (.inl ((mX5_build_2 mF mR tb gr fu_1_1).1)))), (r2, .inl (gZ g, 6, .inl (upd (fun _ => (0 : Int32)) (2 : Int32).toNatClampNeg (vp_nar .boolean (1 : Int32))))), (r3, .inl (gI g, 6, .inl ((mX5_build_2 mF mR tb gr fu_1_1).2))), (r4, .inl (gI g, 64, .inl ml))]) H := hP
          have hD : va_D (et_ad ([(md, .inr (5, [.int th, .int mF, .int mR, .ref r1, .ref r2, .ref r3, .int (zI mt), .int mk, .int mw, .int mm, .int mb, .int ms, .ref r4, .int my])), (r1, .inl (gJ g, 327680, .inr (.inl tb))), (r2, .inl (gZ g, 6, .inl (fun _ => (0 : Int32)))), (r3, .inl (gI g, 6, .inl gr)), (r4, .inl (gI g, 64, .inl ml))])) ([(md, .inr (5, [.int (2 : Int32), .int mF, .int mR, .ref r1, .ref r2, .ref r3, .int (zI mt), .int mk, .int mw, .int mm, .int mb, .int ms, .ref r4, .int my])), (r1, .inl (gJ g, 327680, .inr (.inl ((mX5_build_2 mF mR tb gr fu_1_1).1)))), (r2, .inl (gZ g, 6, .inl (upd (fun _ => (0 : Int32)) (2 : Int32).toNatClampNeg (vp_nar .boolean (1 : Int32))))), (r3, .inl (gI g, 6, .inl ((mX5_build_2 mF mR tb gr fu_1_1).2))), (r4, .inl (gI g, 64, .inl ml))]) := hD
          refine lv_iconst (v := (0 : Int32)) hx hb dX5_find_118 (by decide) ?_
          have hfin : ((0 : Int32), (2 : Int32), (mX5_build_2 mF mR tb gr fu_1_1).1, (mX5_build_2 mF mR tb gr fu_1_1).2, upd (fun _ => (0 : Int32)) (2 : Int32).toNatClampNeg (vp_nar .boolean (1 : Int32))) = (mX5_find_2 mF mR tb gr fu_1_1 who nn ix) := (by rw [mX5_find_2_L1] : mX5_find_2_L1 mF mR tb gr fu_1_1 who nn ix 0 i1 left1 = ((0 : Int32), (2 : Int32), (mX5_build_2 mF mR tb gr fu_1_1).1, (mX5_build_2 mF mR tb gr fu_1_1).2, upd (fun _ => (0 : Int32)) (2 : Int32).toNatClampNeg (vp_nar .boolean (1 : Int32)))).symm.trans hm
          exact et_iretW hx hb hr hlocks dX5_find_119 hP hS (by rw [← hfin]) ((by rw [← hfin]))
        | succ k1 ih1 =>
          intro i1 left1 hik hm H locs hP hD hS ls hl
          refine lv_iload hx hb dX5_find_46 (lv_at hl 0 rfl) ?_
          refine lv_ldc hx hb hown (hts _ w_844) dX5_find_48 ?_
          refine lv_icmp_ge (tgt := 113) hx hb dX5_find_50 (by decide) (fun c_3 => ?_) (fun c_3 => ?_)
          · exact absurd c_3 (et_ge (a := i1) (b := 262144) (by omega) (by omega))
          refine lv_iload hx hb dX5_find_53 (lv_at hl 6 rfl) ?_
          refine lv_if_lt (tgt := 113) hx hb dX5_find_55 (by decide) (fun c_4 => ?_) (fun c_4 => ?_)
          ·
            refine lv_aload_n hx hb dX5_find_113 rfl (lv_at hl 2 rfl) ?_
            refine lv_iconst (v := (2 : Int32)) hx hb dX5_find_114 (by decide) ?_
            refine va_put (D := gD g) (ci := 5) (v := .int (2 : Int32)) (ty := .int) (C := RX5) (T := TX5) (N := 14) hx hb hts inW_X5 tyX5 tyX5_ok nmX5 hown hC.1 hP hD hS 0 rfl rfl 0 (by decide) (hts _ w_733) (fun _ h9 => h9) rfl (by decide +kernel) rfl rfl (Nat.le_of_ble_eq_true rfl) dX5_find_115 (fun H locs hP hD hS => ?_)
            have hP : va_P (gD g) vwCl ([(md, .inr (5, [.int (2 : Int32), .int mF, .int mR, .ref r1, .ref r2, .ref r3, .int (zI mt), .int mk, .int mw, .int mm, .int mb, .int ms, .ref r4, .int my])), (r1, .inl (gJ g, 327680, .inr (.inl ((mX5_build_2 mF mR tb gr fu_1_1).1)))), (r2, .inl (gZ g, 6, .inl (upd (fun _ => (0 : Int32)) (2 : Int32).toNatClampNeg (vp_nar .boolean (1 : Int32))))), (r3, .inl (gI g, 6, .inl ((mX5_build_2 mF mR tb gr fu_1_1).2))), (r4, .inl (gI g, 64, .inl ml))]) H := hP
            have hD : va_D (et_ad ([(md, .inr (5, [.int th, .int mF, .int mR, .ref r1, .ref r2, .ref r3, .int (zI mt), .int mk, .int mw, .int mm, .int mb, .int ms, .ref r4, .int my])), (r1, .inl (gJ g, 327680, .inr (.inl tb))), (r2, .inl (gZ g, 6, .inl (fun _ => (0 : Int32)))), (r3, .inl (gI g, 6, .inl gr)), (r4, .inl (gI g, 64, .inl ml))])) ([(md, .inr (5, [.int (2 : Int32), .int mF, .int mR, .ref r1, .ref r2, .ref r3, .int (zI mt), .int mk, .int mw, .int mm, .int mb, .int ms, .ref r4, .int my])), (r1, .inl (gJ g, 327680, .inr (.inl ((mX5_build_2 mF mR tb gr fu_1_1).1)))), (r2, .inl (gZ g, 6, .inl (upd (fun _ => (0 : Int32)) (2 : Int32).toNatClampNeg (vp_nar .boolean (1 : Int32))))), (r3, .inl (gI g, 6, .inl ((mX5_build_2 mF mR tb gr fu_1_1).2))), (r4, .inl (gI g, 64, .inl ml))]) := hD
            refine lv_iconst (v := (0 : Int32)) hx hb dX5_find_118 (by decide) ?_
            have hfin : ((0 : Int32), (2 : Int32), (mX5_build_2 mF mR tb gr fu_1_1).1, (mX5_build_2 mF mR tb gr fu_1_1).2, upd (fun _ => (0 : Int32)) (2 : Int32).toNatClampNeg (vp_nar .boolean (1 : Int32))) = (mX5_find_2 mF mR tb gr fu_1_1 who nn ix) := (by rw [mX5_find_2_L1, if_pos c_4] : mX5_find_2_L1 mF mR tb gr fu_1_1 who nn ix (k1 + 1) i1 left1 = ((0 : Int32), (2 : Int32), (mX5_build_2 mF mR tb gr fu_1_1).1, (mX5_build_2 mF mR tb gr fu_1_1).2, upd (fun _ => (0 : Int32)) (2 : Int32).toNatClampNeg (vp_nar .boolean (1 : Int32)))).symm.trans hm
            exact et_iretW hx hb hr hlocks dX5_find_119 hP hS (by rw [← hfin]) ((by rw [← hfin]))
          ·
            refine lv_aload_n hx hb dX5_find_58 rfl (lv_at hl 2 rfl) ?_
            refine lv_iload_n hx hb dX5_find_59 rfl (lv_at hl 3 rfl) ?_
            refine lv_iload_n hx hb dX5_find_60 rfl (lv_at hl 4 rfl) ?_
            refine lv_iload_n hx hb dX5_find_61 rfl (lv_at hl 5 rfl) ?_
            refine lv_iload hx hb dX5_find_62 (lv_at hl 0 rfl) ?_
            refine et_callP1 (v := .int (zI (mX5_isOne mF mR ((mX5_build_2 mF mR tb gr fu_1_1).1) (2 : Int32) who nn (nI i1)))) (va_runV (As := [.int (2 : Int32), .int who, .int nn, .int (nI i1)]) (rest := []) ⟨hx, hb, hml, hown, hts⟩ (c_X5_isOne l g md r1 r2 r3 r4 mF mR (mX5_find_2_V1 who) ((mX5_build_2 mF mR tb gr fu_1_1).1) (upd (fun _ => (0 : Int32)) (2 : Int32).toNatClampNeg (vp_nar .boolean (1 : Int32))) ((mX5_build_2 mF mR tb gr fu_1_1).2) mt mk mw mm mb ms ml my (2 : Int32) who nn (nI i1) (by assumption) (by assumption) (et_kdl (by decide)) (et_findV_2 (by assumption)) (et_ati (by omega))) (cwV 4 hts (W0_gV w_874 w_876 w_67 w_82 w_877) rfl rfl rfl (by decide +kernel) ⟨Nat.le_of_ble_eq_true rfl, Nat.le_of_ble_eq_true rfl⟩) (et_preV hP hC [0, 1, 2, 3, 4] rfl (ci := 5) (q0 := 0) rfl rfl) rfl rfl hl.1 rfl (lv_room (Nat.le_of_ble_eq_true rfl)) dX5_find_64 ⟨Nat.le_of_ble_eq_true rfl, Nat.le_of_ble_eq_true rfl⟩) ?_
            refine lv_if_eq (tgt := 107) hx hb dX5_find_67 (by decide) (fun c_5 => ?_) (fun c_5 => ?_)
            ·
              refine lv_iinc (v := nI (i1 + 1)) (lv' := [(6, .int (nI (i1 + 1))), (5, .int left1), (0, .ref md), (1, .int (2 : Int32)), (2, .int who), (3, .int nn), (4, .int ix)]) hx hb dX5_find_107 hl (k := 0) rfl (et_inc i1) (by decide) rfl (fun ls hl => ?_)
              refine lv_goto (tgt := 46) hx hb dX5_find_110 (by decide) ?_
              exact ih1 (i1 + 1) left1 (by omega) ((by rw [mX5_find_2_L1, if_neg c_4, if_pos c_5] : mX5_find_2_L1 mF mR tb gr fu_1_1 who nn ix (k1 + 1) i1 left1 = mX5_find_2_L1 mF mR tb gr fu_1_1 who nn ix k1 (i1 + 1) left1).symm.trans hm) _ _ hP hD hS ls (lv_sub hl [0, 1, 2, 3, 4, 5, 6] rfl)
            ·
              refine lv_iload hx hb dX5_find_70 (lv_at hl 1 rfl) ?_
              refine lv_if_ne (tgt := 104) hx hb dX5_find_72 (by decide) (fun c_6 => ?_) (fun c_6 => ?_)
              ·
                refine lv_iinc (v := left1 + (-1 : Int32)) (lv' := [(5, .int (left1 + (-1 : Int32))), (6, .int (nI i1)), (0, .ref md), (1, .int (2 : Int32)), (2, .int who), (3, .int nn), (4, .int ix)]) hx hb dX5_find_104 hl (k := 1) rfl rfl (by decide) rfl (fun ls hl => ?_)
                refine lv_iinc (v := nI (i1 + 1)) (lv' := [(6, .int (nI (i1 + 1))), (5, .int (left1 + (-1 : Int32))), (0, .ref md), (1, .int (2 : Int32)), (2, .int who), (3, .int nn), (4, .int ix)]) hx hb dX5_find_107 hl (k := 1) rfl (et_inc i1) (by decide) rfl (fun ls hl => ?_)
                refine lv_goto (tgt := 46) hx hb dX5_find_110 (by decide) ?_
                exact ih1 (i1 + 1) (left1 + (-1 : Int32)) (by omega) ((by rw [mX5_find_2_L1, if_neg c_4, if_neg c_5, if_neg c_6] : mX5_find_2_L1 mF mR tb gr fu_1_1 who nn ix (k1 + 1) i1 left1 = mX5_find_2_L1 mF mR tb gr fu_1_1 who nn ix k1 (i1 + 1) (left1 + (-1 : Int32))).symm.trans hm) _ _ hP hD hS ls (lv_sub hl [0, 1, 2, 3, 4, 5, 6] rfl)
              ·
                refine lv_iload hx hb dX5_find_75 (lv_at hl 0 rfl) ?_
                refine lv_sipush (v := (4096 : Int32)) hx hb dX5_find_77 (by decide) ?_
                refine lv_idiv hx hb dX5_find_80 (by decide) ?_
                refine lv_bipush (v := (64 : Int32)) hx hb dX5_find_81 (by decide) ?_
                refine lv_iload hx hb dX5_find_83 (lv_at hl 0 rfl) ?_
                refine lv_bipush (v := (64 : Int32)) hx hb dX5_find_85 (by decide) ?_
                refine lv_idiv hx hb dX5_find_87 (by decide) ?_
                refine lv_bipush (v := (64 : Int32)) hx hb dX5_find_88 (by decide) ?_
                refine lv_irem hx hb dX5_find_90 (by decide) ?_
                refine lv_imul hx hb dX5_find_91 ?_
                refine lv_iadd hx hb dX5_find_92 ?_
                refine lv_sipush (v := (4096 : Int32)) hx hb dX5_find_93 (by decide) ?_
                refine lv_iload hx hb dX5_find_96 (lv_at hl 0 rfl) ?_
                refine lv_bipush (v := (64 : Int32)) hx hb dX5_find_98 (by decide) ?_
                refine lv_irem hx hb dX5_find_100 (by decide) ?_
                refine lv_imul hx hb dX5_find_101 ?_
                refine lv_iadd hx hb dX5_find_102 ?_
                have hfin : ((((nI i1) / (4096 : Int32)) + ((64 : Int32) * (((nI i1) / (64 : Int32)) - ((nI i1) / (64 : Int32)) / (64 : Int32) * (64 : Int32)))) + ((4096 : Int32) * ((nI i1) - (nI i1) / (64 : Int32) * (64 : Int32))), (mX5_find_2_V1 who), (mX5_build_2 mF mR tb gr fu_1_1).1, (mX5_build_2 mF mR tb gr fu_1_1).2, upd (fun _ => (0 : Int32)) (2 : Int32).toNatClampNeg (vp_nar .boolean (1 : Int32))) = (mX5_find_2 mF mR tb gr fu_1_1 who nn ix) := (by rw [mX5_find_2_L1, if_neg c_4, if_neg c_5, if_pos c_6] : mX5_find_2_L1 mF mR tb gr fu_1_1 who nn ix (k1 + 1) i1 left1 = ((((nI i1) / (4096 : Int32)) + ((64 : Int32) * (((nI i1) / (64 : Int32)) - ((nI i1) / (64 : Int32)) / (64 : Int32) * (64 : Int32)))) + ((4096 : Int32) * ((nI i1) - (nI i1) / (64 : Int32) * (64 : Int32))), (mX5_find_2_V1 who), (mX5_build_2 mF mR tb gr fu_1_1).1, (mX5_build_2 mF mR tb gr fu_1_1).2, upd (fun _ => (0 : Int32)) (2 : Int32).toNatClampNeg (vp_nar .boolean (1 : Int32)))).symm.trans hm
                exact et_iretW hx hb hr hlocks dX5_find_103 hP hS (by rw [← hfin]) ((by rw [← hfin]))
      exact hL1 262144 0 ix (by omega) (show mX5_find_2_L1 mF mR tb gr fu_1_1 who nn ix 262144 0 ix = (mX5_find_2 mF mR tb gr fu_1_1 who nn ix) from (by rw [mX5_find_2, if_pos c_1])) _ _ hP hD hS ls (lv_sub hl [0, 1, 2, 3, 4, 5, 6] rfl)
    ·
      refine lv_iconst (v := (0 : Int32)) hx hb dX5_find_32 (by decide) ?_
      have hfin : ((0 : Int32), (mX5_find_2_V1 who), tb, gr, (fun _ => (0 : Int32))) = (mX5_find_2 mF mR tb gr fu_1_1 who nn ix) := (by rw [mX5_find_2, if_neg c_1])
      exact et_iretW hx hb hr hlocks dX5_find_33 hP hS (by rw [← hfin]) ((by rw [← hfin]))
  refine lv_iload_n hx hb dX5_find_1 rfl (lv_at hl 1 rfl) ?_
  refine et_callP1 (v := .int (zI (mX5_isKind (2 : Int32)))) (va_runS (As := [.int (2 : Int32)]) (rest := [.ref md]) ⟨hx, hb, hml, hown, hts⟩ (c_X5_isKind l g (2 : Int32)) (va_cwS 1 hts (W0_gS w_789 w_790 w_82 w_791) rfl rfl rfl (by decide +kernel) ⟨Nat.le_of_ble_eq_true rfl, Nat.le_of_ble_eq_true rfl⟩) (et_preS hP hC [] rfl) rfl rfl hl.1 rfl (lv_room (Nat.le_of_ble_eq_true rfl)) dX5_find_2 ⟨Nat.le_of_ble_eq_true rfl, Nat.le_of_ble_eq_true rfl⟩) ?_
  refine lv_if_eq (tgt := 21) hx hb dX5_find_5 (by decide) (fun c_7 => ?_) (fun c_7 => ?_)
  ·
    refine lv_iconst (v := (1 : Int32)) hx hb dX5_find_21 (by decide) ?_
    have he1 : ((1 : Int32) : Int32) = (mX5_find_2_V1 who) := (by rw [mX5_find_2_V1, if_pos c_7])
    exact et_stki he1 (hj1 ls (lv_sub hl [0, 1, 2, 3, 4] rfl))
  ·
    refine lv_iload_n hx hb dX5_find_8 rfl (lv_at hl 2 rfl) ?_
    refine lv_if_lt (tgt := 21) hx hb dX5_find_9 (by decide) (fun c_8 => ?_) (fun c_8 => ?_)
    ·
      refine lv_iconst (v := (1 : Int32)) hx hb dX5_find_21 (by decide) ?_
      have he2 : ((1 : Int32) : Int32) = (mX5_find_2_V1 who) := (by rw [mX5_find_2_V1, if_neg c_7, if_pos c_8])
      exact et_stki he2 (hj1 ls (lv_sub hl [0, 1, 2, 3, 4] rfl))
    ·
      refine lv_iload_n hx hb dX5_find_12 rfl (lv_at hl 2 rfl) ?_
      refine lv_iconst (v := (2 : Int32)) hx hb dX5_find_13 (by decide) ?_
      refine lv_icmp_ge (tgt := 21) hx hb dX5_find_14 (by decide) (fun c_9 => ?_) (fun c_9 => ?_)
      ·
        refine lv_iconst (v := (1 : Int32)) hx hb dX5_find_21 (by decide) ?_
        have he3 : ((1 : Int32) : Int32) = (mX5_find_2_V1 who) := (by rw [mX5_find_2_V1, if_neg c_7, if_neg c_8, if_pos c_9])
        exact et_stki he3 (hj1 ls (lv_sub hl [0, 1, 2, 3, 4] rfl))
      ·
        refine lv_iconst (v := (0 : Int32)) hx hb dX5_find_17 (by decide) ?_
        refine lv_goto (tgt := 22) hx hb dX5_find_18 (by decide) ?_
        have he4 : ((0 : Int32) : Int32) = (mX5_find_2_V1 who) := (by rw [mX5_find_2_V1, if_neg c_7, if_neg c_8, if_neg c_9])
        exact et_stki he4 (hj1 ls (lv_sub hl [0, 1, 2, 3, 4] rfl))

def mX5_longest_2_V1  : Int32 :=
  if (zI (mX5_isKind (2 : Int32))) = 0 then
    (1 : Int32)
  else
    (0 : Int32)
def mX5_longest_2 (mF : Int32) (mR : Int32) (tb : Nat → Int64) (gr : Nat → Int32) (fu_1_1 : Nat) : Int32 × Int32 × (Nat → Int64) × (Nat → Int32) × (Nat → Int32) :=
  if (mX5_longest_2_V1) ≤ 0 then
    (((mX5_build_2 mF mR tb gr fu_1_1).2) (2 : Int32).toNatClampNeg, (mX5_longest_2_V1), (mX5_build_2 mF mR tb gr fu_1_1).1, (mX5_build_2 mF mR tb gr fu_1_1).2, upd (fun _ => (0 : Int32)) (2 : Int32).toNatClampNeg (vp_nar .boolean (1 : Int32)))
  else
    ((0 : Int32), (mX5_longest_2_V1), tb, gr, (fun _ => (0 : Int32)))
set_option maxHeartbeats 4000000 in
set_option maxRecDepth 100000 in
theorem c_X5_longest_2 (l : Launch) (g : et_G) (md : Nat) (r1 : Nat) (r2 : Nat) (r3 : Nat) (r4 : Nat) (mF : Int32) (mR : Int32) (th : Int32) (tb : Nat → Int64) (gr : Nat → Int32) (mt : Bool) (mk : Int32) (mw : Int32) (mm : Int32) (mb : Int32) (ms : Int32) (ml : Nat → Int32) (my : Int32) (fu_1_1 : Nat) (hF : et_b8 mF) (hR : et_b8 mR) (hT_2_2 : mX5_passAll_L1_ok mF mR (2 : Int32) (1 : Int32) fu_1_1 0 (0 : Int32) (0 : Int32) tb (upd gr (2 : Int32).toNatClampNeg (-1 : Int32)) = true) : Met l yX5_longest (Cond.code yX5_longest cX5_longest 2 (some (.int)) :: W0) ({ frames := 7, cells := 0, slots := 0, locals := 185 } : Room) (et_PcW g ([(md, .inr (5, [.int th, .int mF, .int mR, .ref r1, .ref r2, .ref r3, .int (zI mt), .int mk, .int mw, .int mm, .int mb, .int ms, .ref r4, .int my])), (r1, .inl (gJ g, 327680, .inr (.inl tb))), (r2, .inl (gZ g, 6, .inl (fun _ => (0 : Int32)))), (r3, .inl (gI g, 6, .inl gr)), (r4, .inl (gI g, 64, .inl ml))]) [.ref md, .int (2 : Int32)]) (et_QW g ([(md, .inr (5, [.int th, .int mF, .int mR, .ref r1, .ref r2, .ref r3, .int (zI mt), .int mk, .int mw, .int mm, .int mb, .int ms, .ref r4, .int my])), (r1, .inl (gJ g, 327680, .inr (.inl tb))), (r2, .inl (gZ g, 6, .inl (fun _ => (0 : Int32)))), (r3, .inl (gI g, 6, .inl gr)), (r4, .inl (gI g, 64, .inl ml))]) ([(md, .inr (5, [.int ((mX5_longest_2 mF mR tb gr fu_1_1).2.1), .int mF, .int mR, .ref r1, .ref r2, .ref r3, .int (zI mt), .int mk, .int mw, .int mm, .int mb, .int ms, .ref r4, .int my])), (r1, .inl (gJ g, 327680, .inr (.inl ((mX5_longest_2 mF mR tb gr fu_1_1).2.2.1)))), (r2, .inl (gZ g, 6, .inl ((mX5_longest_2 mF mR tb gr fu_1_1).2.2.2.2))), (r3, .inl (gI g, 6, .inl ((mX5_longest_2 mF mR tb gr fu_1_1).2.2.2.1))), (r4, .inl (gI g, 64, .inl ml))]) (some (.int ((mX5_longest_2 mF mR tb gr fu_1_1).1)))) 0 0 (et_ad ([(md, .inr (5, [.int th, .int mF, .int mR, .ref r1, .ref r2, .ref r3, .int (zI mt), .int mk, .int mw, .int mm, .int mb, .int ms, .ref r4, .int my])), (r1, .inl (gJ g, 327680, .inr (.inl tb))), (r2, .inl (gZ g, 6, .inl (fun _ => (0 : Int32)))), (r3, .inl (gI g, 6, .inl gr)), (r4, .inl (gI g, 64, .inl ml))])) := by
  refine et_startW (by decide) rfl (Nat.le_of_ble_eq_true rfl) ?_
  intro p e s m args below meth c hx hb hr hts0 hown hlocks hml hP hC hD hS ls hl
  have hts : ∀ w ∈ W0, w.before args s = true := fun w h => hts0 w (List.mem_cons_of_mem _ h)
  have hown : s.vm.findClass RX5 = some m.cls := hown
  have hl : lv_has ls 2 [(0, .ref md), (1, .int (2 : Int32))] := hl
  refine lv_aload_n hx hb dX5_longest_0 rfl (lv_at hl 0 rfl) ?_
  have hj1 : ∀ ls : Array Slot, lv_has ls 2 [(0, .ref md), (1, .int (2 : Int32))] → W p l e ({ frames := 7, cells := 0, slots := 0, locals := 185 } : Room) s m args below meth c s.heap [] 0 0 (MQ below (et_QW g ([(md, .inr (5, [.int th, .int mF, .int mR, .ref r1, .ref r2, .ref r3, .int (zI mt), .int mk, .int mw, .int mm, .int mb, .int ms, .ref r4, .int my])), (r1, .inl (gJ g, 327680, .inr (.inl tb))), (r2, .inl (gZ g, 6, .inl (fun _ => (0 : Int32)))), (r3, .inl (gI g, 6, .inl gr)), (r4, .inl (gI g, 64, .inl ml))]) ([(md, .inr (5, [.int ((mX5_longest_2 mF mR tb gr fu_1_1).2.1), .int mF, .int mR, .ref r1, .ref r2, .ref r3, .int (zI mt), .int mk, .int mw, .int mm, .int mb, .int ms, .ref r4, .int my])), (r1, .inl (gJ g, 327680, .inr (.inl ((mX5_longest_2 mF mR tb gr fu_1_1).2.2.1)))), (r2, .inl (gZ g, 6, .inl ((mX5_longest_2 mF mR tb gr fu_1_1).2.2.2.2))), (r3, .inl (gI g, 6, .inl ((mX5_longest_2 mF mR tb gr fu_1_1).2.2.2.1))), (r4, .inl (gI g, 64, .inl ml))]) (some (.int ((mX5_longest_2 mF mR tb gr fu_1_1).1)))) args s 0 0 (et_ad ([(md, .inr (5, [.int th, .int mF, .int mR, .ref r1, .ref r2, .ref r3, .int (zI mt), .int mk, .int mw, .int mm, .int mb, .int ms, .ref r4, .int my])), (r1, .inl (gJ g, 327680, .inr (.inl tb))), (r2, .inl (gZ g, 6, .inl (fun _ => (0 : Int32)))), (r3, .inl (gI g, 6, .inl gr)), (r4, .inl (gI g, 64, .inl ml))]))) (F0 m 13 ls [.int (mX5_longest_2_V1), .ref md]) := by
    intro ls hl
    refine va_put (D := gD g) (ci := 5) (v := .int (mX5_longest_2_V1)) (ty := .int) (C := RX5) (T := TX5) (N := 14) hx hb hts inW_X5 tyX5 tyX5_ok nmX5 hown hC.1 hP hD hS 0 rfl rfl 0 (by decide) (hts _ w_733) (fun _ h9 => h9) rfl (by decide +kernel) rfl rfl (Nat.le_of_ble_eq_true rfl) dX5_longest_13 (fun H locs hP hD hS => ?_)
    have hP : va_P (gD g) vwCl ([(md, .inr (5, [.int (mX5_longest_2_V1), .int mF, .int mR, .ref r1, .ref r2, .ref r3, .int (zI mt), .int mk, .int mw, .int mm, .int mb, .int ms, .ref r4, .int my])), (r1, .inl (gJ g, 327680, .inr (.inl tb))), (r2, .inl (gZ g, 6, .inl (fun _ => (0 : Int32)))), (r3, .inl (gI g, 6, .inl gr)), (r4, .inl (gI g, 64, .inl ml))]) H := hP
    have hD : va_D (et_ad ([(md, .inr (5, [.int th, .int mF, .int mR, .ref r1, .ref r2, .ref r3, .int (zI mt), .int mk, .int mw, .int mm, .int mb, .int ms, .ref r4, .int my])), (r1, .inl (gJ g, 327680, .inr (.inl tb))), (r2, .inl (gZ g, 6, .inl (fun _ => (0 : Int32)))), (r3, .inl (gI g, 6, .inl gr)), (r4, .inl (gI g, 64, .inl ml))])) ([(md, .inr (5, [.int (mX5_longest_2_V1), .int mF, .int mR, .ref r1, .ref r2, .ref r3, .int (zI mt), .int mk, .int mw, .int mm, .int mb, .int ms, .ref r4, .int my])), (r1, .inl (gJ g, 327680, .inr (.inl tb))), (r2, .inl (gZ g, 6, .inl (fun _ => (0 : Int32)))), (r3, .inl (gI g, 6, .inl gr)), (r4, .inl (gI g, 64, .inl ml))]) := hD
    refine lv_aload_n hx hb dX5_longest_16 rfl (lv_at hl 0 rfl) ?_
    refine va_get (D := gD g) (ci := 5) (v := .int (mX5_longest_2_V1)) (C := RX5) (T := TX5) (N := 14) hx hb hts inW_X5 hown hC.1 hP 0 rfl rfl 0 (by decide) (hts _ w_733) (fun _ h9 => h9) rfl dX5_longest_17 ?_
    refine lv_if_le (tgt := 25) hx hb dX5_longest_20 (by decide) (fun c_1 => ?_) (fun c_1 => ?_)
    ·
      refine lv_aload_n hx hb dX5_longest_25 rfl (lv_at hl 0 rfl) ?_
      refine lv_iload_n hx hb dX5_longest_26 rfl (lv_at hl 1 rfl) ?_
      refine et_callW0 (ws' := [(md, .inr (5, [.int (mX5_longest_2_V1), .int mF, .int mR, .ref r1, .ref r2, .ref r3, .int (zI mt), .int mk, .int mw, .int mm, .int mb, .int ms, .ref r4, .int my])), (r1, .inl (gJ g, 327680, .inr (.inl ((mX5_build_2 mF mR tb gr fu_1_1).1)))), (r2, .inl (gZ g, 6, .inl (upd (fun _ => (0 : Int32)) (2 : Int32).toNatClampNeg (vp_nar .boolean (1 : Int32))))), (r3, .inl (gI g, 6, .inl ((mX5_build_2 mF mR tb gr fu_1_1).2))), (r4, .inl (gI g, 64, .inl ml))]) (va_runV (As := [.int (2 : Int32)]) (rest := []) ⟨hx, hb, hml, hown, hts⟩ (c_X5_build_2 l g md r1 r2 r3 r4 mF mR (mX5_longest_2_V1) tb gr mt mk mw mm mb ms ml my fu_1_1 (by assumption) (by assumption) hT_2_2) (cwV 1 hts (W0_gV w_821 w_823 w_56 w_82 w_824) rfl rfl rfl (by decide +kernel) ⟨Nat.le_of_ble_eq_true rfl, Nat.le_of_ble_eq_true rfl⟩) (et_preVW hP hC hD [0, 1, 2, 3, 4] (by decide) rfl (ci := 5) (q0 := 0) rfl rfl) rfl rfl hl.1 rfl (lv_room (Nat.le_of_ble_eq_true rfl)) dX5_longest_27 ⟨Nat.le_of_ble_eq_true rfl, Nat.le_of_ble_eq_true rfl⟩) hP hD hS [0, 1, 2, 3, 4] [] 5 rfl [md, r1, r2, r3, r4] rfl rfl rfl [] rfl rfl rfl (by decide +kernel) (fun H locs hP hD hS => ?_)
      refine lv_aload_n hx hb dX5_longest_30 rfl (lv_at hl 0 rfl) ?_
      refine va_get (D := gD g) (ci := 5) (v := .ref r3) (C := RX5) (T := TX5) (N := 14) hx hb hts inW_X5 hown hC.1 hP 0 rfl rfl 5 (by decide) (hts _ w_738) (fun _ h9 => h9) rfl dX5_longest_31 ?_
      refine lv_iload_n hx hb dX5_longest_34 rfl (lv_at hl 1 rfl) ?_
      refine va_iald (D := gD g) hx hb hC.1 hP 3 0 rfl rfl (et_kd_in (et_kdl (by decide))) dX5_longest_35 ?_
      have hfin : (((mX5_build_2 mF mR tb gr fu_1_1).2) (2 : Int32).toNatClampNeg, (mX5_longest_2_V1), (mX5_build_2 mF mR tb gr fu_1_1).1, (mX5_build_2 mF mR tb gr fu_1_1).2, upd (fun _ => (0 : Int32)) (2 : Int32).toNatClampNeg (vp_nar .boolean (1 : Int32))) = (mX5_longest_2 mF mR tb gr fu_1_1) := (by rw [mX5_longest_2, if_pos c_1])
      exact et_iretW hx hb hr hlocks dX5_longest_36 hP hS (by rw [← hfin]) ((by rw [← hfin]))
    ·
      refine lv_iconst (v := (0 : Int32)) hx hb dX5_longest_23 (by decide) ?_
      have hfin : ((0 : Int32), (mX5_longest_2_V1), tb, gr, (fun _ => (0 : Int32))) = (mX5_longest_2 mF mR tb gr fu_1_1) := (by rw [mX5_longest_2, if_neg c_1])
      exact et_iretW hx hb hr hlocks dX5_longest_24 hP hS (by rw [← hfin]) ((by rw [← hfin]))
  refine lv_iload_n hx hb dX5_longest_1 rfl (lv_at hl 1 rfl) ?_
  refine et_callP1 (v := .int (zI (mX5_isKind (2 : Int32)))) (va_runS (As := [.int (2 : Int32)]) (rest := [.ref md]) ⟨hx, hb, hml, hown, hts⟩ (c_X5_isKind l g (2 : Int32)) (va_cwS 1 hts (W0_gS w_789 w_790 w_82 w_791) rfl rfl rfl (by decide +kernel) ⟨Nat.le_of_ble_eq_true rfl, Nat.le_of_ble_eq_true rfl⟩) (et_preS hP hC [] rfl) rfl rfl hl.1 rfl (lv_room (Nat.le_of_ble_eq_true rfl)) dX5_longest_2 ⟨Nat.le_of_ble_eq_true rfl, Nat.le_of_ble_eq_true rfl⟩) ?_
  refine lv_if_eq (tgt := 12) hx hb dX5_longest_5 (by decide) (fun c_2 => ?_) (fun c_2 => ?_)
  ·
    refine lv_iconst (v := (1 : Int32)) hx hb dX5_longest_12 (by decide) ?_
    have he1 : ((1 : Int32) : Int32) = (mX5_longest_2_V1) := (by rw [mX5_longest_2_V1, if_pos c_2])
    exact et_stki he1 (hj1 ls (lv_sub hl [0, 1] rfl))
  ·
    refine lv_iconst (v := (0 : Int32)) hx hb dX5_longest_8 (by decide) ?_
    refine lv_goto (tgt := 13) hx hb dX5_longest_9 (by decide) ?_
    have he2 : ((0 : Int32) : Int32) = (mX5_longest_2_V1) := (by rw [mX5_longest_2_V1, if_neg c_2])
    exact et_stki he2 (hj1 ls (lv_sub hl [0, 1] rfl))

def mX5_distance_3_V1 (mF : Int32) (mR : Int32) (ww : Int32) (wm : Int32) (wb : Int32) (who : Int32) : Int32 :=
  if (zI (mX5_isKind (3 : Int32))) = 0 then
    (1 : Int32)
  else
    if (zI (mX5_isPosition mF mR (3 : Int32) ww wm wb who)) = 0 then
      (1 : Int32)
    else
      (0 : Int32)
def mX5_distance_3 (mF : Int32) (mR : Int32) (tb : Nat → Int64) (gr : Nat → Int32) (fu_1_1_1 : Nat) (ww : Int32) (wm : Int32) (wb : Int32) (who : Int32) : Int32 × Int32 × (Nat → Int64) × (Nat → Int32) × (Nat → Int32) :=
  if (mX5_distance_3_V1 mF mR ww wm wb who) ≤ 0 then
    ((mX5_distanceOf_3 mF mR tb gr fu_1_1_1 ww wm wb who).1, (mX5_distance_3_V1 mF mR ww wm wb who), (mX5_distanceOf_3 mF mR tb gr fu_1_1_1 ww wm wb who).2.1, (mX5_distanceOf_3 mF mR tb gr fu_1_1_1 ww wm wb who).2.2, upd (fun _ => (0 : Int32)) (3 : Int32).toNatClampNeg (vp_nar .boolean (1 : Int32)))
  else
    ((0 : Int32), (mX5_distance_3_V1 mF mR ww wm wb who), tb, gr, (fun _ => (0 : Int32)))
theorem et_distV_3 {mF mR ww wm wb who : Int32} (h : mX5_distance_3_V1 mF mR ww wm wb who ≤ 0) : et_sd who ∧ et_r64 ww ∧ et_r64 wm ∧ et_r64 wb := by
  refine et_posr (mF := mF) (mR := mR) (kd := (3 : Int32)) (by decide) (fun h1 => ?_)
  unfold mX5_distance_3_V1 at h
  rw [if_neg (show ¬ zI (mX5_isKind (3 : Int32)) = 0 by decide), if_pos h1] at h
  exact absurd h (by decide)
set_option maxHeartbeats 4000000 in
set_option maxRecDepth 100000 in
theorem c_X5_distance_3 (l : Launch) (g : et_G) (md : Nat) (r1 : Nat) (r2 : Nat) (r3 : Nat) (r4 : Nat) (mF : Int32) (mR : Int32) (th : Int32) (tb : Nat → Int64) (gr : Nat → Int32) (mt : Bool) (mk : Int32) (mw : Int32) (mm : Int32) (mb : Int32) (ms : Int32) (ml : Nat → Int32) (my : Int32) (fu_1_1_1 : Nat) (ww : Int32) (wm : Int32) (wb : Int32) (who : Int32) (hF : et_b8 mF) (hR : et_b8 mR) (hT_2_2_2 : mX5_passAll_L1_ok mF mR (3 : Int32) (1 : Int32) fu_1_1_1 0 (0 : Int32) (0 : Int32) tb (upd gr (3 : Int32).toNatClampNeg (-1 : Int32)) = true) : Met l yX5_distance (Cond.code yX5_distance cX5_distance 6 (some (.int)) :: W0) ({ frames := 8, cells := 0, slots := 0, locals := 210 } : Room) (et_PcW g ([(md, .inr (5, [.int th, .int mF, .int mR, .ref r1, .ref r2, .ref r3, .int (zI mt), .int mk, .int mw, .int mm, .int mb, .int ms, .ref r4, .int my])), (r1, .inl (gJ g, 327680, .inr (.inl tb))), (r2, .inl (gZ g, 6, .inl (fun _ => (0 : Int32)))), (r3, .inl (gI g, 6, .inl gr)), (r4, .inl (gI g, 64, .inl ml))]) [.ref md, .int (3 : Int32), .int ww, .int wm, .int wb, .int who]) (et_QW g ([(md, .inr (5, [.int th, .int mF, .int mR, .ref r1, .ref r2, .ref r3, .int (zI mt), .int mk, .int mw, .int mm, .int mb, .int ms, .ref r4, .int my])), (r1, .inl (gJ g, 327680, .inr (.inl tb))), (r2, .inl (gZ g, 6, .inl (fun _ => (0 : Int32)))), (r3, .inl (gI g, 6, .inl gr)), (r4, .inl (gI g, 64, .inl ml))]) ([(md, .inr (5, [.int ((mX5_distance_3 mF mR tb gr fu_1_1_1 ww wm wb who).2.1), .int mF, .int mR, .ref r1, .ref r2, .ref r3, .int (zI mt), .int mk, .int mw, .int mm, .int mb, .int ms, .ref r4, .int my])), (r1, .inl (gJ g, 327680, .inr (.inl ((mX5_distance_3 mF mR tb gr fu_1_1_1 ww wm wb who).2.2.1)))), (r2, .inl (gZ g, 6, .inl ((mX5_distance_3 mF mR tb gr fu_1_1_1 ww wm wb who).2.2.2.2))), (r3, .inl (gI g, 6, .inl ((mX5_distance_3 mF mR tb gr fu_1_1_1 ww wm wb who).2.2.2.1))), (r4, .inl (gI g, 64, .inl ml))]) (some (.int ((mX5_distance_3 mF mR tb gr fu_1_1_1 ww wm wb who).1)))) 0 0 (et_ad ([(md, .inr (5, [.int th, .int mF, .int mR, .ref r1, .ref r2, .ref r3, .int (zI mt), .int mk, .int mw, .int mm, .int mb, .int ms, .ref r4, .int my])), (r1, .inl (gJ g, 327680, .inr (.inl tb))), (r2, .inl (gZ g, 6, .inl (fun _ => (0 : Int32)))), (r3, .inl (gI g, 6, .inl gr)), (r4, .inl (gI g, 64, .inl ml))])) := by
  refine et_startW (by decide) rfl (Nat.le_of_ble_eq_true rfl) ?_
  intro p e s m args below meth c hx hb hr hts0 hown hlocks hml hP hC hD hS ls hl
  have hts : ∀ w ∈ W0, w.before args s = true := fun w h => hts0 w (List.mem_cons_of_mem _ h)
  have hown : s.vm.findClass RX5 = some m.cls := hown
  have hl : lv_has ls 6 [(0, .ref md), (1, .int (3 : Int32)), (2, .int ww), (3, .int wm), (4, .int wb), (5, .int who)] := hl
  refine lv_aload_n hx hb dX5_distance_0 rfl (lv_at hl 0 rfl) ?_
  have hj1 : ∀ ls : Array Slot, lv_has ls 6 [(0, .ref md), (1, .int (3 : Int32)), (2, .int ww), (3, .int wm), (4, .int wb), (5, .int who)] → W p l e ({ frames := 8, cells := 0, slots := 0, locals := 210 } : Room) s m args below meth c s.heap [] 0 0 (MQ below (et_QW g ([(md, .inr (5, [.int th, .int mF, .int mR, .ref r1, .ref r2, .ref r3, .int (zI mt), .int mk, .int mw, .int mm, .int mb, .int ms, .ref r4, .int my])), (r1, .inl (gJ g, 327680, .inr (.inl tb))), (r2, .inl (gZ g, 6, .inl (fun _ => (0 : Int32)))), (r3, .inl (gI g, 6, .inl gr)), (r4, .inl (gI g, 64, .inl ml))]) ([(md, .inr (5, [.int ((mX5_distance_3 mF mR tb gr fu_1_1_1 ww wm wb who).2.1), .int mF, .int mR, .ref r1, .ref r2, .ref r3, .int (zI mt), .int mk, .int mw, .int mm, .int mb, .int ms, .ref r4, .int my])), (r1, .inl (gJ g, 327680, .inr (.inl ((mX5_distance_3 mF mR tb gr fu_1_1_1 ww wm wb who).2.2.1)))), (r2, .inl (gZ g, 6, .inl ((mX5_distance_3 mF mR tb gr fu_1_1_1 ww wm wb who).2.2.2.2))), (r3, .inl (gI g, 6, .inl ((mX5_distance_3 mF mR tb gr fu_1_1_1 ww wm wb who).2.2.2.1))), (r4, .inl (gI g, 64, .inl ml))]) (some (.int ((mX5_distance_3 mF mR tb gr fu_1_1_1 ww wm wb who).1)))) args s 0 0 (et_ad ([(md, .inr (5, [.int th, .int mF, .int mR, .ref r1, .ref r2, .ref r3, .int (zI mt), .int mk, .int mw, .int mm, .int mb, .int ms, .ref r4, .int my])), (r1, .inl (gJ g, 327680, .inr (.inl tb))), (r2, .inl (gZ g, 6, .inl (fun _ => (0 : Int32)))), (r3, .inl (gI g, 6, .inl gr)), (r4, .inl (gI g, 64, .inl ml))]))) (F0 m 27 ls [.int (mX5_distance_3_V1 mF mR ww wm wb who), .ref md]) := by
    intro ls hl
    refine va_put (D := gD g) (ci := 5) (v := .int (mX5_distance_3_V1 mF mR ww wm wb who)) (ty := .int) (C := RX5) (T := TX5) (N := 14) hx hb hts inW_X5 tyX5 tyX5_ok nmX5 hown hC.1 hP hD hS 0 rfl rfl 0 (by decide) (hts _ w_733) (fun _ h9 => h9) rfl (by decide +kernel) rfl rfl (Nat.le_of_ble_eq_true rfl) dX5_distance_27 (fun H locs hP hD hS => ?_)
    have hP : va_P (gD g) vwCl ([(md, .inr (5, [.int (mX5_distance_3_V1 mF mR ww wm wb who), .int mF, .int mR, .ref r1, .ref r2, .ref r3, .int (zI mt), .int mk, .int mw, .int mm, .int mb, .int ms, .ref r4, .int my])), (r1, .inl (gJ g, 327680, .inr (.inl tb))), (r2, .inl (gZ g, 6, .inl (fun _ => (0 : Int32)))), (r3, .inl (gI g, 6, .inl gr)), (r4, .inl (gI g, 64, .inl ml))]) H := hP
    have hD : va_D (et_ad ([(md, .inr (5, [.int th, .int mF, .int mR, .ref r1, .ref r2, .ref r3, .int (zI mt), .int mk, .int mw, .int mm, .int mb, .int ms, .ref r4, .int my])), (r1, .inl (gJ g, 327680, .inr (.inl tb))), (r2, .inl (gZ g, 6, .inl (fun _ => (0 : Int32)))), (r3, .inl (gI g, 6, .inl gr)), (r4, .inl (gI g, 64, .inl ml))])) ([(md, .inr (5, [.int (mX5_distance_3_V1 mF mR ww wm wb who), .int mF, .int mR, .ref r1, .ref r2, .ref r3, .int (zI mt), .int mk, .int mw, .int mm, .int mb, .int ms, .ref r4, .int my])), (r1, .inl (gJ g, 327680, .inr (.inl tb))), (r2, .inl (gZ g, 6, .inl (fun _ => (0 : Int32)))), (r3, .inl (gI g, 6, .inl gr)), (r4, .inl (gI g, 64, .inl ml))]) := hD
    refine lv_aload_n hx hb dX5_distance_30 rfl (lv_at hl 0 rfl) ?_
    refine va_get (D := gD g) (ci := 5) (v := .int (mX5_distance_3_V1 mF mR ww wm wb who)) (C := RX5) (T := TX5) (N := 14) hx hb hts inW_X5 hown hC.1 hP 0 rfl rfl 0 (by decide) (hts _ w_733) (fun _ h9 => h9) rfl dX5_distance_31 ?_
    refine lv_if_le (tgt := 41) hx hb dX5_distance_34 (by decide) (fun c_1 => ?_) (fun c_1 => ?_)
    ·
      refine lv_aload_n hx hb dX5_distance_41 rfl (lv_at hl 0 rfl) ?_
      refine lv_iload_n hx hb dX5_distance_42 rfl (lv_at hl 1 rfl) ?_
      refine lv_iload_n hx hb dX5_distance_43 rfl (lv_at hl 2 rfl) ?_
      refine lv_iload_n hx hb dX5_distance_44 rfl (lv_at hl 3 rfl) ?_
      refine lv_iload hx hb dX5_distance_45 (lv_at hl 4 rfl) ?_
      refine lv_iload hx hb dX5_distance_47 (lv_at hl 5 rfl) ?_
      refine et_callW1 (v := .int ((mX5_distanceOf_3 mF mR tb gr fu_1_1_1 ww wm wb who).1)) (ws' := [(md, .inr (5, [.int (mX5_distance_3_V1 mF mR ww wm wb who), .int mF, .int mR, .ref r1, .ref r2, .ref r3, .int (zI mt), .int mk, .int mw, .int mm, .int mb, .int ms, .ref r4, .int my])), (r1, .inl (gJ g, 327680, .inr (.inl ((mX5_distanceOf_3 mF mR tb gr fu_1_1_1 ww wm wb who).2.1)))), (r2, .inl (gZ g, 6, .inl (upd (fun _ => (0 : Int32)) (3 : Int32).toNatClampNeg (vp_nar .boolean (1 : Int32))))), (r3, .inl (gI g, 6, .inl ((mX5_distanceOf_3 mF mR tb gr fu_1_1_1 ww wm wb who).2.2))), (r4, .inl (gI g, 64, .inl ml))]) (va_runV (As := [.int (3 : Int32), .int ww, .int wm, .int wb, .int who]) (rest := []) ⟨hx, hb, hml, hown, hts⟩ (c_X5_distanceOf_3 l g md r1 r2 r3 r4 mF mR (mX5_distance_3_V1 mF mR ww wm wb who) tb gr mt mk mw mm mb ms ml my fu_1_1_1 ww wm wb who (by assumption) (by assumption) (et_distV_3 (by assumption)).1 (et_distV_3 (by assumption)).2.1 (et_distV_3 (by assumption)).2.2.1 (et_distV_3 (by assumption)).2.2.2 hT_2_2_2) (cwV 5 hts (W0_gV w_817 w_819 w_55 w_82 w_820) rfl rfl rfl (by decide +kernel) ⟨Nat.le_of_ble_eq_true rfl, Nat.le_of_ble_eq_true rfl⟩) (et_preVW hP hC hD [0, 1, 2, 3, 4] (by decide) rfl (ci := 5) (q0 := 0) rfl rfl) rfl rfl hl.1 rfl (lv_room (Nat.le_of_ble_eq_true rfl)) dX5_distance_49 ⟨Nat.le_of_ble_eq_true rfl, Nat.le_of_ble_eq_true rfl⟩) hP hD hS [0, 1, 2, 3, 4] [] 5 rfl [md, r1, r2, r3, r4] rfl rfl rfl [] rfl rfl rfl (by decide +kernel) (fun H locs hP hD hS => ?_)
      have hfin : ((mX5_distanceOf_3 mF mR tb gr fu_1_1_1 ww wm wb who).1, (mX5_distance_3_V1 mF mR ww wm wb who), (mX5_distanceOf_3 mF mR tb gr fu_1_1_1 ww wm wb who).2.1, (mX5_distanceOf_3 mF mR tb gr fu_1_1_1 ww wm wb who).2.2, upd (fun _ => (0 : Int32)) (3 : Int32).toNatClampNeg (vp_nar .boolean (1 : Int32))) = (mX5_distance_3 mF mR tb gr fu_1_1_1 ww wm wb who) := (by rw [mX5_distance_3, if_pos c_1])
      exact et_iretW hx hb hr hlocks dX5_distance_52 hP hS (by rw [← hfin]) ((by rw [← hfin]))
    ·
      refine lv_iconst (v := (0 : Int32)) hx hb dX5_distance_37 (by decide) ?_
      refine lv_goto (tgt := 52) hx hb dX5_distance_38 (by decide) ?_
      have hfin : ((0 : Int32), (mX5_distance_3_V1 mF mR ww wm wb who), tb, gr, (fun _ => (0 : Int32))) = (mX5_distance_3 mF mR tb gr fu_1_1_1 ww wm wb who) := (by rw [mX5_distance_3, if_neg c_1])
      exact et_iretW hx hb hr hlocks dX5_distance_52 hP hS (by rw [← hfin]) ((by rw [← hfin]))
  refine lv_iload_n hx hb dX5_distance_1 rfl (lv_at hl 1 rfl) ?_
  refine et_callP1 (v := .int (zI (mX5_isKind (3 : Int32)))) (va_runS (As := [.int (3 : Int32)]) (rest := [.ref md]) ⟨hx, hb, hml, hown, hts⟩ (c_X5_isKind l g (3 : Int32)) (va_cwS 1 hts (W0_gS w_789 w_790 w_82 w_791) rfl rfl rfl (by decide +kernel) ⟨Nat.le_of_ble_eq_true rfl, Nat.le_of_ble_eq_true rfl⟩) (et_preS hP hC [] rfl) rfl rfl hl.1 rfl (lv_room (Nat.le_of_ble_eq_true rfl)) dX5_distance_2 ⟨Nat.le_of_ble_eq_true rfl, Nat.le_of_ble_eq_true rfl⟩) ?_
  refine lv_if_eq (tgt := 26) hx hb dX5_distance_5 (by decide) (fun c_2 => ?_) (fun c_2 => ?_)
  ·
    refine lv_iconst (v := (1 : Int32)) hx hb dX5_distance_26 (by decide) ?_
    have he1 : ((1 : Int32) : Int32) = (mX5_distance_3_V1 mF mR ww wm wb who) := (by rw [mX5_distance_3_V1, if_pos c_2])
    exact et_stki he1 (hj1 ls (lv_sub hl [0, 1, 2, 3, 4, 5] rfl))
  ·
    refine lv_aload_n hx hb dX5_distance_8 rfl (lv_at hl 0 rfl) ?_
    refine lv_iload_n hx hb dX5_distance_9 rfl (lv_at hl 1 rfl) ?_
    refine lv_iload_n hx hb dX5_distance_10 rfl (lv_at hl 2 rfl) ?_
    refine lv_iload_n hx hb dX5_distance_11 rfl (lv_at hl 3 rfl) ?_
    refine lv_iload hx hb dX5_distance_12 (lv_at hl 4 rfl) ?_
    refine lv_iload hx hb dX5_distance_14 (lv_at hl 5 rfl) ?_
    refine et_callP1 (v := .int (zI (mX5_isPosition mF mR (3 : Int32) ww wm wb who))) (va_runV (As := [.int (3 : Int32), .int ww, .int wm, .int wb, .int who]) (rest := [.ref md]) ⟨hx, hb, hml, hown, hts⟩ (c_X5_isPosition l g md r1 r2 r3 r4 mF mR th tb (fun _ => (0 : Int32)) gr mt mk mw mm mb ms ml my (3 : Int32) ww wm wb who (by assumption) (by assumption)) (cwV 5 hts (W0_gV w_792 w_794 w_51 w_82 w_795) rfl rfl rfl (by decide +kernel) ⟨Nat.le_of_ble_eq_true rfl, Nat.le_of_ble_eq_true rfl⟩) (et_preV hP hC [0, 1, 2, 3, 4] rfl (ci := 5) (q0 := 0) rfl rfl) rfl rfl hl.1 rfl (lv_room (Nat.le_of_ble_eq_true rfl)) dX5_distance_16 ⟨Nat.le_of_ble_eq_true rfl, Nat.le_of_ble_eq_true rfl⟩) ?_
    refine lv_if_eq (tgt := 26) hx hb dX5_distance_19 (by decide) (fun c_3 => ?_) (fun c_3 => ?_)
    ·
      refine lv_iconst (v := (1 : Int32)) hx hb dX5_distance_26 (by decide) ?_
      have he2 : ((1 : Int32) : Int32) = (mX5_distance_3_V1 mF mR ww wm wb who) := (by rw [mX5_distance_3_V1, if_neg c_2, if_pos c_3])
      exact et_stki he2 (hj1 ls (lv_sub hl [0, 1, 2, 3, 4, 5] rfl))
    ·
      refine lv_iconst (v := (0 : Int32)) hx hb dX5_distance_22 (by decide) ?_
      refine lv_goto (tgt := 27) hx hb dX5_distance_23 (by decide) ?_
      have he3 : ((0 : Int32) : Int32) = (mX5_distance_3_V1 mF mR ww wm wb who) := (by rw [mX5_distance_3_V1, if_neg c_2, if_neg c_3])
      exact et_stki he3 (hj1 ls (lv_sub hl [0, 1, 2, 3, 4, 5] rfl))

def mX5_count_3_V2 (mF : Int32) (mR : Int32) (tb : Nat → Int64) (gr : Nat → Int32) (fu_1_1 : Nat) (who : Int32) (nn : Int32) (i1 : Nat) (sum1 : Int32) : Int32 :=
  if (zI (mX5_isOne mF mR ((mX5_build_3 mF mR tb gr fu_1_1).1) (3 : Int32) who nn (nI i1))) = 0 then
    sum1
  else
    sum1 + (1 : Int32)
def mX5_count_3_L1 (mF : Int32) (mR : Int32) (tb : Nat → Int64) (gr : Nat → Int32) (fu_1_1 : Nat) (who : Int32) (nn : Int32) : Nat → Nat → Int32 → Int32
  | 0, i1, sum1 =>
    sum1
  | k1 + 1, i1, sum1 =>
    mX5_count_3_L1 mF mR tb gr fu_1_1 who nn k1 (i1 + 1) (mX5_count_3_V2 mF mR tb gr fu_1_1 who nn i1 sum1)
def mX5_count_3_V1 (who : Int32) : Int32 :=
  if (zI (mX5_isKind (3 : Int32))) = 0 then
    (1 : Int32)
  else
    if who < 0 then
      (1 : Int32)
    else
      if (2 : Int32) ≤ who then
        (1 : Int32)
      else
        (0 : Int32)
def mX5_count_3 (mF : Int32) (mR : Int32) (tb : Nat → Int64) (gr : Nat → Int32) (fu_1_1 : Nat) (who : Int32) (nn : Int32) : Int32 × Int32 × (Nat → Int64) × (Nat → Int32) × (Nat → Int32) :=
  if (mX5_count_3_V1 who) ≤ 0 then
    ((mX5_count_3_L1 mF mR tb gr fu_1_1 who nn 262144 0 (0 : Int32)), (mX5_count_3_V1 who), (mX5_build_3 mF mR tb gr fu_1_1).1, (mX5_build_3 mF mR tb gr fu_1_1).2, upd (fun _ => (0 : Int32)) (3 : Int32).toNatClampNeg (vp_nar .boolean (1 : Int32)))
  else
    ((0 : Int32), (mX5_count_3_V1 who), tb, gr, (fun _ => (0 : Int32)))
theorem et_cntV_3 {who : Int32} (h : mX5_count_3_V1 who ≤ 0) : et_sd who := by
  unfold mX5_count_3_V1 at h
  rw [if_neg (show ¬ zI (mX5_isKind (3 : Int32)) = 0 by decide)] at h
  rcases pk_ix who (n := 2) (by omega) with h1 | h1 | ⟨j, hj, rfl⟩
  · rw [if_pos h1] at h
    exact absurd h (by decide)
  · rw [if_neg (show ¬ who < 0 from fun h2 => absurd (Int32.le_trans h1 (Int32.le_of_lt h2)) (by decide)), if_pos (show (2 : Int32) ≤ who from h1)] at h
    exact absurd h (by decide)
  · rcases (show j = 0 ∨ j = 1 by omega) with rfl | rfl
    · exact Or.inl rfl
    · exact Or.inr rfl
set_option maxHeartbeats 4000000 in
set_option maxRecDepth 100000 in
theorem c_X5_count_3 (l : Launch) (g : et_G) (md : Nat) (r1 : Nat) (r2 : Nat) (r3 : Nat) (r4 : Nat) (mF : Int32) (mR : Int32) (th : Int32) (tb : Nat → Int64) (gr : Nat → Int32) (mt : Bool) (mk : Int32) (mw : Int32) (mm : Int32) (mb : Int32) (ms : Int32) (ml : Nat → Int32) (my : Int32) (fu_1_1 : Nat) (who : Int32) (nn : Int32) (hF : et_b8 mF) (hR : et_b8 mR) (hT_2_2 : mX5_passAll_L1_ok mF mR (3 : Int32) (1 : Int32) fu_1_1 0 (0 : Int32) (0 : Int32) tb (upd gr (3 : Int32).toNatClampNeg (-1 : Int32)) = true) : Met l yX5_count (Cond.code yX5_count cX5_count 6 (some (.int)) :: W0) ({ frames := 7, cells := 0, slots := 0, locals := 185 } : Room) (et_PcW g ([(md, .inr (5, [.int th, .int mF, .int mR, .ref r1, .ref r2, .ref r3, .int (zI mt), .int mk, .int mw, .int mm, .int mb, .int ms, .ref r4, .int my])), (r1, .inl (gJ g, 327680, .inr (.inl tb))), (r2, .inl (gZ g, 6, .inl (fun _ => (0 : Int32)))), (r3, .inl (gI g, 6, .inl gr)), (r4, .inl (gI g, 64, .inl ml))]) [.ref md, .int (3 : Int32), .int who, .int nn]) (et_QW g ([(md, .inr (5, [.int th, .int mF, .int mR, .ref r1, .ref r2, .ref r3, .int (zI mt), .int mk, .int mw, .int mm, .int mb, .int ms, .ref r4, .int my])), (r1, .inl (gJ g, 327680, .inr (.inl tb))), (r2, .inl (gZ g, 6, .inl (fun _ => (0 : Int32)))), (r3, .inl (gI g, 6, .inl gr)), (r4, .inl (gI g, 64, .inl ml))]) ([(md, .inr (5, [.int ((mX5_count_3 mF mR tb gr fu_1_1 who nn).2.1), .int mF, .int mR, .ref r1, .ref r2, .ref r3, .int (zI mt), .int mk, .int mw, .int mm, .int mb, .int ms, .ref r4, .int my])), (r1, .inl (gJ g, 327680, .inr (.inl ((mX5_count_3 mF mR tb gr fu_1_1 who nn).2.2.1)))), (r2, .inl (gZ g, 6, .inl ((mX5_count_3 mF mR tb gr fu_1_1 who nn).2.2.2.2))), (r3, .inl (gI g, 6, .inl ((mX5_count_3 mF mR tb gr fu_1_1 who nn).2.2.2.1))), (r4, .inl (gI g, 64, .inl ml))]) (some (.int ((mX5_count_3 mF mR tb gr fu_1_1 who nn).1)))) 0 0 (et_ad ([(md, .inr (5, [.int th, .int mF, .int mR, .ref r1, .ref r2, .ref r3, .int (zI mt), .int mk, .int mw, .int mm, .int mb, .int ms, .ref r4, .int my])), (r1, .inl (gJ g, 327680, .inr (.inl tb))), (r2, .inl (gZ g, 6, .inl (fun _ => (0 : Int32)))), (r3, .inl (gI g, 6, .inl gr)), (r4, .inl (gI g, 64, .inl ml))])) := by
  refine et_startW (by decide) rfl (Nat.le_of_ble_eq_true rfl) ?_
  intro p e s m args below meth c hx hb hr hts0 hown hlocks hml hP hC hD hS ls hl
  have hts : ∀ w ∈ W0, w.before args s = true := fun w h => hts0 w (List.mem_cons_of_mem _ h)
  have hown : s.vm.findClass RX5 = some m.cls := hown
  have hl : lv_has ls 6 [(0, .ref md), (1, .int (3 : Int32)), (2, .int who), (3, .int nn)] := hl
  refine lv_aload_n hx hb dX5_count_0 rfl (lv_at hl 0 rfl) ?_
  have hj1 : ∀ ls : Array Slot, lv_has ls 6 [(0, .ref md), (1, .int (3 : Int32)), (2, .int who), (3, .int nn)] → W p l e ({ frames := 7, cells := 0, slots := 0, locals := 185 } : Room) s m args below meth c s.heap [] 0 0 (MQ below (et_QW g ([(md, .inr (5, [.int th, .int mF, .int mR, .ref r1, .ref r2, .ref r3, .int (zI mt), .int mk, .int mw, .int mm, .int mb, .int ms, .ref r4, .int my])), (r1, .inl (gJ g, 327680, .inr (.inl tb))), (r2, .inl (gZ g, 6, .inl (fun _ => (0 : Int32)))), (r3, .inl (gI g, 6, .inl gr)), (r4, .inl (gI g, 64, .inl ml))]) ([(md, .inr (5, [.int ((mX5_count_3 mF mR tb gr fu_1_1 who nn).2.1), .int mF, .int mR, .ref r1, .ref r2, .ref r3, .int (zI mt), .int mk, .int mw, .int mm, .int mb, .int ms, .ref r4, .int my])), (r1, .inl (gJ g, 327680, .inr (.inl ((mX5_count_3 mF mR tb gr fu_1_1 who nn).2.2.1)))), (r2, .inl (gZ g, 6, .inl ((mX5_count_3 mF mR tb gr fu_1_1 who nn).2.2.2.2))), (r3, .inl (gI g, 6, .inl ((mX5_count_3 mF mR tb gr fu_1_1 who nn).2.2.2.1))), (r4, .inl (gI g, 64, .inl ml))]) (some (.int ((mX5_count_3 mF mR tb gr fu_1_1 who nn).1)))) args s 0 0 (et_ad ([(md, .inr (5, [.int th, .int mF, .int mR, .ref r1, .ref r2, .ref r3, .int (zI mt), .int mk, .int mw, .int mm, .int mb, .int ms, .ref r4, .int my])), (r1, .inl (gJ g, 327680, .inr (.inl tb))), (r2, .inl (gZ g, 6, .inl (fun _ => (0 : Int32)))), (r3, .inl (gI g, 6, .inl gr)), (r4, .inl (gI g, 64, .inl ml))]))) (F0 m 22 ls [.int (mX5_count_3_V1 who), .ref md]) := by
    intro ls hl
    refine va_put (D := gD g) (ci := 5) (v := .int (mX5_count_3_V1 who)) (ty := .int) (C := RX5) (T := TX5) (N := 14) hx hb hts inW_X5 tyX5 tyX5_ok nmX5 hown hC.1 hP hD hS 0 rfl rfl 0 (by decide) (hts _ w_733) (fun _ h9 => h9) rfl (by decide +kernel) rfl rfl (Nat.le_of_ble_eq_true rfl) dX5_count_22 (fun H locs hP hD hS => ?_)
    have hP : va_P (gD g) vwCl ([(md, .inr (5, [.int (mX5_count_3_V1 who), .int mF, .int mR, .ref r1, .ref r2, .ref r3, .int (zI mt), .int mk, .int mw, .int mm, .int mb, .int ms, .ref r4, .int my])), (r1, .inl (gJ g, 327680, .inr (.inl tb))), (r2, .inl (gZ g, 6, .inl (fun _ => (0 : Int32)))), (r3, .inl (gI g, 6, .inl gr)), (r4, .inl (gI g, 64, .inl ml))]) H := hP
    have hD : va_D (et_ad ([(md, .inr (5, [.int th, .int mF, .int mR, .ref r1, .ref r2, .ref r3, .int (zI mt), .int mk, .int mw, .int mm, .int mb, .int ms, .ref r4, .int my])), (r1, .inl (gJ g, 327680, .inr (.inl tb))), (r2, .inl (gZ g, 6, .inl (fun _ => (0 : Int32)))), (r3, .inl (gI g, 6, .inl gr)), (r4, .inl (gI g, 64, .inl ml))])) ([(md, .inr (5, [.int (mX5_count_3_V1 who), .int mF, .int mR, .ref r1, .ref r2, .ref r3, .int (zI mt), .int mk, .int mw, .int mm, .int mb, .int ms, .ref r4, .int my])), (r1, .inl (gJ g, 327680, .inr (.inl tb))), (r2, .inl (gZ g, 6, .inl (fun _ => (0 : Int32)))), (r3, .inl (gI g, 6, .inl gr)), (r4, .inl (gI g, 64, .inl ml))]) := hD
    refine lv_aload_n hx hb dX5_count_25 rfl (lv_at hl 0 rfl) ?_
    refine va_get (D := gD g) (ci := 5) (v := .int (mX5_count_3_V1 who)) (C := RX5) (T := TX5) (N := 14) hx hb hts inW_X5 hown hC.1 hP 0 rfl rfl 0 (by decide) (hts _ w_733) (fun _ h9 => h9) rfl dX5_count_26 ?_
    refine lv_if_le (tgt := 34) hx hb dX5_count_29 (by decide) (fun c_1 => ?_) (fun c_1 => ?_)
    ·
      refine lv_aload_n hx hb dX5_count_34 rfl (lv_at hl 0 rfl) ?_
      refine lv_iload_n hx hb dX5_count_35 rfl (lv_at hl 1 rfl) ?_
      refine et_callW0 (ws' := [(md, .inr (5, [.int (mX5_count_3_V1 who), .int mF, .int mR, .ref r1, .ref r2, .ref r3, .int (zI mt), .int mk, .int mw, .int mm, .int mb, .int ms, .ref r4, .int my])), (r1, .inl (gJ g, 327680, .inr (.inl ((mX5_build_3 mF mR tb gr fu_1_1).1)))), (r2, .inl (gZ g, 6, .inl (upd (fun _ => (0 : Int32)) (3 : Int32).toNatClampNeg (vp_nar .boolean (1 : Int32))))), (r3, .inl (gI g, 6, .inl ((mX5_build_3 mF mR tb gr fu_1_1).2))), (r4, .inl (gI g, 64, .inl ml))]) (va_runV (As := [.int (3 : Int32)]) (rest := []) ⟨hx, hb, hml, hown, hts⟩ (c_X5_build_3 l g md r1 r2 r3 r4 mF mR (mX5_count_3_V1 who) tb gr mt mk mw mm mb ms ml my fu_1_1 (by assumption) (by assumption) hT_2_2) (cwV 1 hts (W0_gV w_821 w_823 w_56 w_82 w_824) rfl rfl rfl (by decide +kernel) ⟨Nat.le_of_ble_eq_true rfl, Nat.le_of_ble_eq_true rfl⟩) (et_preVW hP hC hD [0, 1, 2, 3, 4] (by decide) rfl (ci := 5) (q0 := 0) rfl rfl) rfl rfl hl.1 rfl (lv_room (Nat.le_of_ble_eq_true rfl)) dX5_count_36 ⟨Nat.le_of_ble_eq_true rfl, Nat.le_of_ble_eq_true rfl⟩) hP hD hS [0, 1, 2, 3, 4] [] 5 rfl [md, r1, r2, r3, r4] rfl rfl rfl [] rfl rfl rfl (by decide +kernel) (fun H locs hP hD hS => ?_)
      refine lv_iconst (v := (0 : Int32)) hx hb dX5_count_39 (by decide) ?_
      refine lv_istore (lv' := [(4, .int (0 : Int32)), (0, .ref md), (1, .int (3 : Int32)), (2, .int who), (3, .int nn)]) hx hb dX5_count_40 hl (by decide) rfl (fun ls hl => ?_)
      refine lv_iconst (v := (0 : Int32)) hx hb dX5_count_42 (by decide) ?_
      refine lv_istore (lv' := [(5, .int (0 : Int32)), (4, .int (0 : Int32)), (0, .ref md), (1, .int (3 : Int32)), (2, .int who), (3, .int nn)]) hx hb dX5_count_43 hl (by decide) rfl (fun ls hl => ?_)
      have hx1 : ∀ (H : Heap) (locs : List Loc), va_P (gD g) vwCl ([(md, .inr (5, [.int (mX5_count_3_V1 who), .int mF, .int mR, .ref r1, .ref r2, .ref r3, .int (zI mt), .int mk, .int mw, .int mm, .int mb, .int ms, .ref r4, .int my])), (r1, .inl (gJ g, 327680, .inr (.inl ((mX5_build_3 mF mR tb gr fu_1_1).1)))), (r2, .inl (gZ g, 6, .inl (upd (fun _ => (0 : Int32)) (3 : Int32).toNatClampNeg (vp_nar .boolean (1 : Int32))))), (r3, .inl (gI g, 6, .inl ((mX5_build_3 mF mR tb gr fu_1_1).2))), (r4, .inl (gI g, 64, .inl ml))]) H → va_D (et_ad ([(md, .inr (5, [.int th, .int mF, .int mR, .ref r1, .ref r2, .ref r3, .int (zI mt), .int mk, .int mw, .int mm, .int mb, .int ms, .ref r4, .int my])), (r1, .inl (gJ g, 327680, .inr (.inl tb))), (r2, .inl (gZ g, 6, .inl (fun _ => (0 : Int32)))), (r3, .inl (gI g, 6, .inl gr)), (r4, .inl (gI g, 64, .inl ml))])) ([(md, .inr (5, [.int (mX5_count_3_V1 who), .int mF, .int mR, .ref r1, .ref r2, .ref r3, .int (zI mt), .int mk, .int mw, .int mm, .int mb, .int ms, .ref r4, .int my])), (r1, .inl (gJ g, 327680, .inr (.inl ((mX5_build_3 mF mR tb gr fu_1_1).1)))), (r2, .inl (gZ g, 6, .inl (upd (fun _ => (0 : Int32)) (3 : Int32).toNatClampNeg (vp_nar .boolean (1 : Int32))))), (r3, .inl (gI g, 6, .inl ((mX5_build_3 mF mR tb gr fu_1_1).2))), (r4, .inl (gI g, 64, .inl ml))]) → va_S (et_ad ([(md, .inr (5, [.int th, .int mF, .int mR, .ref r1, .ref r2, .ref r3, .int (zI mt), .int mk, .int mw, .int mm, .int mb, .int ms, .ref r4, .int my])), (r1, .inl (gJ g, 327680, .inr (.inl tb))), (r2, .inl (gZ g, 6, .inl (fun _ => (0 : Int32)))), (r3, .inl (gI g, 6, .inl gr)), (r4, .inl (gI g, 64, .inl ml))])) s.heap H locs → ∀ ls : Array Slot, lv_has ls 6 [(4, .int (mX5_count_3_L1 mF mR tb gr fu_1_1 who nn 262144 0 (0 : Int32))), (0, .ref md), (1, .int (3 : Int32)), (2, .int who), (3, .int nn)] → W p l e ({ frames := 7, cells := 0, slots := 0, locals := 185 } : Room) s m args below meth c H locs 0 0 (MQ below (et_QW g ([(md, .inr (5, [.int th, .int mF, .int mR, .ref r1, .ref r2, .ref r3, .int (zI mt), .int mk, .int mw, .int mm, .int mb, .int ms, .ref r4, .int my])), (r1, .inl (gJ g, 327680, .inr (.inl tb))), (r2, .inl (gZ g, 6, .inl (fun _ => (0 : Int32)))), (r3, .inl (gI g, 6, .inl gr)), (r4, .inl (gI g, 64, .inl ml))]) ([(md, .inr (5, [.int ((mX5_count_3 mF mR tb gr fu_1_1 who nn).2.1), .int mF, .int mR, .ref r1, .ref r2, .ref r3, .int (zI mt), .int mk, .int mw, .int mm, .int mb, .int ms, .ref r4, .int my])), (r1, .inl (gJ g, 327680, .inr (.inl ((mX5_count_3 mF mR tb gr fu_1_1 who nn).2.2.1)))), (r2, .inl (gZ g, 6, .inl ((mX5_count_3 mF mR tb gr fu_1_1 who nn).2.2.2.2))), (r3, .inl (gI g, 6, .inl ((mX5_count_3 mF mR tb gr fu_1_1 who nn).2.2.2.1))), (r4, .inl (gI g, 64, .inl ml))]) (some (.int ((mX5_count_3 mF mR tb gr fu_1_1 who nn).1)))) args s 0 0 (et_ad ([(md, .inr (5, [.int th, .int mF, .int mR, .ref r1, .ref r2, .ref r3, .int (zI mt), .int mk, .int mw, .int mm, .int mb, .int ms, .ref r4, .int my])), (r1, .inl (gJ g, 327680, .inr (.inl tb))), (r2, .inl (gZ g, 6, .inl (fun _ => (0 : Int32)))), (r3, .inl (gI g, 6, .inl gr)), (r4, .inl (gI g, 64, .inl ml))]))) (F0 m 81 ls []) := by
        intro H locs hP hD hS ls hl
        refine lv_iload hx hb dX5_count_81 (lv_at hl 0 rfl) ?_
        have hfin : ((mX5_count_3_L1 mF mR tb gr fu_1_1 who nn 262144 0 (0 : Int32)), (mX5_count_3_V1 who), (mX5_build_3 mF mR tb gr fu_1_1).1, (mX5_build_3 mF mR tb gr fu_1_1).2, upd (fun _ => (0 : Int32)) (3 : Int32).toNatClampNeg (vp_nar .boolean (1 : Int32))) = (mX5_count_3 mF mR tb gr fu_1_1 who nn) := (by rw [mX5_count_3, if_pos c_1])
        exact et_iretW hx hb hr hlocks dX5_count_83 hP hS (by rw [← hfin]) ((by rw [← hfin]))
      have hL1 : ∀ (k1 i1 : Nat) (sum1 : Int32), i1 + k1 = 262144 → mX5_count_3_L1 mF mR tb gr fu_1_1 who nn k1 i1 sum1 = (mX5_count_3_L1 mF mR tb gr fu_1_1 who nn 262144 0 (0 : Int32)) → ∀ (H : Heap) (locs : List Loc), va_P (gD g) vwCl ([(md, .inr (5, [.int (mX5_count_3_V1 who), .int mF, .int mR, .ref r1, .ref r2, .ref r3, .int (zI mt), .int mk, .int mw, .int mm, .int mb, .int ms, .ref r4, .int my])), (r1, .inl (gJ g, 327680, .inr (.inl ((mX5_build_3 mF mR tb gr fu_1_1).1)))), (r2, .inl (gZ g, 6, .inl (upd (fun _ => (0 : Int32)) (3 : Int32).toNatClampNeg (vp_nar .boolean (1 : Int32))))), (r3, .inl (gI g, 6, .inl ((mX5_build_3 mF mR tb gr fu_1_1).2))), (r4, .inl (gI g, 64, .inl ml))]) H → va_D (et_ad ([(md, .inr (5, [.int th, .int mF, .int mR, .ref r1, .ref r2, .ref r3, .int (zI mt), .int mk, .int mw, .int mm, .int mb, .int ms, .ref r4, .int my])), (r1, .inl (gJ g, 327680, .inr (.inl tb))), (r2, .inl (gZ g, 6, .inl (fun _ => (0 : Int32)))), (r3, .inl (gI g, 6, .inl gr)), (r4, .inl (gI g, 64, .inl ml))])) ([(md, .inr (5, [.int (mX5_count_3_V1 who), .int mF, .int mR, .ref r1, .ref r2, .ref r3, .int (zI mt), .int mk, .int mw, .int mm, .int mb, .int ms, .ref r4, .int my])), (r1, .inl (gJ g, 327680, .inr (.inl ((mX5_build_3 mF mR tb gr fu_1_1).1)))), (r2, .inl (gZ g, 6, .inl (upd (fun _ => (0 : Int32)) (3 : Int32).toNatClampNeg (vp_nar .boolean (1 : Int32))))), (r3, .inl (gI g, 6, .inl ((mX5_build_3 mF mR tb gr fu_1_1).2))), (r4, .inl (gI g, 64, .inl ml))]) → va_S (et_ad ([(md, .inr (5, [.int th, .int mF, .int mR, .ref r1, .ref r2, .ref r3, .int (zI mt), .int mk, .int mw, .int mm, .int mb, .int ms, .ref r4, .int my])), (r1, .inl (gJ g, 327680, .inr (.inl tb))), (r2, .inl (gZ g, 6, .inl (fun _ => (0 : Int32)))), (r3, .inl (gI g, 6, .inl gr)), (r4, .inl (gI g, 64, .inl ml))])) s.heap H locs → ∀ ls : Array Slot, lv_has ls 6 [(5, .int (nI i1)), (4, .int sum1), (0, .ref md), (1, .int (3 : Int32)), (2, .int who), (3, .int nn)] → W p l e ({ frames := 7, cells := 0, slots := 0, locals := 185 } : Room) s m args below meth c H locs 0 0 (MQ below (et_QW g ([(md, .inr (5, [.int th, .int mF, .int mR, .ref r1, .ref r2, .ref r3, .int (zI mt), .int mk, .int mw, .int mm, .int mb, .int ms, .ref r4, .int my])), (r1, .inl (gJ g, 327680, .inr (.inl tb))), (r2, .inl (gZ g, 6, .inl (fun _ => (0 : Int32)))), (r3, .inl (gI g, 6, .inl gr)), (r4, .inl (gI g, 64, .inl ml))]) ([(md, .inr (5, [.int ((mX5_count_3 mF mR tb gr fu_1_1 who nn).2.1), .int mF, .int mR, .ref r1, .ref r2, .ref r3, .int (zI mt), .int mk, .int mw, .int mm, .int mb, .int ms, .ref r4, .int my])), (r1, .inl (gJ g, 327680, .inr (.inl ((mX5_count_3 mF mR tb gr fu_1_1 who nn).2.2.1)))), (r2, .inl (gZ g, 6, .inl ((mX5_count_3 mF mR tb gr fu_1_1 who nn).2.2.2.2))), (r3, .inl (gI g, 6, .inl ((mX5_count_3 mF mR tb gr fu_1_1 who nn).2.2.2.1))), (r4, .inl (gI g, 64, .inl ml))]) (some (.int ((mX5_count_3 mF mR tb gr fu_1_1 who nn).1)))) args s 0 0 (et_ad ([(md, .inr (5, [.int th, .int mF, .int mR, .ref r1, .ref r2, .ref r3, .int (zI mt), .int mk, .int mw, .int mm, .int mb, .int ms, .ref r4, .int my])), (r1, .inl (gJ g, 327680, .inr (.inl tb))), (r2, .inl (gZ g, 6, .inl (fun _ => (0 : Int32)))), (r3, .inl (gI g, 6, .inl gr)), (r4, .inl (gI g, 64, .inl ml))]))) (F0 m 45 ls []) := by
        intro k1
        induction k1 with
        | zero =>
          intro i1 sum1 hik  hm H locs hP hD hS ls hl
          refine lv_iload hx hb dX5_count_45 (lv_at hl 0 rfl) ?_
          refine lv_ldc hx hb hown (hts _ w_844) dX5_count_47 ?_
          refine lv_icmp_ge (tgt := 81) hx hb dX5_count_49 (by decide) (fun c_2 => ?_) (fun c_2 => ?_)
          rotate_left
          · exact absurd (et_le (a := 262144) (b := i1) (by omega) (by omega)) c_2
          have hq1 : sum1 = (mX5_count_3_L1 mF mR tb gr fu_1_1 who nn 262144 0 (0 : Int32)) := (by rw [mX5_count_3_L1] : mX5_count_3_L1 mF mR tb gr fu_1_1 who nn 0 i1 sum1 = sum1).symm.trans hm
          exact hx1 _ _ hP hD hS ls (by rw [← hq1]; exact lv_sub hl [1, 2, 3, 4, 5] rfl)
        | succ k1 ih1 =>
          intro i1 sum1 hik  hm H locs hP hD hS ls hl
          refine lv_iload hx hb dX5_count_45 (lv_at hl 0 rfl) ?_
          refine lv_ldc hx hb hown (hts _ w_844) dX5_count_47 ?_
          refine lv_icmp_ge (tgt := 81) hx hb dX5_count_49 (by decide) (fun c_3 => ?_) (fun c_3 => ?_)
          · exact absurd c_3 (et_ge (a := i1) (b := 262144) (by omega) (by omega))
          have hj2 : ∀ ls : Array Slot, lv_has ls 6 [(5, .int (nI i1)), (4, .int sum1), (0, .ref md), (1, .int (3 : Int32)), (2, .int who), (3, .int nn)] → W p l e ({ frames := 7, cells := 0, slots := 0, locals := 185 } : Room) s m args below meth c H locs 0 0 (MQ below (et_QW g ([(md, .inr (5, [.int th, .int mF, .int mR, .ref r1, .ref r2, .ref r3, .int (zI mt), .int mk, .int mw, .int mm, .int mb, .int ms, .ref r4, .int my])), (r1, .inl (gJ g, 327680, .inr (.inl tb))), (r2, .inl (gZ g, 6, .inl (fun _ => (0 : Int32)))), (r3, .inl (gI g, 6, .inl gr)), (r4, .inl (gI g, 64, .inl ml))]) ([(md, .inr (5, [.int ((mX5_count_3 mF mR tb gr fu_1_1 who nn).2.1), .int mF, .int mR, .ref r1, .ref r2, .ref r3, .int (zI mt), .int mk, .int mw, .int mm, .int mb, .int ms, .ref r4, .int my])), (r1, .inl (gJ g, 327680, .inr (.inl ((mX5_count_3 mF mR tb gr fu_1_1 who nn).2.2.1)))), (r2, .inl (gZ g, 6, .inl ((mX5_count_3 mF mR tb gr fu_1_1 who nn).2.2.2.2))), (r3, .inl (gI g, 6, .inl ((mX5_count_3 mF mR tb gr fu_1_1 who nn).2.2.2.1))), (r4, .inl (gI g, 64, .inl ml))]) (some (.int ((mX5_count_3 mF mR tb gr fu_1_1 who nn).1)))) args s 0 0 (et_ad ([(md, .inr (5, [.int th, .int mF, .int mR, .ref r1, .ref r2, .ref r3, .int (zI mt), .int mk, .int mw, .int mm, .int mb, .int ms, .ref r4, .int my])), (r1, .inl (gJ g, 327680, .inr (.inl tb))), (r2, .inl (gZ g, 6, .inl (fun _ => (0 : Int32)))), (r3, .inl (gI g, 6, .inl gr)), (r4, .inl (gI g, 64, .inl ml))]))) (F0 m 73 ls [.int (mX5_count_3_V2 mF mR tb gr fu_1_1 who nn i1 sum1)]) := by
            intro ls hl
            refine lv_istore (lv' := [(4, .int (mX5_count_3_V2 mF mR tb gr fu_1_1 who nn i1 sum1)), (5, .int (nI i1)), (0, .ref md), (1, .int (3 : Int32)), (2, .int who), (3, .int nn)]) hx hb dX5_count_73 hl (by decide) rfl (fun ls hl => ?_)
            refine lv_iinc (v := nI (i1 + 1)) (lv' := [(5, .int (nI (i1 + 1))), (4, .int (mX5_count_3_V2 mF mR tb gr fu_1_1 who nn i1 sum1)), (0, .ref md), (1, .int (3 : Int32)), (2, .int who), (3, .int nn)]) hx hb dX5_count_75 hl (k := 1) rfl (et_inc i1) (by decide) rfl (fun ls hl => ?_)
            refine lv_goto (tgt := 45) hx hb dX5_count_78 (by decide) ?_
            exact ih1 (i1 + 1) (mX5_count_3_V2 mF mR tb gr fu_1_1 who nn i1 sum1) (by omega) ((by rw [mX5_count_3_L1] : mX5_count_3_L1 mF mR tb gr fu_1_1 who nn (k1 + 1) i1 sum1 = mX5_count_3_L1 mF mR tb gr fu_1_1 who nn k1 (i1 + 1) (mX5_count_3_V2 mF mR tb gr fu_1_1 who nn i1 sum1)).symm.trans hm) _ _ hP hD hS ls (lv_sub hl [0, 1, 2, 3, 4, 5] rfl)
          refine lv_aload_n hx hb dX5_count_52 rfl (lv_at hl 2 rfl) ?_
          refine lv_iload_n hx hb dX5_count_53 rfl (lv_at hl 3 rfl) ?_
          refine lv_iload_n hx hb dX5_count_54 rfl (lv_at hl 4 rfl) ?_
          refine lv_iload_n hx hb dX5_count_55 rfl (lv_at hl 5 rfl) ?_
          refine lv_iload hx hb dX5_count_56 (lv_at hl 0 rfl) ?_
          refine et_callP1 (v := .int (zI (mX5_isOne mF mR ((mX5_build_3 mF mR tb gr fu_1_1).1) (3 : Int32) who nn (nI i1)))) (va_runV (As := [.int (3 : Int32), .int who, .int nn, .int (nI i1)]) (rest := []) ⟨hx, hb, hml, hown, hts⟩ (c_X5_isOne l g md r1 r2 r3 r4 mF mR (mX5_count_3_V1 who) ((mX5_build_3 mF mR tb gr fu_1_1).1) (upd (fun _ => (0 : Int32)) (3 : Int32).toNatClampNeg (vp_nar .boolean (1 : Int32))) ((mX5_build_3 mF mR tb gr fu_1_1).2) mt mk mw mm mb ms ml my (3 : Int32) who nn (nI i1) (by assumption) (by assumption) (et_kdl (by decide)) (et_cntV_3 (by assumption)) (et_ati (by omega))) (cwV 4 hts (W0_gV w_874 w_876 w_67 w_82 w_877) rfl rfl rfl (by decide +kernel) ⟨Nat.le_of_ble_eq_true rfl, Nat.le_of_ble_eq_true rfl⟩) (et_preV hP hC [0, 1, 2, 3, 4] rfl (ci := 5) (q0 := 0) rfl rfl) rfl rfl hl.1 rfl (lv_room (Nat.le_of_ble_eq_true rfl)) dX5_count_58 ⟨Nat.le_of_ble_eq_true rfl, Nat.le_of_ble_eq_true rfl⟩) ?_
          refine lv_if_eq (tgt := 71) hx hb dX5_count_61 (by decide) (fun c_4 => ?_) (fun c_4 => ?_)
          ·
            refine lv_iload hx hb dX5_count_71 (lv_at hl 1 rfl) ?_
            have he2 : (sum1 : Int32) = (mX5_count_3_V2 mF mR tb gr fu_1_1 who nn i1 sum1) := (by rw [mX5_count_3_V2, if_pos c_4])
            exact et_stki he2 (hj2 ls (lv_sub hl [0, 1, 2, 3, 4, 5] rfl))
          ·
            refine lv_iload hx hb dX5_count_64 (lv_at hl 1 rfl) ?_
            refine lv_iconst (v := (1 : Int32)) hx hb dX5_count_66 (by decide) ?_
            refine lv_iadd hx hb dX5_count_67 ?_
            refine lv_goto (tgt := 73) hx hb dX5_count_68 (by decide) ?_
            have he3 : (sum1 + (1 : Int32) : Int32) = (mX5_count_3_V2 mF mR tb gr fu_1_1 who nn i1 sum1) := (by rw [mX5_count_3_V2, if_neg c_4])
            exact et_stki he3 (hj2 ls (lv_sub hl [0, 1, 2, 3, 4, 5] rfl))
      exact hL1 262144 0 (0 : Int32) (by omega) rfl _ _ hP hD hS ls (lv_sub hl [0, 1, 2, 3, 4, 5] rfl)
    ·
      refine lv_iconst (v := (0 : Int32)) hx hb dX5_count_32 (by decide) ?_
      have hfin : ((0 : Int32), (mX5_count_3_V1 who), tb, gr, (fun _ => (0 : Int32))) = (mX5_count_3 mF mR tb gr fu_1_1 who nn) := (by rw [mX5_count_3, if_neg c_1])
      exact et_iretW hx hb hr hlocks dX5_count_33 hP hS (by rw [← hfin]) ((by rw [← hfin]))
  refine lv_iload_n hx hb dX5_count_1 rfl (lv_at hl 1 rfl) ?_
  refine et_callP1 (v := .int (zI (mX5_isKind (3 : Int32)))) (va_runS (As := [.int (3 : Int32)]) (rest := [.ref md]) ⟨hx, hb, hml, hown, hts⟩ (c_X5_isKind l g (3 : Int32)) (va_cwS 1 hts (W0_gS w_789 w_790 w_82 w_791) rfl rfl rfl (by decide +kernel) ⟨Nat.le_of_ble_eq_true rfl, Nat.le_of_ble_eq_true rfl⟩) (et_preS hP hC [] rfl) rfl rfl hl.1 rfl (lv_room (Nat.le_of_ble_eq_true rfl)) dX5_count_2 ⟨Nat.le_of_ble_eq_true rfl, Nat.le_of_ble_eq_true rfl⟩) ?_
  refine lv_if_eq (tgt := 21) hx hb dX5_count_5 (by decide) (fun c_5 => ?_) (fun c_5 => ?_)
  ·
    refine lv_iconst (v := (1 : Int32)) hx hb dX5_count_21 (by decide) ?_
    have he4 : ((1 : Int32) : Int32) = (mX5_count_3_V1 who) := (by rw [mX5_count_3_V1, if_pos c_5])
    exact et_stki he4 (hj1 ls (lv_sub hl [0, 1, 2, 3] rfl))
  ·
    refine lv_iload_n hx hb dX5_count_8 rfl (lv_at hl 2 rfl) ?_
    refine lv_if_lt (tgt := 21) hx hb dX5_count_9 (by decide) (fun c_6 => ?_) (fun c_6 => ?_)
    ·
      refine lv_iconst (v := (1 : Int32)) hx hb dX5_count_21 (by decide) ?_
      have he5 : ((1 : Int32) : Int32) = (mX5_count_3_V1 who) := (by rw [mX5_count_3_V1, if_neg c_5, if_pos c_6])
      exact et_stki he5 (hj1 ls (lv_sub hl [0, 1, 2, 3] rfl))
    ·
      refine lv_iload_n hx hb dX5_count_12 rfl (lv_at hl 2 rfl) ?_
      refine lv_iconst (v := (2 : Int32)) hx hb dX5_count_13 (by decide) ?_
      refine lv_icmp_ge (tgt := 21) hx hb dX5_count_14 (by decide) (fun c_7 => ?_) (fun c_7 => ?_)
      ·
        refine lv_iconst (v := (1 : Int32)) hx hb dX5_count_21 (by decide) ?_
        have he6 : ((1 : Int32) : Int32) = (mX5_count_3_V1 who) := (by rw [mX5_count_3_V1, if_neg c_5, if_neg c_6, if_pos c_7])
        exact et_stki he6 (hj1 ls (lv_sub hl [0, 1, 2, 3] rfl))
      ·
        refine lv_iconst (v := (0 : Int32)) hx hb dX5_count_17 (by decide) ?_
        refine lv_goto (tgt := 22) hx hb dX5_count_18 (by decide) ?_
        have he7 : ((0 : Int32) : Int32) = (mX5_count_3_V1 who) := (by rw [mX5_count_3_V1, if_neg c_5, if_neg c_6, if_neg c_7])
        exact et_stki he7 (hj1 ls (lv_sub hl [0, 1, 2, 3] rfl))

def mX5_find_3_V1 (who : Int32) : Int32 :=
  if (zI (mX5_isKind (3 : Int32))) = 0 then
    (1 : Int32)
  else
    if who < 0 then
      (1 : Int32)
    else
      if (2 : Int32) ≤ who then
        (1 : Int32)
      else
        (0 : Int32)
def mX5_find_3_L1 (mF : Int32) (mR : Int32) (tb : Nat → Int64) (gr : Nat → Int32) (fu_1_1 : Nat) (who : Int32) (nn : Int32) (ix : Int32) : Nat → Nat → Int32 → Int32 × Int32 × (Nat → Int64) × (Nat → Int32) × (Nat → Int32)
  | 0, i1, left1 =>
    ((0 : Int32), (2 : Int32), (mX5_build_3 mF mR tb gr fu_1_1).1, (mX5_build_3 mF mR tb gr fu_1_1).2, upd (fun _ => (0 : Int32)) (3 : Int32).toNatClampNeg (vp_nar .boolean (1 : Int32)))
  | k1 + 1, i1, left1 =>
    if ix < 0 then
      ((0 : Int32), (2 : Int32), (mX5_build_3 mF mR tb gr fu_1_1).1, (mX5_build_3 mF mR tb gr fu_1_1).2, upd (fun _ => (0 : Int32)) (3 : Int32).toNatClampNeg (vp_nar .boolean (1 : Int32)))
    else
      if (zI (mX5_isOne mF mR ((mX5_build_3 mF mR tb gr fu_1_1).1) (3 : Int32) who nn (nI i1))) = 0 then
        mX5_find_3_L1 mF mR tb gr fu_1_1 who nn ix k1 (i1 + 1) left1
      else
        if left1 = 0 then
          ((((nI i1) / (4096 : Int32)) + ((64 : Int32) * (((nI i1) / (64 : Int32)) - ((nI i1) / (64 : Int32)) / (64 : Int32) * (64 : Int32)))) + ((4096 : Int32) * ((nI i1) - (nI i1) / (64 : Int32) * (64 : Int32))), (mX5_find_3_V1 who), (mX5_build_3 mF mR tb gr fu_1_1).1, (mX5_build_3 mF mR tb gr fu_1_1).2, upd (fun _ => (0 : Int32)) (3 : Int32).toNatClampNeg (vp_nar .boolean (1 : Int32)))
        else
          mX5_find_3_L1 mF mR tb gr fu_1_1 who nn ix k1 (i1 + 1) (left1 + (-1 : Int32))
def mX5_find_3 (mF : Int32) (mR : Int32) (tb : Nat → Int64) (gr : Nat → Int32) (fu_1_1 : Nat) (who : Int32) (nn : Int32) (ix : Int32) : Int32 × Int32 × (Nat → Int64) × (Nat → Int32) × (Nat → Int32) :=
  if (mX5_find_3_V1 who) ≤ 0 then
    mX5_find_3_L1 mF mR tb gr fu_1_1 who nn ix 262144 0 ix
  else
    ((0 : Int32), (mX5_find_3_V1 who), tb, gr, (fun _ => (0 : Int32)))
theorem et_findV_3 {who : Int32} (h : mX5_find_3_V1 who ≤ 0) : et_sd who := by
  unfold mX5_find_3_V1 at h
  rw [if_neg (show ¬ zI (mX5_isKind (3 : Int32)) = 0 by decide)] at h
  rcases pk_ix who (n := 2) (by omega) with h1 | h1 | ⟨j, hj, rfl⟩
  · rw [if_pos h1] at h
    exact absurd h (by decide)
  · rw [if_neg (show ¬ who < 0 from fun h2 => absurd (Int32.le_trans h1 (Int32.le_of_lt h2)) (by decide)), if_pos (show (2 : Int32) ≤ who from h1)] at h
    exact absurd h (by decide)
  · rcases (show j = 0 ∨ j = 1 by omega) with rfl | rfl
    · exact Or.inl rfl
    · exact Or.inr rfl
set_option maxHeartbeats 4000000 in
set_option maxRecDepth 100000 in
theorem c_X5_find_3 (l : Launch) (g : et_G) (md : Nat) (r1 : Nat) (r2 : Nat) (r3 : Nat) (r4 : Nat) (mF : Int32) (mR : Int32) (th : Int32) (tb : Nat → Int64) (gr : Nat → Int32) (mt : Bool) (mk : Int32) (mw : Int32) (mm : Int32) (mb : Int32) (ms : Int32) (ml : Nat → Int32) (my : Int32) (fu_1_1 : Nat) (who : Int32) (nn : Int32) (ix : Int32) (hF : et_b8 mF) (hR : et_b8 mR) (hT_2_2 : mX5_passAll_L1_ok mF mR (3 : Int32) (1 : Int32) fu_1_1 0 (0 : Int32) (0 : Int32) tb (upd gr (3 : Int32).toNatClampNeg (-1 : Int32)) = true) : Met l yX5_find (Cond.code yX5_find cX5_find 7 (some (.int)) :: W0) ({ frames := 7, cells := 0, slots := 0, locals := 185 } : Room) (et_PcW g ([(md, .inr (5, [.int th, .int mF, .int mR, .ref r1, .ref r2, .ref r3, .int (zI mt), .int mk, .int mw, .int mm, .int mb, .int ms, .ref r4, .int my])), (r1, .inl (gJ g, 327680, .inr (.inl tb))), (r2, .inl (gZ g, 6, .inl (fun _ => (0 : Int32)))), (r3, .inl (gI g, 6, .inl gr)), (r4, .inl (gI g, 64, .inl ml))]) [.ref md, .int (3 : Int32), .int who, .int nn, .int ix]) (et_QW g ([(md, .inr (5, [.int th, .int mF, .int mR, .ref r1, .ref r2, .ref r3, .int (zI mt), .int mk, .int mw, .int mm, .int mb, .int ms, .ref r4, .int my])), (r1, .inl (gJ g, 327680, .inr (.inl tb))), (r2, .inl (gZ g, 6, .inl (fun _ => (0 : Int32)))), (r3, .inl (gI g, 6, .inl gr)), (r4, .inl (gI g, 64, .inl ml))]) ([(md, .inr (5, [.int ((mX5_find_3 mF mR tb gr fu_1_1 who nn ix).2.1), .int mF, .int mR, .ref r1, .ref r2, .ref r3, .int (zI mt), .int mk, .int mw, .int mm, .int mb, .int ms, .ref r4, .int my])), (r1, .inl (gJ g, 327680, .inr (.inl ((mX5_find_3 mF mR tb gr fu_1_1 who nn ix).2.2.1)))), (r2, .inl (gZ g, 6, .inl ((mX5_find_3 mF mR tb gr fu_1_1 who nn ix).2.2.2.2))), (r3, .inl (gI g, 6, .inl ((mX5_find_3 mF mR tb gr fu_1_1 who nn ix).2.2.2.1))), (r4, .inl (gI g, 64, .inl ml))]) (some (.int ((mX5_find_3 mF mR tb gr fu_1_1 who nn ix).1)))) 0 0 (et_ad ([(md, .inr (5, [.int th, .int mF, .int mR, .ref r1, .ref r2, .ref r3, .int (zI mt), .int mk, .int mw, .int mm, .int mb, .int ms, .ref r4, .int my])), (r1, .inl (gJ g, 327680, .inr (.inl tb))), (r2, .inl (gZ g, 6, .inl (fun _ => (0 : Int32)))), (r3, .inl (gI g, 6, .inl gr)), (r4, .inl (gI g, 64, .inl ml))])) := by
  refine et_startW (by decide) rfl (Nat.le_of_ble_eq_true rfl) ?_
  intro p e s m args below meth c hx hb hr hts0 hown hlocks hml hP hC hD hS ls hl
  have hts : ∀ w ∈ W0, w.before args s = true := fun w h => hts0 w (List.mem_cons_of_mem _ h)
  have hown : s.vm.findClass RX5 = some m.cls := hown
  have hl : lv_has ls 7 [(0, .ref md), (1, .int (3 : Int32)), (2, .int who), (3, .int nn), (4, .int ix)] := hl
  refine lv_aload_n hx hb dX5_find_0 rfl (lv_at hl 0 rfl) ?_
  have hj1 : ∀ ls : Array Slot, lv_has ls 7 [(0, .ref md), (1, .int (3 : Int32)), (2, .int who), (3, .int nn), (4, .int ix)] → W p l e ({ frames := 7, cells := 0, slots := 0, locals := 185 } : Room) s m args below meth c s.heap [] 0 0 (MQ below (et_QW g ([(md, .inr (5, [.int th, .int mF, .int mR, .ref r1, .ref r2, .ref r3, .int (zI mt), .int mk, .int mw, .int mm, .int mb, .int ms, .ref r4, .int my])), (r1, .inl (gJ g, 327680, .inr (.inl tb))), (r2, .inl (gZ g, 6, .inl (fun _ => (0 : Int32)))), (r3, .inl (gI g, 6, .inl gr)), (r4, .inl (gI g, 64, .inl ml))]) ([(md, .inr (5, [.int ((mX5_find_3 mF mR tb gr fu_1_1 who nn ix).2.1), .int mF, .int mR, .ref r1, .ref r2, .ref r3, .int (zI mt), .int mk, .int mw, .int mm, .int mb, .int ms, .ref r4, .int my])), (r1, .inl (gJ g, 327680, .inr (.inl ((mX5_find_3 mF mR tb gr fu_1_1 who nn ix).2.2.1)))), (r2, .inl (gZ g, 6, .inl ((mX5_find_3 mF mR tb gr fu_1_1 who nn ix).2.2.2.2))), (r3, .inl (gI g, 6, .inl ((mX5_find_3 mF mR tb gr fu_1_1 who nn ix).2.2.2.1))), (r4, .inl (gI g, 64, .inl ml))]) (some (.int ((mX5_find_3 mF mR tb gr fu_1_1 who nn ix).1)))) args s 0 0 (et_ad ([(md, .inr (5, [.int th, .int mF, .int mR, .ref r1, .ref r2, .ref r3, .int (zI mt), .int mk, .int mw, .int mm, .int mb, .int ms, .ref r4, .int my])), (r1, .inl (gJ g, 327680, .inr (.inl tb))), (r2, .inl (gZ g, 6, .inl (fun _ => (0 : Int32)))), (r3, .inl (gI g, 6, .inl gr)), (r4, .inl (gI g, 64, .inl ml))]))) (F0 m 22 ls [.int (mX5_find_3_V1 who), .ref md]) := by
    intro ls hl
    refine va_put (D := gD g) (ci := 5) (v := .int (mX5_find_3_V1 who)) (ty := .int) (C := RX5) (T := TX5) (N := 14) hx hb hts inW_X5 tyX5 tyX5_ok nmX5 hown hC.1 hP hD hS 0 rfl rfl 0 (by decide) (hts _ w_733) (fun _ h9 => h9) rfl (by decide +kernel) rfl rfl (Nat.le_of_ble_eq_true rfl) dX5_find_22 (fun H locs hP hD hS => ?_)
    have hP : va_P (gD g) vwCl ([(md, .inr (5, [.int (mX5_find_3_V1 who), .int mF, .int mR, .ref r1, .ref r2, .ref r3, .int (zI mt), .int mk, .int mw, .int mm, .int mb, .int ms, .ref r4, .int my])), (r1, .inl (gJ g, 327680, .inr (.inl tb))), (r2, .inl (gZ g, 6, .inl (fun _ => (0 : Int32)))), (r3, .inl (gI g, 6, .inl gr)), (r4, .inl (gI g, 64, .inl ml))]) H := hP
    have hD : va_D (et_ad ([(md, .inr (5, [.int th, .int mF, .int mR, .ref r1, .ref r2, .ref r3, .int (zI mt), .int mk, .int mw, .int mm, .int mb, .int ms, .ref r4, .int my])), (r1, .inl (gJ g, 327680, .inr (.inl tb))), (r2, .inl (gZ g, 6, .inl (fun _ => (0 : Int32)))), (r3, .inl (gI g, 6, .inl gr)), (r4, .inl (gI g, 64, .inl ml))])) ([(md, .inr (5, [.int (mX5_find_3_V1 who), .int mF, .int mR, .ref r1, .ref r2, .ref r3, .int (zI mt), .int mk, .int mw, .int mm, .int mb, .int ms, .ref r4, .int my])), (r1, .inl (gJ g, 327680, .inr (.inl tb))), (r2, .inl (gZ g, 6, .inl (fun _ => (0 : Int32)))), (r3, .inl (gI g, 6, .inl gr)), (r4, .inl (gI g, 64, .inl ml))]) := hD
    refine lv_aload_n hx hb dX5_find_25 rfl (lv_at hl 0 rfl) ?_
    refine va_get (D := gD g) (ci := 5) (v := .int (mX5_find_3_V1 who)) (C := RX5) (T := TX5) (N := 14) hx hb hts inW_X5 hown hC.1 hP 0 rfl rfl 0 (by decide) (hts _ w_733) (fun _ h9 => h9) rfl dX5_find_26 ?_
    refine lv_if_le (tgt := 34) hx hb dX5_find_29 (by decide) (fun c_1 => ?_) (fun c_1 => ?_)
    ·
      refine lv_aload_n hx hb dX5_find_34 rfl (lv_at hl 0 rfl) ?_
      refine lv_iload_n hx hb dX5_find_35 rfl (lv_at hl 1 rfl) ?_
      refine et_callW0 (ws' := [(md, .inr (5, [.int (mX5_find_3_V1 who), .int mF, .int mR, .ref r1, .ref r2, .ref r3, .int (zI mt), .int mk, .int mw, .int mm, .int mb, .int ms, .ref r4, .int my])), (r1, .inl (gJ g, 327680, .inr (.inl ((mX5_build_3 mF mR tb gr fu_1_1).1)))), (r2, .inl (gZ g, 6, .inl (upd (fun _ => (0 : Int32)) (3 : Int32).toNatClampNeg (vp_nar .boolean (1 : Int32))))), (r3, .inl (gI g, 6, .inl ((mX5_build_3 mF mR tb gr fu_1_1).2))), (r4, .inl (gI g, 64, .inl ml))]) (va_runV (As := [.int (3 : Int32)]) (rest := []) ⟨hx, hb, hml, hown, hts⟩ (c_X5_build_3 l g md r1 r2 r3 r4 mF mR (mX5_find_3_V1 who) tb gr mt mk mw mm mb ms ml my fu_1_1 (by assumption) (by assumption) hT_2_2) (cwV 1 hts (W0_gV w_821 w_823 w_56 w_82 w_824) rfl rfl rfl (by decide +kernel) ⟨Nat.le_of_ble_eq_true rfl, Nat.le_of_ble_eq_true rfl⟩) (et_preVW hP hC hD [0, 1, 2, 3, 4] (by decide) rfl (ci := 5) (q0 := 0) rfl rfl) rfl rfl hl.1 rfl (lv_room (Nat.le_of_ble_eq_true rfl)) dX5_find_36 ⟨Nat.le_of_ble_eq_true rfl, Nat.le_of_ble_eq_true rfl⟩) hP hD hS [0, 1, 2, 3, 4] [] 5 rfl [md, r1, r2, r3, r4] rfl rfl rfl [] rfl rfl rfl (by decide +kernel) (fun H locs hP hD hS => ?_)
      refine lv_iload hx hb dX5_find_39 (lv_at hl 4 rfl) ?_
      refine lv_istore (lv' := [(5, .int ix), (0, .ref md), (1, .int (3 : Int32)), (2, .int who), (3, .int nn), (4, .int ix)]) hx hb dX5_find_41 hl (by decide) rfl (fun ls hl => ?_)
      refine lv_iconst (v := (0 : Int32)) hx hb dX5_find_43 (by decide) ?_
      refine lv_istore (lv' := [(6, .int (0 : Int32)), (5, .int ix), (0, .ref md), (1, .int (3 : Int32)), (2, .int who), (3, .int nn), (4, .int ix)]) hx hb dX5_find_44 hl (by decide) rfl (fun ls hl => ?_)
      have hL1 : ∀ (k1 i1 : Nat) (left1 : Int32), i1 + k1 = 262144 → mX5_find_3_L1 mF mR tb gr fu_1_1 who nn ix k1 i1 left1 = (mX5_find_3 mF mR tb gr fu_1_1 who nn ix) → ∀ (H : Heap) (locs : List Loc), va_P (gD g) vwCl ([(md, .inr (5, [.int (mX5_find_3_V1 who), .int mF, .int mR, .ref r1, .ref r2, .ref r3, .int (zI mt), .int mk, .int mw, .int mm, .int mb, .int ms, .ref r4, .int my])), (r1, .inl (gJ g, 327680, .inr (.inl ((mX5_build_3 mF mR tb gr fu_1_1).1)))), (r2, .inl (gZ g, 6, .inl (upd (fun _ => (0 : Int32)) (3 : Int32).toNatClampNeg (vp_nar .boolean (1 : Int32))))), (r3, .inl (gI g, 6, .inl ((mX5_build_3 mF mR tb gr fu_1_1).2))), (r4, .inl (gI g, 64, .inl ml))]) H → va_D (et_ad ([(md, .inr (5, [.int th, .int mF, .int mR, .ref r1, .ref r2, .ref r3, .int (zI mt), .int mk, .int mw, .int mm, .int mb, .int ms, .ref r4, .int my])), (r1, .inl (gJ g, 327680, .inr (.inl tb))), (r2, .inl (gZ g, 6, .inl (fun _ => (0 : Int32)))), (r3, .inl (gI g, 6, .inl gr)), (r4, .inl (gI g, 64, .inl ml))])) ([(md, .inr (5, [.int (mX5_find_3_V1 who), .int mF, .int mR, .ref r1, .ref r2, .ref r3, .int (zI mt), .int mk, .int mw, .int mm, .int mb, .int ms, .ref r4, .int my])), (r1, .inl (gJ g, 327680, .inr (.inl ((mX5_build_3 mF mR tb gr fu_1_1).1)))), (r2, .inl (gZ g, 6, .inl (upd (fun _ => (0 : Int32)) (3 : Int32).toNatClampNeg (vp_nar .boolean (1 : Int32))))), (r3, .inl (gI g, 6, .inl ((mX5_build_3 mF mR tb gr fu_1_1).2))), (r4, .inl (gI g, 64, .inl ml))]) → va_S (et_ad ([(md, .inr (5, [.int th, .int mF, .int mR, .ref r1, .ref r2, .ref r3, .int (zI mt), .int mk, .int mw, .int mm, .int mb, .int ms, .ref r4, .int my])), (r1, .inl (gJ g, 327680, .inr (.inl tb))), (r2, .inl (gZ g, 6, .inl (fun _ => (0 : Int32)))), (r3, .inl (gI g, 6, .inl gr)), (r4, .inl (gI g, 64, .inl ml))])) s.heap H locs → ∀ ls : Array Slot, lv_has ls 7 [(6, .int (nI i1)), (5, .int left1), (0, .ref md), (1, .int (3 : Int32)), (2, .int who), (3, .int nn), (4, .int ix)] → W p l e ({ frames := 7, cells := 0, slots := 0, locals := 185 } : Room) s m args below meth c H locs 0 0 (MQ below (et_QW g ([(md, .inr (5, [.int th, .int mF, .int mR, .ref r1, .ref r2, .ref r3, .int (zI mt), .int mk, .int mw, .int mm, .int mb, .int ms, .ref r4, .int my])), (r1, .inl (gJ g, 327680, .inr (.inl tb))), (r2, .inl (gZ g, 6, .inl (fun _ => (0 : Int32)))), (r3, .inl (gI g, 6, .inl gr)), (r4, .inl (gI g, 64, .inl ml))]) ([(md, .inr (5, [.int ((mX5_find_3 mF mR tb gr fu_1_1 who nn ix).2.1), .int mF, .int mR, .ref r1, .ref r2, .ref r3, .int (zI mt), .int mk, .int mw, .int mm, .int mb, .int ms, .ref r4, .int my])), (r1, .inl (gJ g, 327680, .inr (.inl ((mX5_find_3 mF mR tb gr fu_1_1 who nn ix).2.2.1)))), (r2, .inl (gZ g, 6, .inl ((mX5_find_3 mF mR tb gr fu_1_1 who nn ix).2.2.2.2))), (r3, .inl (gI g, 6, .inl ((mX5_find_3 mF mR tb gr fu_1_1 who nn ix).2.2.2.1))), (r4, .inl (gI g, 64, .inl ml))]) (some (.int ((mX5_find_3 mF mR tb gr fu_1_1 who nn ix).1)))) args s 0 0 (et_ad ([(md, .inr (5, [.int th, .int mF, .int mR, .ref r1, .ref r2, .ref r3, .int (zI mt), .int mk, .int mw, .int mm, .int mb, .int ms, .ref r4, .int my])), (r1, .inl (gJ g, 327680, .inr (.inl tb))), (r2, .inl (gZ g, 6, .inl (fun _ => (0 : Int32)))), (r3, .inl (gI g, 6, .inl gr)), (r4, .inl (gI g, 64, .inl ml))]))) (F0 m 46 ls []) := by
        intro k1
        induction k1 with
        | zero =>
          intro i1 left1 hik hm H locs hP hD hS ls hl
          refine lv_iload hx hb dX5_find_46 (lv_at hl 0 rfl) ?_
          refine lv_ldc hx hb hown (hts _ w_844) dX5_find_48 ?_
          refine lv_icmp_ge (tgt := 113) hx hb dX5_find_50 (by decide) (fun c_2 => ?_) (fun c_2 => ?_)
          rotate_left
          · exact absurd (et_le (a := 262144) (b := i1) (by omega) (by omega)) c_2
          refine lv_aload_n hx hb dX5_find_113 rfl (lv_at hl 2 rfl) ?_
          refine lv_iconst (v := (2 : Int32)) hx hb dX5_find_114 (by decide) ?_
          refine va_put (D := gD g) (ci := 5) (v := .int (2 : Int32)) (ty := .int) (C := RX5) (T := TX5) (N := 14) hx hb hts inW_X5 tyX5 tyX5_ok nmX5 hown hC.1 hP hD hS 0 rfl rfl 0 (by decide) (hts _ w_733) (fun _ h9 => h9) rfl (by decide +kernel) rfl rfl (Nat.le_of_ble_eq_true rfl) dX5_find_115 (fun H locs hP hD hS => ?_)
          have hP : va_P (gD g) vwCl ([(md, .inr (5, [.int (2 : Int32), .int mF, .int mR, .ref r1, .ref r2, .ref r3, .int (zI mt), .int mk, .int mw, .int mm, .int mb, .int ms, .ref r4, .int my])), (r1, .inl (gJ g, 327680, .inr (.inl ((mX5_build_3 mF mR tb gr fu_1_1).1)))), (r2, .inl (gZ g, 6, .inl (upd (fun _ => (0 : Int32)) (3 : Int32).toNatClampNeg (vp_nar .boolean (1 : Int32))))), (r3, .inl (gI g, 6, .inl ((mX5_build_3 mF mR tb gr fu_1_1).2))), (r4, .inl (gI g, 64, .inl ml))]) H := hP
          have hD : va_D (et_ad ([(md, .inr (5, [.int th, .int mF, .int mR, .ref r1, .ref r2, .ref r3, .int (zI mt), .int mk, .int mw, .int mm, .int mb, .int ms, .ref r4, .int my])), (r1, .inl (gJ g, 327680, .inr (.inl tb))), (r2, .inl (gZ g, 6, .inl (fun _ => (0 : Int32)))), (r3, .inl (gI g, 6, .inl gr)), (r4, .inl (gI g, 64, .inl ml))])) ([(md, .inr (5, [.int (2 : Int32), .int mF, .int mR, .ref r1, .ref r2, .ref r3, .int (zI mt), .int mk, .int mw, .int mm, .int mb, .int ms, .ref r4, .int my])), (r1, .inl (gJ g, 327680, .inr (.inl ((mX5_build_3 mF mR tb gr fu_1_1).1)))), (r2, .inl (gZ g, 6, .inl (upd (fun _ => (0 : Int32)) (3 : Int32).toNatClampNeg (vp_nar .boolean (1 : Int32))))), (r3, .inl (gI g, 6, .inl ((mX5_build_3 mF mR tb gr fu_1_1).2))), (r4, .inl (gI g, 64, .inl ml))]) := hD
          refine lv_iconst (v := (0 : Int32)) hx hb dX5_find_118 (by decide) ?_
          have hfin : ((0 : Int32), (2 : Int32), (mX5_build_3 mF mR tb gr fu_1_1).1, (mX5_build_3 mF mR tb gr fu_1_1).2, upd (fun _ => (0 : Int32)) (3 : Int32).toNatClampNeg (vp_nar .boolean (1 : Int32))) = (mX5_find_3 mF mR tb gr fu_1_1 who nn ix) := (by rw [mX5_find_3_L1] : mX5_find_3_L1 mF mR tb gr fu_1_1 who nn ix 0 i1 left1 = ((0 : Int32), (2 : Int32), (mX5_build_3 mF mR tb gr fu_1_1).1, (mX5_build_3 mF mR tb gr fu_1_1).2, upd (fun _ => (0 : Int32)) (3 : Int32).toNatClampNeg (vp_nar .boolean (1 : Int32)))).symm.trans hm
          exact et_iretW hx hb hr hlocks dX5_find_119 hP hS (by rw [← hfin]) ((by rw [← hfin]))
        | succ k1 ih1 =>
          intro i1 left1 hik hm H locs hP hD hS ls hl
          refine lv_iload hx hb dX5_find_46 (lv_at hl 0 rfl) ?_
          refine lv_ldc hx hb hown (hts _ w_844) dX5_find_48 ?_
          refine lv_icmp_ge (tgt := 113) hx hb dX5_find_50 (by decide) (fun c_3 => ?_) (fun c_3 => ?_)
          · exact absurd c_3 (et_ge (a := i1) (b := 262144) (by omega) (by omega))
          refine lv_iload hx hb dX5_find_53 (lv_at hl 6 rfl) ?_
          refine lv_if_lt (tgt := 113) hx hb dX5_find_55 (by decide) (fun c_4 => ?_) (fun c_4 => ?_)
          ·
            refine lv_aload_n hx hb dX5_find_113 rfl (lv_at hl 2 rfl) ?_
            refine lv_iconst (v := (2 : Int32)) hx hb dX5_find_114 (by decide) ?_
            refine va_put (D := gD g) (ci := 5) (v := .int (2 : Int32)) (ty := .int) (C := RX5) (T := TX5) (N := 14) hx hb hts inW_X5 tyX5 tyX5_ok nmX5 hown hC.1 hP hD hS 0 rfl rfl 0 (by decide) (hts _ w_733) (fun _ h9 => h9) rfl (by decide +kernel) rfl rfl (Nat.le_of_ble_eq_true rfl) dX5_find_115 (fun H locs hP hD hS => ?_)
            have hP : va_P (gD g) vwCl ([(md, .inr (5, [.int (2 : Int32), .int mF, .int mR, .ref r1, .ref r2, .ref r3, .int (zI mt), .int mk, .int mw, .int mm, .int mb, .int ms, .ref r4, .int my])), (r1, .inl (gJ g, 327680, .inr (.inl ((mX5_build_3 mF mR tb gr fu_1_1).1)))), (r2, .inl (gZ g, 6, .inl (upd (fun _ => (0 : Int32)) (3 : Int32).toNatClampNeg (vp_nar .boolean (1 : Int32))))), (r3, .inl (gI g, 6, .inl ((mX5_build_3 mF mR tb gr fu_1_1).2))), (r4, .inl (gI g, 64, .inl ml))]) H := hP
            have hD : va_D (et_ad ([(md, .inr (5, [.int th, .int mF, .int mR, .ref r1, .ref r2, .ref r3, .int (zI mt), .int mk, .int mw, .int mm, .int mb, .int ms, .ref r4, .int my])), (r1, .inl (gJ g, 327680, .inr (.inl tb))), (r2, .inl (gZ g, 6, .inl (fun _ => (0 : Int32)))), (r3, .inl (gI g, 6, .inl gr)), (r4, .inl (gI g, 64, .inl ml))])) ([(md, .inr (5, [.int (2 : Int32), .int mF, .int mR, .ref r1, .ref r2, .ref r3, .int (zI mt), .int mk, .int mw, .int mm, .int mb, .int ms, .ref r4, .int my])), (r1, .inl (gJ g, 327680, .inr (.inl ((mX5_build_3 mF mR tb gr fu_1_1).1)))), (r2, .inl (gZ g, 6, .inl (upd (fun _ => (0 : Int32)) (3 : Int32).toNatClampNeg (vp_nar .boolean (1 : Int32))))), (r3, .inl (gI g, 6, .inl ((mX5_build_3 mF mR tb gr fu_1_1).2))), (r4, .inl (gI g, 64, .inl ml))]) := hD
            refine lv_iconst (v := (0 : Int32)) hx hb dX5_find_118 (by decide) ?_
            have hfin : ((0 : Int32), (2 : Int32), (mX5_build_3 mF mR tb gr fu_1_1).1, (mX5_build_3 mF mR tb gr fu_1_1).2, upd (fun _ => (0 : Int32)) (3 : Int32).toNatClampNeg (vp_nar .boolean (1 : Int32))) = (mX5_find_3 mF mR tb gr fu_1_1 who nn ix) := (by rw [mX5_find_3_L1, if_pos c_4] : mX5_find_3_L1 mF mR tb gr fu_1_1 who nn ix (k1 + 1) i1 left1 = ((0 : Int32), (2 : Int32), (mX5_build_3 mF mR tb gr fu_1_1).1, (mX5_build_3 mF mR tb gr fu_1_1).2, upd (fun _ => (0 : Int32)) (3 : Int32).toNatClampNeg (vp_nar .boolean (1 : Int32)))).symm.trans hm
            exact et_iretW hx hb hr hlocks dX5_find_119 hP hS (by rw [← hfin]) ((by rw [← hfin]))
          ·
            refine lv_aload_n hx hb dX5_find_58 rfl (lv_at hl 2 rfl) ?_
            refine lv_iload_n hx hb dX5_find_59 rfl (lv_at hl 3 rfl) ?_
            refine lv_iload_n hx hb dX5_find_60 rfl (lv_at hl 4 rfl) ?_
            refine lv_iload_n hx hb dX5_find_61 rfl (lv_at hl 5 rfl) ?_
            refine lv_iload hx hb dX5_find_62 (lv_at hl 0 rfl) ?_
            refine et_callP1 (v := .int (zI (mX5_isOne mF mR ((mX5_build_3 mF mR tb gr fu_1_1).1) (3 : Int32) who nn (nI i1)))) (va_runV (As := [.int (3 : Int32), .int who, .int nn, .int (nI i1)]) (rest := []) ⟨hx, hb, hml, hown, hts⟩ (c_X5_isOne l g md r1 r2 r3 r4 mF mR (mX5_find_3_V1 who) ((mX5_build_3 mF mR tb gr fu_1_1).1) (upd (fun _ => (0 : Int32)) (3 : Int32).toNatClampNeg (vp_nar .boolean (1 : Int32))) ((mX5_build_3 mF mR tb gr fu_1_1).2) mt mk mw mm mb ms ml my (3 : Int32) who nn (nI i1) (by assumption) (by assumption) (et_kdl (by decide)) (et_findV_3 (by assumption)) (et_ati (by omega))) (cwV 4 hts (W0_gV w_874 w_876 w_67 w_82 w_877) rfl rfl rfl (by decide +kernel) ⟨Nat.le_of_ble_eq_true rfl, Nat.le_of_ble_eq_true rfl⟩) (et_preV hP hC [0, 1, 2, 3, 4] rfl (ci := 5) (q0 := 0) rfl rfl) rfl rfl hl.1 rfl (lv_room (Nat.le_of_ble_eq_true rfl)) dX5_find_64 ⟨Nat.le_of_ble_eq_true rfl, Nat.le_of_ble_eq_true rfl⟩) ?_
            refine lv_if_eq (tgt := 107) hx hb dX5_find_67 (by decide) (fun c_5 => ?_) (fun c_5 => ?_)
            ·
              refine lv_iinc (v := nI (i1 + 1)) (lv' := [(6, .int (nI (i1 + 1))), (5, .int left1), (0, .ref md), (1, .int (3 : Int32)), (2, .int who), (3, .int nn), (4, .int ix)]) hx hb dX5_find_107 hl (k := 0) rfl (et_inc i1) (by decide) rfl (fun ls hl => ?_)
              refine lv_goto (tgt := 46) hx hb dX5_find_110 (by decide) ?_
              exact ih1 (i1 + 1) left1 (by omega) ((by rw [mX5_find_3_L1, if_neg c_4, if_pos c_5] : mX5_find_3_L1 mF mR tb gr fu_1_1 who nn ix (k1 + 1) i1 left1 = mX5_find_3_L1 mF mR tb gr fu_1_1 who nn ix k1 (i1 + 1) left1).symm.trans hm) _ _ hP hD hS ls (lv_sub hl [0, 1, 2, 3, 4, 5, 6] rfl)
            ·
              refine lv_iload hx hb dX5_find_70 (lv_at hl 1 rfl) ?_
              refine lv_if_ne (tgt := 104) hx hb dX5_find_72 (by decide) (fun c_6 => ?_) (fun c_6 => ?_)
              ·
                refine lv_iinc (v := left1 + (-1 : Int32)) (lv' := [(5, .int (left1 + (-1 : Int32))), (6, .int (nI i1)), (0, .ref md), (1, .int (3 : Int32)), (2, .int who), (3, .int nn), (4, .int ix)]) hx hb dX5_find_104 hl (k := 1) rfl rfl (by decide) rfl (fun ls hl => ?_)
                refine lv_iinc (v := nI (i1 + 1)) (lv' := [(6, .int (nI (i1 + 1))), (5, .int (left1 + (-1 : Int32))), (0, .ref md), (1, .int (3 : Int32)), (2, .int who), (3, .int nn), (4, .int ix)]) hx hb dX5_find_107 hl (k := 1) rfl (et_inc i1) (by decide) rfl (fun ls hl => ?_)
                refine lv_goto (tgt := 46) hx hb dX5_find_110 (by decide) ?_
                exact ih1 (i1 + 1) (left1 + (-1 : Int32)) (by omega) ((by rw [mX5_find_3_L1, if_neg c_4, if_neg c_5, if_neg c_6] : mX5_find_3_L1 mF mR tb gr fu_1_1 who nn ix (k1 + 1) i1 left1 = mX5_find_3_L1 mF mR tb gr fu_1_1 who nn ix k1 (i1 + 1) (left1 + (-1 : Int32))).symm.trans hm) _ _ hP hD hS ls (lv_sub hl [0, 1, 2, 3, 4, 5, 6] rfl)
              ·
                refine lv_iload hx hb dX5_find_75 (lv_at hl 0 rfl) ?_
                refine lv_sipush (v := (4096 : Int32)) hx hb dX5_find_77 (by decide) ?_
                refine lv_idiv hx hb dX5_find_80 (by decide) ?_
                refine lv_bipush (v := (64 : Int32)) hx hb dX5_find_81 (by decide) ?_
                refine lv_iload hx hb dX5_find_83 (lv_at hl 0 rfl) ?_
                refine lv_bipush (v := (64 : Int32)) hx hb dX5_find_85 (by decide) ?_
                refine lv_idiv hx hb dX5_find_87 (by decide) ?_
                refine lv_bipush (v := (64 : Int32)) hx hb dX5_find_88 (by decide) ?_
                refine lv_irem hx hb dX5_find_90 (by decide) ?_
                refine lv_imul hx hb dX5_find_91 ?_
                refine lv_iadd hx hb dX5_find_92 ?_
                refine lv_sipush (v := (4096 : Int32)) hx hb dX5_find_93 (by decide) ?_
                refine lv_iload hx hb dX5_find_96 (lv_at hl 0 rfl) ?_
                refine lv_bipush (v := (64 : Int32)) hx hb dX5_find_98 (by decide) ?_
                refine lv_irem hx hb dX5_find_100 (by decide) ?_
                refine lv_imul hx hb dX5_find_101 ?_
                refine lv_iadd hx hb dX5_find_102 ?_
                have hfin : ((((nI i1) / (4096 : Int32)) + ((64 : Int32) * (((nI i1) / (64 : Int32)) - ((nI i1) / (64 : Int32)) / (64 : Int32) * (64 : Int32)))) + ((4096 : Int32) * ((nI i1) - (nI i1) / (64 : Int32) * (64 : Int32))), (mX5_find_3_V1 who), (mX5_build_3 mF mR tb gr fu_1_1).1, (mX5_build_3 mF mR tb gr fu_1_1).2, upd (fun _ => (0 : Int32)) (3 : Int32).toNatClampNeg (vp_nar .boolean (1 : Int32))) = (mX5_find_3 mF mR tb gr fu_1_1 who nn ix) := (by rw [mX5_find_3_L1, if_neg c_4, if_neg c_5, if_pos c_6] : mX5_find_3_L1 mF mR tb gr fu_1_1 who nn ix (k1 + 1) i1 left1 = ((((nI i1) / (4096 : Int32)) + ((64 : Int32) * (((nI i1) / (64 : Int32)) - ((nI i1) / (64 : Int32)) / (64 : Int32) * (64 : Int32)))) + ((4096 : Int32) * ((nI i1) - (nI i1) / (64 : Int32) * (64 : Int32))), (mX5_find_3_V1 who), (mX5_build_3 mF mR tb gr fu_1_1).1, (mX5_build_3 mF mR tb gr fu_1_1).2, upd (fun _ => (0 : Int32)) (3 : Int32).toNatClampNeg (vp_nar .boolean (1 : Int32)))).symm.trans hm
                exact et_iretW hx hb hr hlocks dX5_find_103 hP hS (by rw [← hfin]) ((by rw [← hfin]))
      exact hL1 262144 0 ix (by omega) (show mX5_find_3_L1 mF mR tb gr fu_1_1 who nn ix 262144 0 ix = (mX5_find_3 mF mR tb gr fu_1_1 who nn ix) from (by rw [mX5_find_3, if_pos c_1])) _ _ hP hD hS ls (lv_sub hl [0, 1, 2, 3, 4, 5, 6] rfl)
    ·
      refine lv_iconst (v := (0 : Int32)) hx hb dX5_find_32 (by decide) ?_
      have hfin : ((0 : Int32), (mX5_find_3_V1 who), tb, gr, (fun _ => (0 : Int32))) = (mX5_find_3 mF mR tb gr fu_1_1 who nn ix) := (by rw [mX5_find_3, if_neg c_1])
      exact et_iretW hx hb hr hlocks dX5_find_33 hP hS (by rw [← hfin]) ((by rw [← hfin]))
  refine lv_iload_n hx hb dX5_find_1 rfl (lv_at hl 1 rfl) ?_
  refine et_callP1 (v := .int (zI (mX5_isKind (3 : Int32)))) (va_runS (As := [.int (3 : Int32)]) (rest := [.ref md]) ⟨hx, hb, hml, hown, hts⟩ (c_X5_isKind l g (3 : Int32)) (va_cwS 1 hts (W0_gS w_789 w_790 w_82 w_791) rfl rfl rfl (by decide +kernel) ⟨Nat.le_of_ble_eq_true rfl, Nat.le_of_ble_eq_true rfl⟩) (et_preS hP hC [] rfl) rfl rfl hl.1 rfl (lv_room (Nat.le_of_ble_eq_true rfl)) dX5_find_2 ⟨Nat.le_of_ble_eq_true rfl, Nat.le_of_ble_eq_true rfl⟩) ?_
  refine lv_if_eq (tgt := 21) hx hb dX5_find_5 (by decide) (fun c_7 => ?_) (fun c_7 => ?_)
  ·
    refine lv_iconst (v := (1 : Int32)) hx hb dX5_find_21 (by decide) ?_
    have he1 : ((1 : Int32) : Int32) = (mX5_find_3_V1 who) := (by rw [mX5_find_3_V1, if_pos c_7])
    exact et_stki he1 (hj1 ls (lv_sub hl [0, 1, 2, 3, 4] rfl))
  ·
    refine lv_iload_n hx hb dX5_find_8 rfl (lv_at hl 2 rfl) ?_
    refine lv_if_lt (tgt := 21) hx hb dX5_find_9 (by decide) (fun c_8 => ?_) (fun c_8 => ?_)
    ·
      refine lv_iconst (v := (1 : Int32)) hx hb dX5_find_21 (by decide) ?_
      have he2 : ((1 : Int32) : Int32) = (mX5_find_3_V1 who) := (by rw [mX5_find_3_V1, if_neg c_7, if_pos c_8])
      exact et_stki he2 (hj1 ls (lv_sub hl [0, 1, 2, 3, 4] rfl))
    ·
      refine lv_iload_n hx hb dX5_find_12 rfl (lv_at hl 2 rfl) ?_
      refine lv_iconst (v := (2 : Int32)) hx hb dX5_find_13 (by decide) ?_
      refine lv_icmp_ge (tgt := 21) hx hb dX5_find_14 (by decide) (fun c_9 => ?_) (fun c_9 => ?_)
      ·
        refine lv_iconst (v := (1 : Int32)) hx hb dX5_find_21 (by decide) ?_
        have he3 : ((1 : Int32) : Int32) = (mX5_find_3_V1 who) := (by rw [mX5_find_3_V1, if_neg c_7, if_neg c_8, if_pos c_9])
        exact et_stki he3 (hj1 ls (lv_sub hl [0, 1, 2, 3, 4] rfl))
      ·
        refine lv_iconst (v := (0 : Int32)) hx hb dX5_find_17 (by decide) ?_
        refine lv_goto (tgt := 22) hx hb dX5_find_18 (by decide) ?_
        have he4 : ((0 : Int32) : Int32) = (mX5_find_3_V1 who) := (by rw [mX5_find_3_V1, if_neg c_7, if_neg c_8, if_neg c_9])
        exact et_stki he4 (hj1 ls (lv_sub hl [0, 1, 2, 3, 4] rfl))

def mX5_longest_3_V1  : Int32 :=
  if (zI (mX5_isKind (3 : Int32))) = 0 then
    (1 : Int32)
  else
    (0 : Int32)
def mX5_longest_3 (mF : Int32) (mR : Int32) (tb : Nat → Int64) (gr : Nat → Int32) (fu_1_1 : Nat) : Int32 × Int32 × (Nat → Int64) × (Nat → Int32) × (Nat → Int32) :=
  if (mX5_longest_3_V1) ≤ 0 then
    (((mX5_build_3 mF mR tb gr fu_1_1).2) (3 : Int32).toNatClampNeg, (mX5_longest_3_V1), (mX5_build_3 mF mR tb gr fu_1_1).1, (mX5_build_3 mF mR tb gr fu_1_1).2, upd (fun _ => (0 : Int32)) (3 : Int32).toNatClampNeg (vp_nar .boolean (1 : Int32)))
  else
    ((0 : Int32), (mX5_longest_3_V1), tb, gr, (fun _ => (0 : Int32)))
set_option maxHeartbeats 4000000 in
set_option maxRecDepth 100000 in
theorem c_X5_longest_3 (l : Launch) (g : et_G) (md : Nat) (r1 : Nat) (r2 : Nat) (r3 : Nat) (r4 : Nat) (mF : Int32) (mR : Int32) (th : Int32) (tb : Nat → Int64) (gr : Nat → Int32) (mt : Bool) (mk : Int32) (mw : Int32) (mm : Int32) (mb : Int32) (ms : Int32) (ml : Nat → Int32) (my : Int32) (fu_1_1 : Nat) (hF : et_b8 mF) (hR : et_b8 mR) (hT_2_2 : mX5_passAll_L1_ok mF mR (3 : Int32) (1 : Int32) fu_1_1 0 (0 : Int32) (0 : Int32) tb (upd gr (3 : Int32).toNatClampNeg (-1 : Int32)) = true) : Met l yX5_longest (Cond.code yX5_longest cX5_longest 2 (some (.int)) :: W0) ({ frames := 7, cells := 0, slots := 0, locals := 185 } : Room) (et_PcW g ([(md, .inr (5, [.int th, .int mF, .int mR, .ref r1, .ref r2, .ref r3, .int (zI mt), .int mk, .int mw, .int mm, .int mb, .int ms, .ref r4, .int my])), (r1, .inl (gJ g, 327680, .inr (.inl tb))), (r2, .inl (gZ g, 6, .inl (fun _ => (0 : Int32)))), (r3, .inl (gI g, 6, .inl gr)), (r4, .inl (gI g, 64, .inl ml))]) [.ref md, .int (3 : Int32)]) (et_QW g ([(md, .inr (5, [.int th, .int mF, .int mR, .ref r1, .ref r2, .ref r3, .int (zI mt), .int mk, .int mw, .int mm, .int mb, .int ms, .ref r4, .int my])), (r1, .inl (gJ g, 327680, .inr (.inl tb))), (r2, .inl (gZ g, 6, .inl (fun _ => (0 : Int32)))), (r3, .inl (gI g, 6, .inl gr)), (r4, .inl (gI g, 64, .inl ml))]) ([(md, .inr (5, [.int ((mX5_longest_3 mF mR tb gr fu_1_1).2.1), .int mF, .int mR, .ref r1, .ref r2, .ref r3, .int (zI mt), .int mk, .int mw, .int mm, .int mb, .int ms, .ref r4, .int my])), (r1, .inl (gJ g, 327680, .inr (.inl ((mX5_longest_3 mF mR tb gr fu_1_1).2.2.1)))), (r2, .inl (gZ g, 6, .inl ((mX5_longest_3 mF mR tb gr fu_1_1).2.2.2.2))), (r3, .inl (gI g, 6, .inl ((mX5_longest_3 mF mR tb gr fu_1_1).2.2.2.1))), (r4, .inl (gI g, 64, .inl ml))]) (some (.int ((mX5_longest_3 mF mR tb gr fu_1_1).1)))) 0 0 (et_ad ([(md, .inr (5, [.int th, .int mF, .int mR, .ref r1, .ref r2, .ref r3, .int (zI mt), .int mk, .int mw, .int mm, .int mb, .int ms, .ref r4, .int my])), (r1, .inl (gJ g, 327680, .inr (.inl tb))), (r2, .inl (gZ g, 6, .inl (fun _ => (0 : Int32)))), (r3, .inl (gI g, 6, .inl gr)), (r4, .inl (gI g, 64, .inl ml))])) := by
  refine et_startW (by decide) rfl (Nat.le_of_ble_eq_true rfl) ?_
  intro p e s m args below meth c hx hb hr hts0 hown hlocks hml hP hC hD hS ls hl
  have hts : ∀ w ∈ W0, w.before args s = true := fun w h => hts0 w (List.mem_cons_of_mem _ h)
  have hown : s.vm.findClass RX5 = some m.cls := hown
  have hl : lv_has ls 2 [(0, .ref md), (1, .int (3 : Int32))] := hl
  refine lv_aload_n hx hb dX5_longest_0 rfl (lv_at hl 0 rfl) ?_
  have hj1 : ∀ ls : Array Slot, lv_has ls 2 [(0, .ref md), (1, .int (3 : Int32))] → W p l e ({ frames := 7, cells := 0, slots := 0, locals := 185 } : Room) s m args below meth c s.heap [] 0 0 (MQ below (et_QW g ([(md, .inr (5, [.int th, .int mF, .int mR, .ref r1, .ref r2, .ref r3, .int (zI mt), .int mk, .int mw, .int mm, .int mb, .int ms, .ref r4, .int my])), (r1, .inl (gJ g, 327680, .inr (.inl tb))), (r2, .inl (gZ g, 6, .inl (fun _ => (0 : Int32)))), (r3, .inl (gI g, 6, .inl gr)), (r4, .inl (gI g, 64, .inl ml))]) ([(md, .inr (5, [.int ((mX5_longest_3 mF mR tb gr fu_1_1).2.1), .int mF, .int mR, .ref r1, .ref r2, .ref r3, .int (zI mt), .int mk, .int mw, .int mm, .int mb, .int ms, .ref r4, .int my])), (r1, .inl (gJ g, 327680, .inr (.inl ((mX5_longest_3 mF mR tb gr fu_1_1).2.2.1)))), (r2, .inl (gZ g, 6, .inl ((mX5_longest_3 mF mR tb gr fu_1_1).2.2.2.2))), (r3, .inl (gI g, 6, .inl ((mX5_longest_3 mF mR tb gr fu_1_1).2.2.2.1))), (r4, .inl (gI g, 64, .inl ml))]) (some (.int ((mX5_longest_3 mF mR tb gr fu_1_1).1)))) args s 0 0 (et_ad ([(md, .inr (5, [.int th, .int mF, .int mR, .ref r1, .ref r2, .ref r3, .int (zI mt), .int mk, .int mw, .int mm, .int mb, .int ms, .ref r4, .int my])), (r1, .inl (gJ g, 327680, .inr (.inl tb))), (r2, .inl (gZ g, 6, .inl (fun _ => (0 : Int32)))), (r3, .inl (gI g, 6, .inl gr)), (r4, .inl (gI g, 64, .inl ml))]))) (F0 m 13 ls [.int (mX5_longest_3_V1), .ref md]) := by
    intro ls hl
    refine va_put (D := gD g) (ci := 5) (v := .int (mX5_longest_3_V1)) (ty := .int) (C := RX5) (T := TX5) (N := 14) hx hb hts inW_X5 tyX5 tyX5_ok nmX5 hown hC.1 hP hD hS 0 rfl rfl 0 (by decide) (hts _ w_733) (fun _ h9 => h9) rfl (by decide +kernel) rfl rfl (Nat.le_of_ble_eq_true rfl) dX5_longest_13 (fun H locs hP hD hS => ?_)
    have hP : va_P (gD g) vwCl ([(md, .inr (5, [.int (mX5_longest_3_V1), .int mF, .int mR, .ref r1, .ref r2, .ref r3, .int (zI mt), .int mk, .int mw, .int mm, .int mb, .int ms, .ref r4, .int my])), (r1, .inl (gJ g, 327680, .inr (.inl tb))), (r2, .inl (gZ g, 6, .inl (fun _ => (0 : Int32)))), (r3, .inl (gI g, 6, .inl gr)), (r4, .inl (gI g, 64, .inl ml))]) H := hP
    have hD : va_D (et_ad ([(md, .inr (5, [.int th, .int mF, .int mR, .ref r1, .ref r2, .ref r3, .int (zI mt), .int mk, .int mw, .int mm, .int mb, .int ms, .ref r4, .int my])), (r1, .inl (gJ g, 327680, .inr (.inl tb))), (r2, .inl (gZ g, 6, .inl (fun _ => (0 : Int32)))), (r3, .inl (gI g, 6, .inl gr)), (r4, .inl (gI g, 64, .inl ml))])) ([(md, .inr (5, [.int (mX5_longest_3_V1), .int mF, .int mR, .ref r1, .ref r2, .ref r3, .int (zI mt), .int mk, .int mw, .int mm, .int mb, .int ms, .ref r4, .int my])), (r1, .inl (gJ g, 327680, .inr (.inl tb))), (r2, .inl (gZ g, 6, .inl (fun _ => (0 : Int32)))), (r3, .inl (gI g, 6, .inl gr)), (r4, .inl (gI g, 64, .inl ml))]) := hD
    refine lv_aload_n hx hb dX5_longest_16 rfl (lv_at hl 0 rfl) ?_
    refine va_get (D := gD g) (ci := 5) (v := .int (mX5_longest_3_V1)) (C := RX5) (T := TX5) (N := 14) hx hb hts inW_X5 hown hC.1 hP 0 rfl rfl 0 (by decide) (hts _ w_733) (fun _ h9 => h9) rfl dX5_longest_17 ?_
    refine lv_if_le (tgt := 25) hx hb dX5_longest_20 (by decide) (fun c_1 => ?_) (fun c_1 => ?_)
    ·
      refine lv_aload_n hx hb dX5_longest_25 rfl (lv_at hl 0 rfl) ?_
      refine lv_iload_n hx hb dX5_longest_26 rfl (lv_at hl 1 rfl) ?_
      refine et_callW0 (ws' := [(md, .inr (5, [.int (mX5_longest_3_V1), .int mF, .int mR, .ref r1, .ref r2, .ref r3, .int (zI mt), .int mk, .int mw, .int mm, .int mb, .int ms, .ref r4, .int my])), (r1, .inl (gJ g, 327680, .inr (.inl ((mX5_build_3 mF mR tb gr fu_1_1).1)))), (r2, .inl (gZ g, 6, .inl (upd (fun _ => (0 : Int32)) (3 : Int32).toNatClampNeg (vp_nar .boolean (1 : Int32))))), (r3, .inl (gI g, 6, .inl ((mX5_build_3 mF mR tb gr fu_1_1).2))), (r4, .inl (gI g, 64, .inl ml))]) (va_runV (As := [.int (3 : Int32)]) (rest := []) ⟨hx, hb, hml, hown, hts⟩ (c_X5_build_3 l g md r1 r2 r3 r4 mF mR (mX5_longest_3_V1) tb gr mt mk mw mm mb ms ml my fu_1_1 (by assumption) (by assumption) hT_2_2) (cwV 1 hts (W0_gV w_821 w_823 w_56 w_82 w_824) rfl rfl rfl (by decide +kernel) ⟨Nat.le_of_ble_eq_true rfl, Nat.le_of_ble_eq_true rfl⟩) (et_preVW hP hC hD [0, 1, 2, 3, 4] (by decide) rfl (ci := 5) (q0 := 0) rfl rfl) rfl rfl hl.1 rfl (lv_room (Nat.le_of_ble_eq_true rfl)) dX5_longest_27 ⟨Nat.le_of_ble_eq_true rfl, Nat.le_of_ble_eq_true rfl⟩) hP hD hS [0, 1, 2, 3, 4] [] 5 rfl [md, r1, r2, r3, r4] rfl rfl rfl [] rfl rfl rfl (by decide +kernel) (fun H locs hP hD hS => ?_)
      refine lv_aload_n hx hb dX5_longest_30 rfl (lv_at hl 0 rfl) ?_
      refine va_get (D := gD g) (ci := 5) (v := .ref r3) (C := RX5) (T := TX5) (N := 14) hx hb hts inW_X5 hown hC.1 hP 0 rfl rfl 5 (by decide) (hts _ w_738) (fun _ h9 => h9) rfl dX5_longest_31 ?_
      refine lv_iload_n hx hb dX5_longest_34 rfl (lv_at hl 1 rfl) ?_
      refine va_iald (D := gD g) hx hb hC.1 hP 3 0 rfl rfl (et_kd_in (et_kdl (by decide))) dX5_longest_35 ?_
      have hfin : (((mX5_build_3 mF mR tb gr fu_1_1).2) (3 : Int32).toNatClampNeg, (mX5_longest_3_V1), (mX5_build_3 mF mR tb gr fu_1_1).1, (mX5_build_3 mF mR tb gr fu_1_1).2, upd (fun _ => (0 : Int32)) (3 : Int32).toNatClampNeg (vp_nar .boolean (1 : Int32))) = (mX5_longest_3 mF mR tb gr fu_1_1) := (by rw [mX5_longest_3, if_pos c_1])
      exact et_iretW hx hb hr hlocks dX5_longest_36 hP hS (by rw [← hfin]) ((by rw [← hfin]))
    ·
      refine lv_iconst (v := (0 : Int32)) hx hb dX5_longest_23 (by decide) ?_
      have hfin : ((0 : Int32), (mX5_longest_3_V1), tb, gr, (fun _ => (0 : Int32))) = (mX5_longest_3 mF mR tb gr fu_1_1) := (by rw [mX5_longest_3, if_neg c_1])
      exact et_iretW hx hb hr hlocks dX5_longest_24 hP hS (by rw [← hfin]) ((by rw [← hfin]))
  refine lv_iload_n hx hb dX5_longest_1 rfl (lv_at hl 1 rfl) ?_
  refine et_callP1 (v := .int (zI (mX5_isKind (3 : Int32)))) (va_runS (As := [.int (3 : Int32)]) (rest := [.ref md]) ⟨hx, hb, hml, hown, hts⟩ (c_X5_isKind l g (3 : Int32)) (va_cwS 1 hts (W0_gS w_789 w_790 w_82 w_791) rfl rfl rfl (by decide +kernel) ⟨Nat.le_of_ble_eq_true rfl, Nat.le_of_ble_eq_true rfl⟩) (et_preS hP hC [] rfl) rfl rfl hl.1 rfl (lv_room (Nat.le_of_ble_eq_true rfl)) dX5_longest_2 ⟨Nat.le_of_ble_eq_true rfl, Nat.le_of_ble_eq_true rfl⟩) ?_
  refine lv_if_eq (tgt := 12) hx hb dX5_longest_5 (by decide) (fun c_2 => ?_) (fun c_2 => ?_)
  ·
    refine lv_iconst (v := (1 : Int32)) hx hb dX5_longest_12 (by decide) ?_
    have he1 : ((1 : Int32) : Int32) = (mX5_longest_3_V1) := (by rw [mX5_longest_3_V1, if_pos c_2])
    exact et_stki he1 (hj1 ls (lv_sub hl [0, 1] rfl))
  ·
    refine lv_iconst (v := (0 : Int32)) hx hb dX5_longest_8 (by decide) ?_
    refine lv_goto (tgt := 13) hx hb dX5_longest_9 (by decide) ?_
    have he2 : ((0 : Int32) : Int32) = (mX5_longest_3_V1) := (by rw [mX5_longest_3_V1, if_neg c_2])
    exact et_stki he2 (hj1 ls (lv_sub hl [0, 1] rfl))

def mX5_distance_4_V1 (mF : Int32) (mR : Int32) (ww : Int32) (wm : Int32) (wb : Int32) (who : Int32) : Int32 :=
  if (zI (mX5_isKind (4 : Int32))) = 0 then
    (1 : Int32)
  else
    if (zI (mX5_isPosition mF mR (4 : Int32) ww wm wb who)) = 0 then
      (1 : Int32)
    else
      (0 : Int32)
def mX5_distance_4 (mF : Int32) (mR : Int32) (tb : Nat → Int64) (gr : Nat → Int32) (fu_1_1_1 : Nat) (ww : Int32) (wm : Int32) (wb : Int32) (who : Int32) : Int32 × Int32 × (Nat → Int64) × (Nat → Int32) × (Nat → Int32) :=
  if (mX5_distance_4_V1 mF mR ww wm wb who) ≤ 0 then
    ((mX5_distanceOf_4 mF mR tb gr fu_1_1_1 ww wm wb who).1, (mX5_distance_4_V1 mF mR ww wm wb who), (mX5_distanceOf_4 mF mR tb gr fu_1_1_1 ww wm wb who).2.1, (mX5_distanceOf_4 mF mR tb gr fu_1_1_1 ww wm wb who).2.2, upd (fun _ => (0 : Int32)) (4 : Int32).toNatClampNeg (vp_nar .boolean (1 : Int32)))
  else
    ((0 : Int32), (mX5_distance_4_V1 mF mR ww wm wb who), tb, gr, (fun _ => (0 : Int32)))
theorem et_distV_4 {mF mR ww wm wb who : Int32} (h : mX5_distance_4_V1 mF mR ww wm wb who ≤ 0) : et_sd who ∧ et_r64 ww ∧ et_r64 wm ∧ et_r64 wb := by
  refine et_posr (mF := mF) (mR := mR) (kd := (4 : Int32)) (by decide) (fun h1 => ?_)
  unfold mX5_distance_4_V1 at h
  rw [if_neg (show ¬ zI (mX5_isKind (4 : Int32)) = 0 by decide), if_pos h1] at h
  exact absurd h (by decide)
set_option maxHeartbeats 4000000 in
set_option maxRecDepth 100000 in
theorem c_X5_distance_4 (l : Launch) (g : et_G) (md : Nat) (r1 : Nat) (r2 : Nat) (r3 : Nat) (r4 : Nat) (mF : Int32) (mR : Int32) (th : Int32) (tb : Nat → Int64) (gr : Nat → Int32) (mt : Bool) (mk : Int32) (mw : Int32) (mm : Int32) (mb : Int32) (ms : Int32) (ml : Nat → Int32) (my : Int32) (fu_1_1_1 : Nat) (ww : Int32) (wm : Int32) (wb : Int32) (who : Int32) (hF : et_b8 mF) (hR : et_b8 mR) (hT_2_2_2 : mX5_passAll_L1_ok mF mR (4 : Int32) (1 : Int32) fu_1_1_1 0 (0 : Int32) (0 : Int32) tb (upd gr (4 : Int32).toNatClampNeg (-1 : Int32)) = true) : Met l yX5_distance (Cond.code yX5_distance cX5_distance 6 (some (.int)) :: W0) ({ frames := 8, cells := 0, slots := 0, locals := 210 } : Room) (et_PcW g ([(md, .inr (5, [.int th, .int mF, .int mR, .ref r1, .ref r2, .ref r3, .int (zI mt), .int mk, .int mw, .int mm, .int mb, .int ms, .ref r4, .int my])), (r1, .inl (gJ g, 327680, .inr (.inl tb))), (r2, .inl (gZ g, 6, .inl (fun _ => (0 : Int32)))), (r3, .inl (gI g, 6, .inl gr)), (r4, .inl (gI g, 64, .inl ml))]) [.ref md, .int (4 : Int32), .int ww, .int wm, .int wb, .int who]) (et_QW g ([(md, .inr (5, [.int th, .int mF, .int mR, .ref r1, .ref r2, .ref r3, .int (zI mt), .int mk, .int mw, .int mm, .int mb, .int ms, .ref r4, .int my])), (r1, .inl (gJ g, 327680, .inr (.inl tb))), (r2, .inl (gZ g, 6, .inl (fun _ => (0 : Int32)))), (r3, .inl (gI g, 6, .inl gr)), (r4, .inl (gI g, 64, .inl ml))]) ([(md, .inr (5, [.int ((mX5_distance_4 mF mR tb gr fu_1_1_1 ww wm wb who).2.1), .int mF, .int mR, .ref r1, .ref r2, .ref r3, .int (zI mt), .int mk, .int mw, .int mm, .int mb, .int ms, .ref r4, .int my])), (r1, .inl (gJ g, 327680, .inr (.inl ((mX5_distance_4 mF mR tb gr fu_1_1_1 ww wm wb who).2.2.1)))), (r2, .inl (gZ g, 6, .inl ((mX5_distance_4 mF mR tb gr fu_1_1_1 ww wm wb who).2.2.2.2))), (r3, .inl (gI g, 6, .inl ((mX5_distance_4 mF mR tb gr fu_1_1_1 ww wm wb who).2.2.2.1))), (r4, .inl (gI g, 64, .inl ml))]) (some (.int ((mX5_distance_4 mF mR tb gr fu_1_1_1 ww wm wb who).1)))) 0 0 (et_ad ([(md, .inr (5, [.int th, .int mF, .int mR, .ref r1, .ref r2, .ref r3, .int (zI mt), .int mk, .int mw, .int mm, .int mb, .int ms, .ref r4, .int my])), (r1, .inl (gJ g, 327680, .inr (.inl tb))), (r2, .inl (gZ g, 6, .inl (fun _ => (0 : Int32)))), (r3, .inl (gI g, 6, .inl gr)), (r4, .inl (gI g, 64, .inl ml))])) := by
  refine et_startW (by decide) rfl (Nat.le_of_ble_eq_true rfl) ?_
  intro p e s m args below meth c hx hb hr hts0 hown hlocks hml hP hC hD hS ls hl
  have hts : ∀ w ∈ W0, w.before args s = true := fun w h => hts0 w (List.mem_cons_of_mem _ h)
  have hown : s.vm.findClass RX5 = some m.cls := hown
  have hl : lv_has ls 6 [(0, .ref md), (1, .int (4 : Int32)), (2, .int ww), (3, .int wm), (4, .int wb), (5, .int who)] := hl
  refine lv_aload_n hx hb dX5_distance_0 rfl (lv_at hl 0 rfl) ?_
  have hj1 : ∀ ls : Array Slot, lv_has ls 6 [(0, .ref md), (1, .int (4 : Int32)), (2, .int ww), (3, .int wm), (4, .int wb), (5, .int who)] → W p l e ({ frames := 8, cells := 0, slots := 0, locals := 210 } : Room) s m args below meth c s.heap [] 0 0 (MQ below (et_QW g ([(md, .inr (5, [.int th, .int mF, .int mR, .ref r1, .ref r2, .ref r3, .int (zI mt), .int mk, .int mw, .int mm, .int mb, .int ms, .ref r4, .int my])), (r1, .inl (gJ g, 327680, .inr (.inl tb))), (r2, .inl (gZ g, 6, .inl (fun _ => (0 : Int32)))), (r3, .inl (gI g, 6, .inl gr)), (r4, .inl (gI g, 64, .inl ml))]) ([(md, .inr (5, [.int ((mX5_distance_4 mF mR tb gr fu_1_1_1 ww wm wb who).2.1), .int mF, .int mR, .ref r1, .ref r2, .ref r3, .int (zI mt), .int mk, .int mw, .int mm, .int mb, .int ms, .ref r4, .int my])), (r1, .inl (gJ g, 327680, .inr (.inl ((mX5_distance_4 mF mR tb gr fu_1_1_1 ww wm wb who).2.2.1)))), (r2, .inl (gZ g, 6, .inl ((mX5_distance_4 mF mR tb gr fu_1_1_1 ww wm wb who).2.2.2.2))), (r3, .inl (gI g, 6, .inl ((mX5_distance_4 mF mR tb gr fu_1_1_1 ww wm wb who).2.2.2.1))), (r4, .inl (gI g, 64, .inl ml))]) (some (.int ((mX5_distance_4 mF mR tb gr fu_1_1_1 ww wm wb who).1)))) args s 0 0 (et_ad ([(md, .inr (5, [.int th, .int mF, .int mR, .ref r1, .ref r2, .ref r3, .int (zI mt), .int mk, .int mw, .int mm, .int mb, .int ms, .ref r4, .int my])), (r1, .inl (gJ g, 327680, .inr (.inl tb))), (r2, .inl (gZ g, 6, .inl (fun _ => (0 : Int32)))), (r3, .inl (gI g, 6, .inl gr)), (r4, .inl (gI g, 64, .inl ml))]))) (F0 m 27 ls [.int (mX5_distance_4_V1 mF mR ww wm wb who), .ref md]) := by
    intro ls hl
    refine va_put (D := gD g) (ci := 5) (v := .int (mX5_distance_4_V1 mF mR ww wm wb who)) (ty := .int) (C := RX5) (T := TX5) (N := 14) hx hb hts inW_X5 tyX5 tyX5_ok nmX5 hown hC.1 hP hD hS 0 rfl rfl 0 (by decide) (hts _ w_733) (fun _ h9 => h9) rfl (by decide +kernel) rfl rfl (Nat.le_of_ble_eq_true rfl) dX5_distance_27 (fun H locs hP hD hS => ?_)
    have hP : va_P (gD g) vwCl ([(md, .inr (5, [.int (mX5_distance_4_V1 mF mR ww wm wb who), .int mF, .int mR, .ref r1, .ref r2, .ref r3, .int (zI mt), .int mk, .int mw, .int mm, .int mb, .int ms, .ref r4, .int my])), (r1, .inl (gJ g, 327680, .inr (.inl tb))), (r2, .inl (gZ g, 6, .inl (fun _ => (0 : Int32)))), (r3, .inl (gI g, 6, .inl gr)), (r4, .inl (gI g, 64, .inl ml))]) H := hP
    have hD : va_D (et_ad ([(md, .inr (5, [.int th, .int mF, .int mR, .ref r1, .ref r2, .ref r3, .int (zI mt), .int mk, .int mw, .int mm, .int mb, .int ms, .ref r4, .int my])), (r1, .inl (gJ g, 327680, .inr (.inl tb))), (r2, .inl (gZ g, 6, .inl (fun _ => (0 : Int32)))), (r3, .inl (gI g, 6, .inl gr)), (r4, .inl (gI g, 64, .inl ml))])) ([(md, .inr (5, [.int (mX5_distance_4_V1 mF mR ww wm wb who), .int mF, .int mR, .ref r1, .ref r2, .ref r3, .int (zI mt), .int mk, .int mw, .int mm, .int mb, .int ms, .ref r4, .int my])), (r1, .inl (gJ g, 327680, .inr (.inl tb))), (r2, .inl (gZ g, 6, .inl (fun _ => (0 : Int32)))), (r3, .inl (gI g, 6, .inl gr)), (r4, .inl (gI g, 64, .inl ml))]) := hD
    refine lv_aload_n hx hb dX5_distance_30 rfl (lv_at hl 0 rfl) ?_
    refine va_get (D := gD g) (ci := 5) (v := .int (mX5_distance_4_V1 mF mR ww wm wb who)) (C := RX5) (T := TX5) (N := 14) hx hb hts inW_X5 hown hC.1 hP 0 rfl rfl 0 (by decide) (hts _ w_733) (fun _ h9 => h9) rfl dX5_distance_31 ?_
    refine lv_if_le (tgt := 41) hx hb dX5_distance_34 (by decide) (fun c_1 => ?_) (fun c_1 => ?_)
    ·
      refine lv_aload_n hx hb dX5_distance_41 rfl (lv_at hl 0 rfl) ?_
      refine lv_iload_n hx hb dX5_distance_42 rfl (lv_at hl 1 rfl) ?_
      refine lv_iload_n hx hb dX5_distance_43 rfl (lv_at hl 2 rfl) ?_
      refine lv_iload_n hx hb dX5_distance_44 rfl (lv_at hl 3 rfl) ?_
      refine lv_iload hx hb dX5_distance_45 (lv_at hl 4 rfl) ?_
      refine lv_iload hx hb dX5_distance_47 (lv_at hl 5 rfl) ?_
      refine et_callW1 (v := .int ((mX5_distanceOf_4 mF mR tb gr fu_1_1_1 ww wm wb who).1)) (ws' := [(md, .inr (5, [.int (mX5_distance_4_V1 mF mR ww wm wb who), .int mF, .int mR, .ref r1, .ref r2, .ref r3, .int (zI mt), .int mk, .int mw, .int mm, .int mb, .int ms, .ref r4, .int my])), (r1, .inl (gJ g, 327680, .inr (.inl ((mX5_distanceOf_4 mF mR tb gr fu_1_1_1 ww wm wb who).2.1)))), (r2, .inl (gZ g, 6, .inl (upd (fun _ => (0 : Int32)) (4 : Int32).toNatClampNeg (vp_nar .boolean (1 : Int32))))), (r3, .inl (gI g, 6, .inl ((mX5_distanceOf_4 mF mR tb gr fu_1_1_1 ww wm wb who).2.2))), (r4, .inl (gI g, 64, .inl ml))]) (va_runV (As := [.int (4 : Int32), .int ww, .int wm, .int wb, .int who]) (rest := []) ⟨hx, hb, hml, hown, hts⟩ (c_X5_distanceOf_4 l g md r1 r2 r3 r4 mF mR (mX5_distance_4_V1 mF mR ww wm wb who) tb gr mt mk mw mm mb ms ml my fu_1_1_1 ww wm wb who (by assumption) (by assumption) (et_distV_4 (by assumption)).1 (et_distV_4 (by assumption)).2.1 (et_distV_4 (by assumption)).2.2.1 (et_distV_4 (by assumption)).2.2.2 hT_2_2_2) (cwV 5 hts (W0_gV w_817 w_819 w_55 w_82 w_820) rfl rfl rfl (by decide +kernel) ⟨Nat.le_of_ble_eq_true rfl, Nat.le_of_ble_eq_true rfl⟩) (et_preVW hP hC hD [0, 1, 2, 3, 4] (by decide) rfl (ci := 5) (q0 := 0) rfl rfl) rfl rfl hl.1 rfl (lv_room (Nat.le_of_ble_eq_true rfl)) dX5_distance_49 ⟨Nat.le_of_ble_eq_true rfl, Nat.le_of_ble_eq_true rfl⟩) hP hD hS [0, 1, 2, 3, 4] [] 5 rfl [md, r1, r2, r3, r4] rfl rfl rfl [] rfl rfl rfl (by decide +kernel) (fun H locs hP hD hS => ?_)
      have hfin : ((mX5_distanceOf_4 mF mR tb gr fu_1_1_1 ww wm wb who).1, (mX5_distance_4_V1 mF mR ww wm wb who), (mX5_distanceOf_4 mF mR tb gr fu_1_1_1 ww wm wb who).2.1, (mX5_distanceOf_4 mF mR tb gr fu_1_1_1 ww wm wb who).2.2, upd (fun _ => (0 : Int32)) (4 : Int32).toNatClampNeg (vp_nar .boolean (1 : Int32))) = (mX5_distance_4 mF mR tb gr fu_1_1_1 ww wm wb who) := (by rw [mX5_distance_4, if_pos c_1])
      exact et_iretW hx hb hr hlocks dX5_distance_52 hP hS (by rw [← hfin]) ((by rw [← hfin]))
    ·
      refine lv_iconst (v := (0 : Int32)) hx hb dX5_distance_37 (by decide) ?_
      refine lv_goto (tgt := 52) hx hb dX5_distance_38 (by decide) ?_
      have hfin : ((0 : Int32), (mX5_distance_4_V1 mF mR ww wm wb who), tb, gr, (fun _ => (0 : Int32))) = (mX5_distance_4 mF mR tb gr fu_1_1_1 ww wm wb who) := (by rw [mX5_distance_4, if_neg c_1])
      exact et_iretW hx hb hr hlocks dX5_distance_52 hP hS (by rw [← hfin]) ((by rw [← hfin]))
  refine lv_iload_n hx hb dX5_distance_1 rfl (lv_at hl 1 rfl) ?_
  refine et_callP1 (v := .int (zI (mX5_isKind (4 : Int32)))) (va_runS (As := [.int (4 : Int32)]) (rest := [.ref md]) ⟨hx, hb, hml, hown, hts⟩ (c_X5_isKind l g (4 : Int32)) (va_cwS 1 hts (W0_gS w_789 w_790 w_82 w_791) rfl rfl rfl (by decide +kernel) ⟨Nat.le_of_ble_eq_true rfl, Nat.le_of_ble_eq_true rfl⟩) (et_preS hP hC [] rfl) rfl rfl hl.1 rfl (lv_room (Nat.le_of_ble_eq_true rfl)) dX5_distance_2 ⟨Nat.le_of_ble_eq_true rfl, Nat.le_of_ble_eq_true rfl⟩) ?_
  refine lv_if_eq (tgt := 26) hx hb dX5_distance_5 (by decide) (fun c_2 => ?_) (fun c_2 => ?_)
  ·
    refine lv_iconst (v := (1 : Int32)) hx hb dX5_distance_26 (by decide) ?_
    have he1 : ((1 : Int32) : Int32) = (mX5_distance_4_V1 mF mR ww wm wb who) := (by rw [mX5_distance_4_V1, if_pos c_2])
    exact et_stki he1 (hj1 ls (lv_sub hl [0, 1, 2, 3, 4, 5] rfl))
  ·
    refine lv_aload_n hx hb dX5_distance_8 rfl (lv_at hl 0 rfl) ?_
    refine lv_iload_n hx hb dX5_distance_9 rfl (lv_at hl 1 rfl) ?_
    refine lv_iload_n hx hb dX5_distance_10 rfl (lv_at hl 2 rfl) ?_
    refine lv_iload_n hx hb dX5_distance_11 rfl (lv_at hl 3 rfl) ?_
    refine lv_iload hx hb dX5_distance_12 (lv_at hl 4 rfl) ?_
    refine lv_iload hx hb dX5_distance_14 (lv_at hl 5 rfl) ?_
    refine et_callP1 (v := .int (zI (mX5_isPosition mF mR (4 : Int32) ww wm wb who))) (va_runV (As := [.int (4 : Int32), .int ww, .int wm, .int wb, .int who]) (rest := [.ref md]) ⟨hx, hb, hml, hown, hts⟩ (c_X5_isPosition l g md r1 r2 r3 r4 mF mR th tb (fun _ => (0 : Int32)) gr mt mk mw mm mb ms ml my (4 : Int32) ww wm wb who (by assumption) (by assumption)) (cwV 5 hts (W0_gV w_792 w_794 w_51 w_82 w_795) rfl rfl rfl (by decide +kernel) ⟨Nat.le_of_ble_eq_true rfl, Nat.le_of_ble_eq_true rfl⟩) (et_preV hP hC [0, 1, 2, 3, 4] rfl (ci := 5) (q0 := 0) rfl rfl) rfl rfl hl.1 rfl (lv_room (Nat.le_of_ble_eq_true rfl)) dX5_distance_16 ⟨Nat.le_of_ble_eq_true rfl, Nat.le_of_ble_eq_true rfl⟩) ?_
    refine lv_if_eq (tgt := 26) hx hb dX5_distance_19 (by decide) (fun c_3 => ?_) (fun c_3 => ?_)
    ·
      refine lv_iconst (v := (1 : Int32)) hx hb dX5_distance_26 (by decide) ?_
      have he2 : ((1 : Int32) : Int32) = (mX5_distance_4_V1 mF mR ww wm wb who) := (by rw [mX5_distance_4_V1, if_neg c_2, if_pos c_3])
      exact et_stki he2 (hj1 ls (lv_sub hl [0, 1, 2, 3, 4, 5] rfl))
    ·
      refine lv_iconst (v := (0 : Int32)) hx hb dX5_distance_22 (by decide) ?_
      refine lv_goto (tgt := 27) hx hb dX5_distance_23 (by decide) ?_
      have he3 : ((0 : Int32) : Int32) = (mX5_distance_4_V1 mF mR ww wm wb who) := (by rw [mX5_distance_4_V1, if_neg c_2, if_neg c_3])
      exact et_stki he3 (hj1 ls (lv_sub hl [0, 1, 2, 3, 4, 5] rfl))

def mX5_count_4_V2 (mF : Int32) (mR : Int32) (tb : Nat → Int64) (gr : Nat → Int32) (fu_1_1 : Nat) (who : Int32) (nn : Int32) (i1 : Nat) (sum1 : Int32) : Int32 :=
  if (zI (mX5_isOne mF mR ((mX5_build_4 mF mR tb gr fu_1_1).1) (4 : Int32) who nn (nI i1))) = 0 then
    sum1
  else
    sum1 + (1 : Int32)
def mX5_count_4_L1 (mF : Int32) (mR : Int32) (tb : Nat → Int64) (gr : Nat → Int32) (fu_1_1 : Nat) (who : Int32) (nn : Int32) : Nat → Nat → Int32 → Int32
  | 0, i1, sum1 =>
    sum1
  | k1 + 1, i1, sum1 =>
    mX5_count_4_L1 mF mR tb gr fu_1_1 who nn k1 (i1 + 1) (mX5_count_4_V2 mF mR tb gr fu_1_1 who nn i1 sum1)
def mX5_count_4_V1 (who : Int32) : Int32 :=
  if (zI (mX5_isKind (4 : Int32))) = 0 then
    (1 : Int32)
  else
    if who < 0 then
      (1 : Int32)
    else
      if (2 : Int32) ≤ who then
        (1 : Int32)
      else
        (0 : Int32)
def mX5_count_4 (mF : Int32) (mR : Int32) (tb : Nat → Int64) (gr : Nat → Int32) (fu_1_1 : Nat) (who : Int32) (nn : Int32) : Int32 × Int32 × (Nat → Int64) × (Nat → Int32) × (Nat → Int32) :=
  if (mX5_count_4_V1 who) ≤ 0 then
    ((mX5_count_4_L1 mF mR tb gr fu_1_1 who nn 262144 0 (0 : Int32)), (mX5_count_4_V1 who), (mX5_build_4 mF mR tb gr fu_1_1).1, (mX5_build_4 mF mR tb gr fu_1_1).2, upd (fun _ => (0 : Int32)) (4 : Int32).toNatClampNeg (vp_nar .boolean (1 : Int32)))
  else
    ((0 : Int32), (mX5_count_4_V1 who), tb, gr, (fun _ => (0 : Int32)))
theorem et_cntV_4 {who : Int32} (h : mX5_count_4_V1 who ≤ 0) : et_sd who := by
  unfold mX5_count_4_V1 at h
  rw [if_neg (show ¬ zI (mX5_isKind (4 : Int32)) = 0 by decide)] at h
  rcases pk_ix who (n := 2) (by omega) with h1 | h1 | ⟨j, hj, rfl⟩
  · rw [if_pos h1] at h
    exact absurd h (by decide)
  · rw [if_neg (show ¬ who < 0 from fun h2 => absurd (Int32.le_trans h1 (Int32.le_of_lt h2)) (by decide)), if_pos (show (2 : Int32) ≤ who from h1)] at h
    exact absurd h (by decide)
  · rcases (show j = 0 ∨ j = 1 by omega) with rfl | rfl
    · exact Or.inl rfl
    · exact Or.inr rfl
set_option maxHeartbeats 4000000 in
set_option maxRecDepth 100000 in
theorem c_X5_count_4 (l : Launch) (g : et_G) (md : Nat) (r1 : Nat) (r2 : Nat) (r3 : Nat) (r4 : Nat) (mF : Int32) (mR : Int32) (th : Int32) (tb : Nat → Int64) (gr : Nat → Int32) (mt : Bool) (mk : Int32) (mw : Int32) (mm : Int32) (mb : Int32) (ms : Int32) (ml : Nat → Int32) (my : Int32) (fu_1_1 : Nat) (who : Int32) (nn : Int32) (hF : et_b8 mF) (hR : et_b8 mR) (hT_2_2 : mX5_passAll_L1_ok mF mR (4 : Int32) (1 : Int32) fu_1_1 0 (0 : Int32) (0 : Int32) tb (upd gr (4 : Int32).toNatClampNeg (-1 : Int32)) = true) : Met l yX5_count (Cond.code yX5_count cX5_count 6 (some (.int)) :: W0) ({ frames := 7, cells := 0, slots := 0, locals := 185 } : Room) (et_PcW g ([(md, .inr (5, [.int th, .int mF, .int mR, .ref r1, .ref r2, .ref r3, .int (zI mt), .int mk, .int mw, .int mm, .int mb, .int ms, .ref r4, .int my])), (r1, .inl (gJ g, 327680, .inr (.inl tb))), (r2, .inl (gZ g, 6, .inl (fun _ => (0 : Int32)))), (r3, .inl (gI g, 6, .inl gr)), (r4, .inl (gI g, 64, .inl ml))]) [.ref md, .int (4 : Int32), .int who, .int nn]) (et_QW g ([(md, .inr (5, [.int th, .int mF, .int mR, .ref r1, .ref r2, .ref r3, .int (zI mt), .int mk, .int mw, .int mm, .int mb, .int ms, .ref r4, .int my])), (r1, .inl (gJ g, 327680, .inr (.inl tb))), (r2, .inl (gZ g, 6, .inl (fun _ => (0 : Int32)))), (r3, .inl (gI g, 6, .inl gr)), (r4, .inl (gI g, 64, .inl ml))]) ([(md, .inr (5, [.int ((mX5_count_4 mF mR tb gr fu_1_1 who nn).2.1), .int mF, .int mR, .ref r1, .ref r2, .ref r3, .int (zI mt), .int mk, .int mw, .int mm, .int mb, .int ms, .ref r4, .int my])), (r1, .inl (gJ g, 327680, .inr (.inl ((mX5_count_4 mF mR tb gr fu_1_1 who nn).2.2.1)))), (r2, .inl (gZ g, 6, .inl ((mX5_count_4 mF mR tb gr fu_1_1 who nn).2.2.2.2))), (r3, .inl (gI g, 6, .inl ((mX5_count_4 mF mR tb gr fu_1_1 who nn).2.2.2.1))), (r4, .inl (gI g, 64, .inl ml))]) (some (.int ((mX5_count_4 mF mR tb gr fu_1_1 who nn).1)))) 0 0 (et_ad ([(md, .inr (5, [.int th, .int mF, .int mR, .ref r1, .ref r2, .ref r3, .int (zI mt), .int mk, .int mw, .int mm, .int mb, .int ms, .ref r4, .int my])), (r1, .inl (gJ g, 327680, .inr (.inl tb))), (r2, .inl (gZ g, 6, .inl (fun _ => (0 : Int32)))), (r3, .inl (gI g, 6, .inl gr)), (r4, .inl (gI g, 64, .inl ml))])) := by
  refine et_startW (by decide) rfl (Nat.le_of_ble_eq_true rfl) ?_
  intro p e s m args below meth c hx hb hr hts0 hown hlocks hml hP hC hD hS ls hl
  have hts : ∀ w ∈ W0, w.before args s = true := fun w h => hts0 w (List.mem_cons_of_mem _ h)
  have hown : s.vm.findClass RX5 = some m.cls := hown
  have hl : lv_has ls 6 [(0, .ref md), (1, .int (4 : Int32)), (2, .int who), (3, .int nn)] := hl
  refine lv_aload_n hx hb dX5_count_0 rfl (lv_at hl 0 rfl) ?_
  have hj1 : ∀ ls : Array Slot, lv_has ls 6 [(0, .ref md), (1, .int (4 : Int32)), (2, .int who), (3, .int nn)] → W p l e ({ frames := 7, cells := 0, slots := 0, locals := 185 } : Room) s m args below meth c s.heap [] 0 0 (MQ below (et_QW g ([(md, .inr (5, [.int th, .int mF, .int mR, .ref r1, .ref r2, .ref r3, .int (zI mt), .int mk, .int mw, .int mm, .int mb, .int ms, .ref r4, .int my])), (r1, .inl (gJ g, 327680, .inr (.inl tb))), (r2, .inl (gZ g, 6, .inl (fun _ => (0 : Int32)))), (r3, .inl (gI g, 6, .inl gr)), (r4, .inl (gI g, 64, .inl ml))]) ([(md, .inr (5, [.int ((mX5_count_4 mF mR tb gr fu_1_1 who nn).2.1), .int mF, .int mR, .ref r1, .ref r2, .ref r3, .int (zI mt), .int mk, .int mw, .int mm, .int mb, .int ms, .ref r4, .int my])), (r1, .inl (gJ g, 327680, .inr (.inl ((mX5_count_4 mF mR tb gr fu_1_1 who nn).2.2.1)))), (r2, .inl (gZ g, 6, .inl ((mX5_count_4 mF mR tb gr fu_1_1 who nn).2.2.2.2))), (r3, .inl (gI g, 6, .inl ((mX5_count_4 mF mR tb gr fu_1_1 who nn).2.2.2.1))), (r4, .inl (gI g, 64, .inl ml))]) (some (.int ((mX5_count_4 mF mR tb gr fu_1_1 who nn).1)))) args s 0 0 (et_ad ([(md, .inr (5, [.int th, .int mF, .int mR, .ref r1, .ref r2, .ref r3, .int (zI mt), .int mk, .int mw, .int mm, .int mb, .int ms, .ref r4, .int my])), (r1, .inl (gJ g, 327680, .inr (.inl tb))), (r2, .inl (gZ g, 6, .inl (fun _ => (0 : Int32)))), (r3, .inl (gI g, 6, .inl gr)), (r4, .inl (gI g, 64, .inl ml))]))) (F0 m 22 ls [.int (mX5_count_4_V1 who), .ref md]) := by
    intro ls hl
    refine va_put (D := gD g) (ci := 5) (v := .int (mX5_count_4_V1 who)) (ty := .int) (C := RX5) (T := TX5) (N := 14) hx hb hts inW_X5 tyX5 tyX5_ok nmX5 hown hC.1 hP hD hS 0 rfl rfl 0 (by decide) (hts _ w_733) (fun _ h9 => h9) rfl (by decide +kernel) rfl rfl (Nat.le_of_ble_eq_true rfl) dX5_count_22 (fun H locs hP hD hS => ?_)
    have hP : va_P (gD g) vwCl ([(md, .inr (5, [.int (mX5_count_4_V1 who), .int mF, .int mR, .ref r1, .ref r2, .ref r3, .int (zI mt), .int mk, .int mw, .int mm, .int mb, .int ms, .ref r4, .int my])), (r1, .inl (gJ g, 327680, .inr (.inl tb))), (r2, .inl (gZ g, 6, .inl (fun _ => (0 : Int32)))), (r3, .inl (gI g, 6, .inl gr)), (r4, .inl (gI g, 64, .inl ml))]) H := hP
    have hD : va_D (et_ad ([(md, .inr (5, [.int th, .int mF, .int mR, .ref r1, .ref r2, .ref r3, .int (zI mt), .int mk, .int mw, .int mm, .int mb, .int ms, .ref r4, .int my])), (r1, .inl (gJ g, 327680, .inr (.inl tb))), (r2, .inl (gZ g, 6, .inl (fun _ => (0 : Int32)))), (r3, .inl (gI g, 6, .inl gr)), (r4, .inl (gI g, 64, .inl ml))])) ([(md, .inr (5, [.int (mX5_count_4_V1 who), .int mF, .int mR, .ref r1, .ref r2, .ref r3, .int (zI mt), .int mk, .int mw, .int mm, .int mb, .int ms, .ref r4, .int my])), (r1, .inl (gJ g, 327680, .inr (.inl tb))), (r2, .inl (gZ g, 6, .inl (fun _ => (0 : Int32)))), (r3, .inl (gI g, 6, .inl gr)), (r4, .inl (gI g, 64, .inl ml))]) := hD
    refine lv_aload_n hx hb dX5_count_25 rfl (lv_at hl 0 rfl) ?_
    refine va_get (D := gD g) (ci := 5) (v := .int (mX5_count_4_V1 who)) (C := RX5) (T := TX5) (N := 14) hx hb hts inW_X5 hown hC.1 hP 0 rfl rfl 0 (by decide) (hts _ w_733) (fun _ h9 => h9) rfl dX5_count_26 ?_
    refine lv_if_le (tgt := 34) hx hb dX5_count_29 (by decide) (fun c_1 => ?_) (fun c_1 => ?_)
    ·
      refine lv_aload_n hx hb dX5_count_34 rfl (lv_at hl 0 rfl) ?_
      refine lv_iload_n hx hb dX5_count_35 rfl (lv_at hl 1 rfl) ?_
      refine et_callW0 (ws' := [(md, .inr (5, [.int (mX5_count_4_V1 who), .int mF, .int mR, .ref r1, .ref r2, .ref r3, .int (zI mt), .int mk, .int mw, .int mm, .int mb, .int ms, .ref r4, .int my])), (r1, .inl (gJ g, 327680, .inr (.inl ((mX5_build_4 mF mR tb gr fu_1_1).1)))), (r2, .inl (gZ g, 6, .inl (upd (fun _ => (0 : Int32)) (4 : Int32).toNatClampNeg (vp_nar .boolean (1 : Int32))))), (r3, .inl (gI g, 6, .inl ((mX5_build_4 mF mR tb gr fu_1_1).2))), (r4, .inl (gI g, 64, .inl ml))]) (va_runV (As := [.int (4 : Int32)]) (rest := []) ⟨hx, hb, hml, hown, hts⟩ (c_X5_build_4 l g md r1 r2 r3 r4 mF mR (mX5_count_4_V1 who) tb gr mt mk mw mm mb ms ml my fu_1_1 (by assumption) (by assumption) hT_2_2) (cwV 1 hts (W0_gV w_821 w_823 w_56 w_82 w_824) rfl rfl rfl (by decide +kernel) ⟨Nat.le_of_ble_eq_true rfl, Nat.le_of_ble_eq_true rfl⟩) (et_preVW hP hC hD [0, 1, 2, 3, 4] (by decide) rfl (ci := 5) (q0 := 0) rfl rfl) rfl rfl hl.1 rfl (lv_room (Nat.le_of_ble_eq_true rfl)) dX5_count_36 ⟨Nat.le_of_ble_eq_true rfl, Nat.le_of_ble_eq_true rfl⟩) hP hD hS [0, 1, 2, 3, 4] [] 5 rfl [md, r1, r2, r3, r4] rfl rfl rfl [] rfl rfl rfl (by decide +kernel) (fun H locs hP hD hS => ?_)
      refine lv_iconst (v := (0 : Int32)) hx hb dX5_count_39 (by decide) ?_
      refine lv_istore (lv' := [(4, .int (0 : Int32)), (0, .ref md), (1, .int (4 : Int32)), (2, .int who), (3, .int nn)]) hx hb dX5_count_40 hl (by decide) rfl (fun ls hl => ?_)
      refine lv_iconst (v := (0 : Int32)) hx hb dX5_count_42 (by decide) ?_
      refine lv_istore (lv' := [(5, .int (0 : Int32)), (4, .int (0 : Int32)), (0, .ref md), (1, .int (4 : Int32)), (2, .int who), (3, .int nn)]) hx hb dX5_count_43 hl (by decide) rfl (fun ls hl => ?_)
      have hx1 : ∀ (H : Heap) (locs : List Loc), va_P (gD g) vwCl ([(md, .inr (5, [.int (mX5_count_4_V1 who), .int mF, .int mR, .ref r1, .ref r2, .ref r3, .int (zI mt), .int mk, .int mw, .int mm, .int mb, .int ms, .ref r4, .int my])), (r1, .inl (gJ g, 327680, .inr (.inl ((mX5_build_4 mF mR tb gr fu_1_1).1)))), (r2, .inl (gZ g, 6, .inl (upd (fun _ => (0 : Int32)) (4 : Int32).toNatClampNeg (vp_nar .boolean (1 : Int32))))), (r3, .inl (gI g, 6, .inl ((mX5_build_4 mF mR tb gr fu_1_1).2))), (r4, .inl (gI g, 64, .inl ml))]) H → va_D (et_ad ([(md, .inr (5, [.int th, .int mF, .int mR, .ref r1, .ref r2, .ref r3, .int (zI mt), .int mk, .int mw, .int mm, .int mb, .int ms, .ref r4, .int my])), (r1, .inl (gJ g, 327680, .inr (.inl tb))), (r2, .inl (gZ g, 6, .inl (fun _ => (0 : Int32)))), (r3, .inl (gI g, 6, .inl gr)), (r4, .inl (gI g, 64, .inl ml))])) ([(md, .inr (5, [.int (mX5_count_4_V1 who), .int mF, .int mR, .ref r1, .ref r2, .ref r3, .int (zI mt), .int mk, .int mw, .int mm, .int mb, .int ms, .ref r4, .int my])), (r1, .inl (gJ g, 327680, .inr (.inl ((mX5_build_4 mF mR tb gr fu_1_1).1)))), (r2, .inl (gZ g, 6, .inl (upd (fun _ => (0 : Int32)) (4 : Int32).toNatClampNeg (vp_nar .boolean (1 : Int32))))), (r3, .inl (gI g, 6, .inl ((mX5_build_4 mF mR tb gr fu_1_1).2))), (r4, .inl (gI g, 64, .inl ml))]) → va_S (et_ad ([(md, .inr (5, [.int th, .int mF, .int mR, .ref r1, .ref r2, .ref r3, .int (zI mt), .int mk, .int mw, .int mm, .int mb, .int ms, .ref r4, .int my])), (r1, .inl (gJ g, 327680, .inr (.inl tb))), (r2, .inl (gZ g, 6, .inl (fun _ => (0 : Int32)))), (r3, .inl (gI g, 6, .inl gr)), (r4, .inl (gI g, 64, .inl ml))])) s.heap H locs → ∀ ls : Array Slot, lv_has ls 6 [(4, .int (mX5_count_4_L1 mF mR tb gr fu_1_1 who nn 262144 0 (0 : Int32))), (0, .ref md), (1, .int (4 : Int32)), (2, .int who), (3, .int nn)] → W p l e ({ frames := 7, cells := 0, slots := 0, locals := 185 } : Room) s m args below meth c H locs 0 0 (MQ below (et_QW g ([(md, .inr (5, [.int th, .int mF, .int mR, .ref r1, .ref r2, .ref r3, .int (zI mt), .int mk, .int mw, .int mm, .int mb, .int ms, .ref r4, .int my])), (r1, .inl (gJ g, 327680, .inr (.inl tb))), (r2, .inl (gZ g, 6, .inl (fun _ => (0 : Int32)))), (r3, .inl (gI g, 6, .inl gr)), (r4, .inl (gI g, 64, .inl ml))]) ([(md, .inr (5, [.int ((mX5_count_4 mF mR tb gr fu_1_1 who nn).2.1), .int mF, .int mR, .ref r1, .ref r2, .ref r3, .int (zI mt), .int mk, .int mw, .int mm, .int mb, .int ms, .ref r4, .int my])), (r1, .inl (gJ g, 327680, .inr (.inl ((mX5_count_4 mF mR tb gr fu_1_1 who nn).2.2.1)))), (r2, .inl (gZ g, 6, .inl ((mX5_count_4 mF mR tb gr fu_1_1 who nn).2.2.2.2))), (r3, .inl (gI g, 6, .inl ((mX5_count_4 mF mR tb gr fu_1_1 who nn).2.2.2.1))), (r4, .inl (gI g, 64, .inl ml))]) (some (.int ((mX5_count_4 mF mR tb gr fu_1_1 who nn).1)))) args s 0 0 (et_ad ([(md, .inr (5, [.int th, .int mF, .int mR, .ref r1, .ref r2, .ref r3, .int (zI mt), .int mk, .int mw, .int mm, .int mb, .int ms, .ref r4, .int my])), (r1, .inl (gJ g, 327680, .inr (.inl tb))), (r2, .inl (gZ g, 6, .inl (fun _ => (0 : Int32)))), (r3, .inl (gI g, 6, .inl gr)), (r4, .inl (gI g, 64, .inl ml))]))) (F0 m 81 ls []) := by
        intro H locs hP hD hS ls hl
        refine lv_iload hx hb dX5_count_81 (lv_at hl 0 rfl) ?_
        have hfin : ((mX5_count_4_L1 mF mR tb gr fu_1_1 who nn 262144 0 (0 : Int32)), (mX5_count_4_V1 who), (mX5_build_4 mF mR tb gr fu_1_1).1, (mX5_build_4 mF mR tb gr fu_1_1).2, upd (fun _ => (0 : Int32)) (4 : Int32).toNatClampNeg (vp_nar .boolean (1 : Int32))) = (mX5_count_4 mF mR tb gr fu_1_1 who nn) := (by rw [mX5_count_4, if_pos c_1])
        exact et_iretW hx hb hr hlocks dX5_count_83 hP hS (by rw [← hfin]) ((by rw [← hfin]))
      have hL1 : ∀ (k1 i1 : Nat) (sum1 : Int32), i1 + k1 = 262144 → mX5_count_4_L1 mF mR tb gr fu_1_1 who nn k1 i1 sum1 = (mX5_count_4_L1 mF mR tb gr fu_1_1 who nn 262144 0 (0 : Int32)) → ∀ (H : Heap) (locs : List Loc), va_P (gD g) vwCl ([(md, .inr (5, [.int (mX5_count_4_V1 who), .int mF, .int mR, .ref r1, .ref r2, .ref r3, .int (zI mt), .int mk, .int mw, .int mm, .int mb, .int ms, .ref r4, .int my])), (r1, .inl (gJ g, 327680, .inr (.inl ((mX5_build_4 mF mR tb gr fu_1_1).1)))), (r2, .inl (gZ g, 6, .inl (upd (fun _ => (0 : Int32)) (4 : Int32).toNatClampNeg (vp_nar .boolean (1 : Int32))))), (r3, .inl (gI g, 6, .inl ((mX5_build_4 mF mR tb gr fu_1_1).2))), (r4, .inl (gI g, 64, .inl ml))]) H → va_D (et_ad ([(md, .inr (5, [.int th, .int mF, .int mR, .ref r1, .ref r2, .ref r3, .int (zI mt), .int mk, .int mw, .int mm, .int mb, .int ms, .ref r4, .int my])), (r1, .inl (gJ g, 327680, .inr (.inl tb))), (r2, .inl (gZ g, 6, .inl (fun _ => (0 : Int32)))), (r3, .inl (gI g, 6, .inl gr)), (r4, .inl (gI g, 64, .inl ml))])) ([(md, .inr (5, [.int (mX5_count_4_V1 who), .int mF, .int mR, .ref r1, .ref r2, .ref r3, .int (zI mt), .int mk, .int mw, .int mm, .int mb, .int ms, .ref r4, .int my])), (r1, .inl (gJ g, 327680, .inr (.inl ((mX5_build_4 mF mR tb gr fu_1_1).1)))), (r2, .inl (gZ g, 6, .inl (upd (fun _ => (0 : Int32)) (4 : Int32).toNatClampNeg (vp_nar .boolean (1 : Int32))))), (r3, .inl (gI g, 6, .inl ((mX5_build_4 mF mR tb gr fu_1_1).2))), (r4, .inl (gI g, 64, .inl ml))]) → va_S (et_ad ([(md, .inr (5, [.int th, .int mF, .int mR, .ref r1, .ref r2, .ref r3, .int (zI mt), .int mk, .int mw, .int mm, .int mb, .int ms, .ref r4, .int my])), (r1, .inl (gJ g, 327680, .inr (.inl tb))), (r2, .inl (gZ g, 6, .inl (fun _ => (0 : Int32)))), (r3, .inl (gI g, 6, .inl gr)), (r4, .inl (gI g, 64, .inl ml))])) s.heap H locs → ∀ ls : Array Slot, lv_has ls 6 [(5, .int (nI i1)), (4, .int sum1), (0, .ref md), (1, .int (4 : Int32)), (2, .int who), (3, .int nn)] → W p l e ({ frames := 7, cells := 0, slots := 0, locals := 185 } : Room) s m args below meth c H locs 0 0 (MQ below (et_QW g ([(md, .inr (5, [.int th, .int mF, .int mR, .ref r1, .ref r2, .ref r3, .int (zI mt), .int mk, .int mw, .int mm, .int mb, .int ms, .ref r4, .int my])), (r1, .inl (gJ g, 327680, .inr (.inl tb))), (r2, .inl (gZ g, 6, .inl (fun _ => (0 : Int32)))), (r3, .inl (gI g, 6, .inl gr)), (r4, .inl (gI g, 64, .inl ml))]) ([(md, .inr (5, [.int ((mX5_count_4 mF mR tb gr fu_1_1 who nn).2.1), .int mF, .int mR, .ref r1, .ref r2, .ref r3, .int (zI mt), .int mk, .int mw, .int mm, .int mb, .int ms, .ref r4, .int my])), (r1, .inl (gJ g, 327680, .inr (.inl ((mX5_count_4 mF mR tb gr fu_1_1 who nn).2.2.1)))), (r2, .inl (gZ g, 6, .inl ((mX5_count_4 mF mR tb gr fu_1_1 who nn).2.2.2.2))), (r3, .inl (gI g, 6, .inl ((mX5_count_4 mF mR tb gr fu_1_1 who nn).2.2.2.1))), (r4, .inl (gI g, 64, .inl ml))]) (some (.int ((mX5_count_4 mF mR tb gr fu_1_1 who nn).1)))) args s 0 0 (et_ad ([(md, .inr (5, [.int th, .int mF, .int mR, .ref r1, .ref r2, .ref r3, .int (zI mt), .int mk, .int mw, .int mm, .int mb, .int ms, .ref r4, .int my])), (r1, .inl (gJ g, 327680, .inr (.inl tb))), (r2, .inl (gZ g, 6, .inl (fun _ => (0 : Int32)))), (r3, .inl (gI g, 6, .inl gr)), (r4, .inl (gI g, 64, .inl ml))]))) (F0 m 45 ls []) := by
        intro k1
        induction k1 with
        | zero =>
          intro i1 sum1 hik  hm H locs hP hD hS ls hl
          refine lv_iload hx hb dX5_count_45 (lv_at hl 0 rfl) ?_
          refine lv_ldc hx hb hown (hts _ w_844) dX5_count_47 ?_
          refine lv_icmp_ge (tgt := 81) hx hb dX5_count_49 (by decide) (fun c_2 => ?_) (fun c_2 => ?_)
          rotate_left
          · exact absurd (et_le (a := 262144) (b := i1) (by omega) (by omega)) c_2
          have hq1 : sum1 = (mX5_count_4_L1 mF mR tb gr fu_1_1 who nn 262144 0 (0 : Int32)) := (by rw [mX5_count_4_L1] : mX5_count_4_L1 mF mR tb gr fu_1_1 who nn 0 i1 sum1 = sum1).symm.trans hm
          exact hx1 _ _ hP hD hS ls (by rw [← hq1]; exact lv_sub hl [1, 2, 3, 4, 5] rfl)
        | succ k1 ih1 =>
          intro i1 sum1 hik  hm H locs hP hD hS ls hl
          refine lv_iload hx hb dX5_count_45 (lv_at hl 0 rfl) ?_
          refine lv_ldc hx hb hown (hts _ w_844) dX5_count_47 ?_
          refine lv_icmp_ge (tgt := 81) hx hb dX5_count_49 (by decide) (fun c_3 => ?_) (fun c_3 => ?_)
          · exact absurd c_3 (et_ge (a := i1) (b := 262144) (by omega) (by omega))
          have hj2 : ∀ ls : Array Slot, lv_has ls 6 [(5, .int (nI i1)), (4, .int sum1), (0, .ref md), (1, .int (4 : Int32)), (2, .int who), (3, .int nn)] → W p l e ({ frames := 7, cells := 0, slots := 0, locals := 185 } : Room) s m args below meth c H locs 0 0 (MQ below (et_QW g ([(md, .inr (5, [.int th, .int mF, .int mR, .ref r1, .ref r2, .ref r3, .int (zI mt), .int mk, .int mw, .int mm, .int mb, .int ms, .ref r4, .int my])), (r1, .inl (gJ g, 327680, .inr (.inl tb))), (r2, .inl (gZ g, 6, .inl (fun _ => (0 : Int32)))), (r3, .inl (gI g, 6, .inl gr)), (r4, .inl (gI g, 64, .inl ml))]) ([(md, .inr (5, [.int ((mX5_count_4 mF mR tb gr fu_1_1 who nn).2.1), .int mF, .int mR, .ref r1, .ref r2, .ref r3, .int (zI mt), .int mk, .int mw, .int mm, .int mb, .int ms, .ref r4, .int my])), (r1, .inl (gJ g, 327680, .inr (.inl ((mX5_count_4 mF mR tb gr fu_1_1 who nn).2.2.1)))), (r2, .inl (gZ g, 6, .inl ((mX5_count_4 mF mR tb gr fu_1_1 who nn).2.2.2.2))), (r3, .inl (gI g, 6, .inl ((mX5_count_4 mF mR tb gr fu_1_1 who nn).2.2.2.1))), (r4, .inl (gI g, 64, .inl ml))]) (some (.int ((mX5_count_4 mF mR tb gr fu_1_1 who nn).1)))) args s 0 0 (et_ad ([(md, .inr (5, [.int th, .int mF, .int mR, .ref r1, .ref r2, .ref r3, .int (zI mt), .int mk, .int mw, .int mm, .int mb, .int ms, .ref r4, .int my])), (r1, .inl (gJ g, 327680, .inr (.inl tb))), (r2, .inl (gZ g, 6, .inl (fun _ => (0 : Int32)))), (r3, .inl (gI g, 6, .inl gr)), (r4, .inl (gI g, 64, .inl ml))]))) (F0 m 73 ls [.int (mX5_count_4_V2 mF mR tb gr fu_1_1 who nn i1 sum1)]) := by
            intro ls hl
            refine lv_istore (lv' := [(4, .int (mX5_count_4_V2 mF mR tb gr fu_1_1 who nn i1 sum1)), (5, .int (nI i1)), (0, .ref md), (1, .int (4 : Int32)), (2, .int who), (3, .int nn)]) hx hb dX5_count_73 hl (by decide) rfl (fun ls hl => ?_)
            refine lv_iinc (v := nI (i1 + 1)) (lv' := [(5, .int (nI (i1 + 1))), (4, .int (mX5_count_4_V2 mF mR tb gr fu_1_1 who nn i1 sum1)), (0, .ref md), (1, .int (4 : Int32)), (2, .int who), (3, .int nn)]) hx hb dX5_count_75 hl (k := 1) rfl (et_inc i1) (by decide) rfl (fun ls hl => ?_)
            refine lv_goto (tgt := 45) hx hb dX5_count_78 (by decide) ?_
            exact ih1 (i1 + 1) (mX5_count_4_V2 mF mR tb gr fu_1_1 who nn i1 sum1) (by omega) ((by rw [mX5_count_4_L1] : mX5_count_4_L1 mF mR tb gr fu_1_1 who nn (k1 + 1) i1 sum1 = mX5_count_4_L1 mF mR tb gr fu_1_1 who nn k1 (i1 + 1) (mX5_count_4_V2 mF mR tb gr fu_1_1 who nn i1 sum1)).symm.trans hm) _ _ hP hD hS ls (lv_sub hl [0, 1, 2, 3, 4, 5] rfl)
          refine lv_aload_n hx hb dX5_count_52 rfl (lv_at hl 2 rfl) ?_
          refine lv_iload_n hx hb dX5_count_53 rfl (lv_at hl 3 rfl) ?_
          refine lv_iload_n hx hb dX5_count_54 rfl (lv_at hl 4 rfl) ?_
          refine lv_iload_n hx hb dX5_count_55 rfl (lv_at hl 5 rfl) ?_
          refine lv_iload hx hb dX5_count_56 (lv_at hl 0 rfl) ?_
          refine et_callP1 (v := .int (zI (mX5_isOne mF mR ((mX5_build_4 mF mR tb gr fu_1_1).1) (4 : Int32) who nn (nI i1)))) (va_runV (As := [.int (4 : Int32), .int who, .int nn, .int (nI i1)]) (rest := []) ⟨hx, hb, hml, hown, hts⟩ (c_X5_isOne l g md r1 r2 r3 r4 mF mR (mX5_count_4_V1 who) ((mX5_build_4 mF mR tb gr fu_1_1).1) (upd (fun _ => (0 : Int32)) (4 : Int32).toNatClampNeg (vp_nar .boolean (1 : Int32))) ((mX5_build_4 mF mR tb gr fu_1_1).2) mt mk mw mm mb ms ml my (4 : Int32) who nn (nI i1) (by assumption) (by assumption) (et_kdl (by decide)) (et_cntV_4 (by assumption)) (et_ati (by omega))) (cwV 4 hts (W0_gV w_874 w_876 w_67 w_82 w_877) rfl rfl rfl (by decide +kernel) ⟨Nat.le_of_ble_eq_true rfl, Nat.le_of_ble_eq_true rfl⟩) (et_preV hP hC [0, 1, 2, 3, 4] rfl (ci := 5) (q0 := 0) rfl rfl) rfl rfl hl.1 rfl (lv_room (Nat.le_of_ble_eq_true rfl)) dX5_count_58 ⟨Nat.le_of_ble_eq_true rfl, Nat.le_of_ble_eq_true rfl⟩) ?_
          refine lv_if_eq (tgt := 71) hx hb dX5_count_61 (by decide) (fun c_4 => ?_) (fun c_4 => ?_)
          ·
            refine lv_iload hx hb dX5_count_71 (lv_at hl 1 rfl) ?_
            have he2 : (sum1 : Int32) = (mX5_count_4_V2 mF mR tb gr fu_1_1 who nn i1 sum1) := (by rw [mX5_count_4_V2, if_pos c_4])
            exact et_stki he2 (hj2 ls (lv_sub hl [0, 1, 2, 3, 4, 5] rfl))
          ·
            refine lv_iload hx hb dX5_count_64 (lv_at hl 1 rfl) ?_
            refine lv_iconst (v := (1 : Int32)) hx hb dX5_count_66 (by decide) ?_
            refine lv_iadd hx hb dX5_count_67 ?_
            refine lv_goto (tgt := 73) hx hb dX5_count_68 (by decide) ?_
            have he3 : (sum1 + (1 : Int32) : Int32) = (mX5_count_4_V2 mF mR tb gr fu_1_1 who nn i1 sum1) := (by rw [mX5_count_4_V2, if_neg c_4])
            exact et_stki he3 (hj2 ls (lv_sub hl [0, 1, 2, 3, 4, 5] rfl))
      exact hL1 262144 0 (0 : Int32) (by omega) rfl _ _ hP hD hS ls (lv_sub hl [0, 1, 2, 3, 4, 5] rfl)
    ·
      refine lv_iconst (v := (0 : Int32)) hx hb dX5_count_32 (by decide) ?_
      have hfin : ((0 : Int32), (mX5_count_4_V1 who), tb, gr, (fun _ => (0 : Int32))) = (mX5_count_4 mF mR tb gr fu_1_1 who nn) := (by rw [mX5_count_4, if_neg c_1])
      exact et_iretW hx hb hr hlocks dX5_count_33 hP hS (by rw [← hfin]) ((by rw [← hfin]))
  refine lv_iload_n hx hb dX5_count_1 rfl (lv_at hl 1 rfl) ?_
  refine et_callP1 (v := .int (zI (mX5_isKind (4 : Int32)))) (va_runS (As := [.int (4 : Int32)]) (rest := [.ref md]) ⟨hx, hb, hml, hown, hts⟩ (c_X5_isKind l g (4 : Int32)) (va_cwS 1 hts (W0_gS w_789 w_790 w_82 w_791) rfl rfl rfl (by decide +kernel) ⟨Nat.le_of_ble_eq_true rfl, Nat.le_of_ble_eq_true rfl⟩) (et_preS hP hC [] rfl) rfl rfl hl.1 rfl (lv_room (Nat.le_of_ble_eq_true rfl)) dX5_count_2 ⟨Nat.le_of_ble_eq_true rfl, Nat.le_of_ble_eq_true rfl⟩) ?_
  refine lv_if_eq (tgt := 21) hx hb dX5_count_5 (by decide) (fun c_5 => ?_) (fun c_5 => ?_)
  ·
    refine lv_iconst (v := (1 : Int32)) hx hb dX5_count_21 (by decide) ?_
    have he4 : ((1 : Int32) : Int32) = (mX5_count_4_V1 who) := (by rw [mX5_count_4_V1, if_pos c_5])
    exact et_stki he4 (hj1 ls (lv_sub hl [0, 1, 2, 3] rfl))
  ·
    refine lv_iload_n hx hb dX5_count_8 rfl (lv_at hl 2 rfl) ?_
    refine lv_if_lt (tgt := 21) hx hb dX5_count_9 (by decide) (fun c_6 => ?_) (fun c_6 => ?_)
    ·
      refine lv_iconst (v := (1 : Int32)) hx hb dX5_count_21 (by decide) ?_
      have he5 : ((1 : Int32) : Int32) = (mX5_count_4_V1 who) := (by rw [mX5_count_4_V1, if_neg c_5, if_pos c_6])
      exact et_stki he5 (hj1 ls (lv_sub hl [0, 1, 2, 3] rfl))
    ·
      refine lv_iload_n hx hb dX5_count_12 rfl (lv_at hl 2 rfl) ?_
      refine lv_iconst (v := (2 : Int32)) hx hb dX5_count_13 (by decide) ?_
      refine lv_icmp_ge (tgt := 21) hx hb dX5_count_14 (by decide) (fun c_7 => ?_) (fun c_7 => ?_)
      ·
        refine lv_iconst (v := (1 : Int32)) hx hb dX5_count_21 (by decide) ?_
        have he6 : ((1 : Int32) : Int32) = (mX5_count_4_V1 who) := (by rw [mX5_count_4_V1, if_neg c_5, if_neg c_6, if_pos c_7])
        exact et_stki he6 (hj1 ls (lv_sub hl [0, 1, 2, 3] rfl))
      ·
        refine lv_iconst (v := (0 : Int32)) hx hb dX5_count_17 (by decide) ?_
        refine lv_goto (tgt := 22) hx hb dX5_count_18 (by decide) ?_
        have he7 : ((0 : Int32) : Int32) = (mX5_count_4_V1 who) := (by rw [mX5_count_4_V1, if_neg c_5, if_neg c_6, if_neg c_7])
        exact et_stki he7 (hj1 ls (lv_sub hl [0, 1, 2, 3] rfl))

def mX5_find_4_V1 (who : Int32) : Int32 :=
  if (zI (mX5_isKind (4 : Int32))) = 0 then
    (1 : Int32)
  else
    if who < 0 then
      (1 : Int32)
    else
      if (2 : Int32) ≤ who then
        (1 : Int32)
      else
        (0 : Int32)
def mX5_find_4_L1 (mF : Int32) (mR : Int32) (tb : Nat → Int64) (gr : Nat → Int32) (fu_1_1 : Nat) (who : Int32) (nn : Int32) (ix : Int32) : Nat → Nat → Int32 → Int32 × Int32 × (Nat → Int64) × (Nat → Int32) × (Nat → Int32)
  | 0, i1, left1 =>
    ((0 : Int32), (2 : Int32), (mX5_build_4 mF mR tb gr fu_1_1).1, (mX5_build_4 mF mR tb gr fu_1_1).2, upd (fun _ => (0 : Int32)) (4 : Int32).toNatClampNeg (vp_nar .boolean (1 : Int32)))
  | k1 + 1, i1, left1 =>
    if ix < 0 then
      ((0 : Int32), (2 : Int32), (mX5_build_4 mF mR tb gr fu_1_1).1, (mX5_build_4 mF mR tb gr fu_1_1).2, upd (fun _ => (0 : Int32)) (4 : Int32).toNatClampNeg (vp_nar .boolean (1 : Int32)))
    else
      if (zI (mX5_isOne mF mR ((mX5_build_4 mF mR tb gr fu_1_1).1) (4 : Int32) who nn (nI i1))) = 0 then
        mX5_find_4_L1 mF mR tb gr fu_1_1 who nn ix k1 (i1 + 1) left1
      else
        if left1 = 0 then
          ((((nI i1) / (4096 : Int32)) + ((64 : Int32) * (((nI i1) / (64 : Int32)) - ((nI i1) / (64 : Int32)) / (64 : Int32) * (64 : Int32)))) + ((4096 : Int32) * ((nI i1) - (nI i1) / (64 : Int32) * (64 : Int32))), (mX5_find_4_V1 who), (mX5_build_4 mF mR tb gr fu_1_1).1, (mX5_build_4 mF mR tb gr fu_1_1).2, upd (fun _ => (0 : Int32)) (4 : Int32).toNatClampNeg (vp_nar .boolean (1 : Int32)))
        else
          mX5_find_4_L1 mF mR tb gr fu_1_1 who nn ix k1 (i1 + 1) (left1 + (-1 : Int32))
def mX5_find_4 (mF : Int32) (mR : Int32) (tb : Nat → Int64) (gr : Nat → Int32) (fu_1_1 : Nat) (who : Int32) (nn : Int32) (ix : Int32) : Int32 × Int32 × (Nat → Int64) × (Nat → Int32) × (Nat → Int32) :=
  if (mX5_find_4_V1 who) ≤ 0 then
    mX5_find_4_L1 mF mR tb gr fu_1_1 who nn ix 262144 0 ix
  else
    ((0 : Int32), (mX5_find_4_V1 who), tb, gr, (fun _ => (0 : Int32)))
theorem et_findV_4 {who : Int32} (h : mX5_find_4_V1 who ≤ 0) : et_sd who := by
  unfold mX5_find_4_V1 at h
  rw [if_neg (show ¬ zI (mX5_isKind (4 : Int32)) = 0 by decide)] at h
  rcases pk_ix who (n := 2) (by omega) with h1 | h1 | ⟨j, hj, rfl⟩
  · rw [if_pos h1] at h
    exact absurd h (by decide)
  · rw [if_neg (show ¬ who < 0 from fun h2 => absurd (Int32.le_trans h1 (Int32.le_of_lt h2)) (by decide)), if_pos (show (2 : Int32) ≤ who from h1)] at h
    exact absurd h (by decide)
  · rcases (show j = 0 ∨ j = 1 by omega) with rfl | rfl
    · exact Or.inl rfl
    · exact Or.inr rfl
set_option maxHeartbeats 4000000 in
set_option maxRecDepth 100000 in
theorem c_X5_find_4 (l : Launch) (g : et_G) (md : Nat) (r1 : Nat) (r2 : Nat) (r3 : Nat) (r4 : Nat) (mF : Int32) (mR : Int32) (th : Int32) (tb : Nat → Int64) (gr : Nat → Int32) (mt : Bool) (mk : Int32) (mw : Int32) (mm : Int32) (mb : Int32) (ms : Int32) (ml : Nat → Int32) (my : Int32) (fu_1_1 : Nat) (who : Int32) (nn : Int32) (ix : Int32) (hF : et_b8 mF) (hR : et_b8 mR) (hT_2_2 : mX5_passAll_L1_ok mF mR (4 : Int32) (1 : Int32) fu_1_1 0 (0 : Int32) (0 : Int32) tb (upd gr (4 : Int32).toNatClampNeg (-1 : Int32)) = true) : Met l yX5_find (Cond.code yX5_find cX5_find 7 (some (.int)) :: W0) ({ frames := 7, cells := 0, slots := 0, locals := 185 } : Room) (et_PcW g ([(md, .inr (5, [.int th, .int mF, .int mR, .ref r1, .ref r2, .ref r3, .int (zI mt), .int mk, .int mw, .int mm, .int mb, .int ms, .ref r4, .int my])), (r1, .inl (gJ g, 327680, .inr (.inl tb))), (r2, .inl (gZ g, 6, .inl (fun _ => (0 : Int32)))), (r3, .inl (gI g, 6, .inl gr)), (r4, .inl (gI g, 64, .inl ml))]) [.ref md, .int (4 : Int32), .int who, .int nn, .int ix]) (et_QW g ([(md, .inr (5, [.int th, .int mF, .int mR, .ref r1, .ref r2, .ref r3, .int (zI mt), .int mk, .int mw, .int mm, .int mb, .int ms, .ref r4, .int my])), (r1, .inl (gJ g, 327680, .inr (.inl tb))), (r2, .inl (gZ g, 6, .inl (fun _ => (0 : Int32)))), (r3, .inl (gI g, 6, .inl gr)), (r4, .inl (gI g, 64, .inl ml))]) ([(md, .inr (5, [.int ((mX5_find_4 mF mR tb gr fu_1_1 who nn ix).2.1), .int mF, .int mR, .ref r1, .ref r2, .ref r3, .int (zI mt), .int mk, .int mw, .int mm, .int mb, .int ms, .ref r4, .int my])), (r1, .inl (gJ g, 327680, .inr (.inl ((mX5_find_4 mF mR tb gr fu_1_1 who nn ix).2.2.1)))), (r2, .inl (gZ g, 6, .inl ((mX5_find_4 mF mR tb gr fu_1_1 who nn ix).2.2.2.2))), (r3, .inl (gI g, 6, .inl ((mX5_find_4 mF mR tb gr fu_1_1 who nn ix).2.2.2.1))), (r4, .inl (gI g, 64, .inl ml))]) (some (.int ((mX5_find_4 mF mR tb gr fu_1_1 who nn ix).1)))) 0 0 (et_ad ([(md, .inr (5, [.int th, .int mF, .int mR, .ref r1, .ref r2, .ref r3, .int (zI mt), .int mk, .int mw, .int mm, .int mb, .int ms, .ref r4, .int my])), (r1, .inl (gJ g, 327680, .inr (.inl tb))), (r2, .inl (gZ g, 6, .inl (fun _ => (0 : Int32)))), (r3, .inl (gI g, 6, .inl gr)), (r4, .inl (gI g, 64, .inl ml))])) := by
  refine et_startW (by decide) rfl (Nat.le_of_ble_eq_true rfl) ?_
  intro p e s m args below meth c hx hb hr hts0 hown hlocks hml hP hC hD hS ls hl
  have hts : ∀ w ∈ W0, w.before args s = true := fun w h => hts0 w (List.mem_cons_of_mem _ h)
  have hown : s.vm.findClass RX5 = some m.cls := hown
  have hl : lv_has ls 7 [(0, .ref md), (1, .int (4 : Int32)), (2, .int who), (3, .int nn), (4, .int ix)] := hl
  refine lv_aload_n hx hb dX5_find_0 rfl (lv_at hl 0 rfl) ?_
  have hj1 : ∀ ls : Array Slot, lv_has ls 7 [(0, .ref md), (1, .int (4 : Int32)), (2, .int who), (3, .int nn), (4, .int ix)] → W p l e ({ frames := 7, cells := 0, slots := 0, locals := 185 } : Room) s m args below meth c s.heap [] 0 0 (MQ below (et_QW g ([(md, .inr (5, [.int th, .int mF, .int mR, .ref r1, .ref r2, .ref r3, .int (zI mt), .int mk, .int mw, .int mm, .int mb, .int ms, .ref r4, .int my])), (r1, .inl (gJ g, 327680, .inr (.inl tb))), (r2, .inl (gZ g, 6, .inl (fun _ => (0 : Int32)))), (r3, .inl (gI g, 6, .inl gr)), (r4, .inl (gI g, 64, .inl ml))]) ([(md, .inr (5, [.int ((mX5_find_4 mF mR tb gr fu_1_1 who nn ix).2.1), .int mF, .int mR, .ref r1, .ref r2, .ref r3, .int (zI mt), .int mk, .int mw, .int mm, .int mb, .int ms, .ref r4, .int my])), (r1, .inl (gJ g, 327680, .inr (.inl ((mX5_find_4 mF mR tb gr fu_1_1 who nn ix).2.2.1)))), (r2, .inl (gZ g, 6, .inl ((mX5_find_4 mF mR tb gr fu_1_1 who nn ix).2.2.2.2))), (r3, .inl (gI g, 6, .inl ((mX5_find_4 mF mR tb gr fu_1_1 who nn ix).2.2.2.1))), (r4, .inl (gI g, 64, .inl ml))]) (some (.int ((mX5_find_4 mF mR tb gr fu_1_1 who nn ix).1)))) args s 0 0 (et_ad ([(md, .inr (5, [.int th, .int mF, .int mR, .ref r1, .ref r2, .ref r3, .int (zI mt), .int mk, .int mw, .int mm, .int mb, .int ms, .ref r4, .int my])), (r1, .inl (gJ g, 327680, .inr (.inl tb))), (r2, .inl (gZ g, 6, .inl (fun _ => (0 : Int32)))), (r3, .inl (gI g, 6, .inl gr)), (r4, .inl (gI g, 64, .inl ml))]))) (F0 m 22 ls [.int (mX5_find_4_V1 who), .ref md]) := by
    intro ls hl
    refine va_put (D := gD g) (ci := 5) (v := .int (mX5_find_4_V1 who)) (ty := .int) (C := RX5) (T := TX5) (N := 14) hx hb hts inW_X5 tyX5 tyX5_ok nmX5 hown hC.1 hP hD hS 0 rfl rfl 0 (by decide) (hts _ w_733) (fun _ h9 => h9) rfl (by decide +kernel) rfl rfl (Nat.le_of_ble_eq_true rfl) dX5_find_22 (fun H locs hP hD hS => ?_)
    have hP : va_P (gD g) vwCl ([(md, .inr (5, [.int (mX5_find_4_V1 who), .int mF, .int mR, .ref r1, .ref r2, .ref r3, .int (zI mt), .int mk, .int mw, .int mm, .int mb, .int ms, .ref r4, .int my])), (r1, .inl (gJ g, 327680, .inr (.inl tb))), (r2, .inl (gZ g, 6, .inl (fun _ => (0 : Int32)))), (r3, .inl (gI g, 6, .inl gr)), (r4, .inl (gI g, 64, .inl ml))]) H := hP
    have hD : va_D (et_ad ([(md, .inr (5, [.int th, .int mF, .int mR, .ref r1, .ref r2, .ref r3, .int (zI mt), .int mk, .int mw, .int mm, .int mb, .int ms, .ref r4, .int my])), (r1, .inl (gJ g, 327680, .inr (.inl tb))), (r2, .inl (gZ g, 6, .inl (fun _ => (0 : Int32)))), (r3, .inl (gI g, 6, .inl gr)), (r4, .inl (gI g, 64, .inl ml))])) ([(md, .inr (5, [.int (mX5_find_4_V1 who), .int mF, .int mR, .ref r1, .ref r2, .ref r3, .int (zI mt), .int mk, .int mw, .int mm, .int mb, .int ms, .ref r4, .int my])), (r1, .inl (gJ g, 327680, .inr (.inl tb))), (r2, .inl (gZ g, 6, .inl (fun _ => (0 : Int32)))), (r3, .inl (gI g, 6, .inl gr)), (r4, .inl (gI g, 64, .inl ml))]) := hD
    refine lv_aload_n hx hb dX5_find_25 rfl (lv_at hl 0 rfl) ?_
    refine va_get (D := gD g) (ci := 5) (v := .int (mX5_find_4_V1 who)) (C := RX5) (T := TX5) (N := 14) hx hb hts inW_X5 hown hC.1 hP 0 rfl rfl 0 (by decide) (hts _ w_733) (fun _ h9 => h9) rfl dX5_find_26 ?_
    refine lv_if_le (tgt := 34) hx hb dX5_find_29 (by decide) (fun c_1 => ?_) (fun c_1 => ?_)
    ·
      refine lv_aload_n hx hb dX5_find_34 rfl (lv_at hl 0 rfl) ?_
      refine lv_iload_n hx hb dX5_find_35 rfl (lv_at hl 1 rfl) ?_
      refine et_callW0 (ws' := [(md, .inr (5, [.int (mX5_find_4_V1 who), .int mF, .int mR, .ref r1, .ref r2, .ref r3, .int (zI mt), .int mk, .int mw, .int mm, .int mb, .int ms, .ref r4, .int my])), (r1, .inl (gJ g, 327680, .inr (.inl ((mX5_build_4 mF mR tb gr fu_1_1).1)))), (r2, .inl (gZ g, 6, .inl (upd (fun _ => (0 : Int32)) (4 : Int32).toNatClampNeg (vp_nar .boolean (1 : Int32))))), (r3, .inl (gI g, 6, .inl ((mX5_build_4 mF mR tb gr fu_1_1).2))), (r4, .inl (gI g, 64, .inl ml))]) (va_runV (As := [.int (4 : Int32)]) (rest := []) ⟨hx, hb, hml, hown, hts⟩ (c_X5_build_4 l g md r1 r2 r3 r4 mF mR (mX5_find_4_V1 who) tb gr mt mk mw mm mb ms ml my fu_1_1 (by assumption) (by assumption) hT_2_2) (cwV 1 hts (W0_gV w_821 w_823 w_56 w_82 w_824) rfl rfl rfl (by decide +kernel) ⟨Nat.le_of_ble_eq_true rfl, Nat.le_of_ble_eq_true rfl⟩) (et_preVW hP hC hD [0, 1, 2, 3, 4] (by decide) rfl (ci := 5) (q0 := 0) rfl rfl) rfl rfl hl.1 rfl (lv_room (Nat.le_of_ble_eq_true rfl)) dX5_find_36 ⟨Nat.le_of_ble_eq_true rfl, Nat.le_of_ble_eq_true rfl⟩) hP hD hS [0, 1, 2, 3, 4] [] 5 rfl [md, r1, r2, r3, r4] rfl rfl rfl [] rfl rfl rfl (by decide +kernel) (fun H locs hP hD hS => ?_)
      refine lv_iload hx hb dX5_find_39 (lv_at hl 4 rfl) ?_
      refine lv_istore (lv' := [(5, .int ix), (0, .ref md), (1, .int (4 : Int32)), (2, .int who), (3, .int nn), (4, .int ix)]) hx hb dX5_find_41 hl (by decide) rfl (fun ls hl => ?_)
      refine lv_iconst (v := (0 : Int32)) hx hb dX5_find_43 (by decide) ?_
      refine lv_istore (lv' := [(6, .int (0 : Int32)), (5, .int ix), (0, .ref md), (1, .int (4 : Int32)), (2, .int who), (3, .int nn), (4, .int ix)]) hx hb dX5_find_44 hl (by decide) rfl (fun ls hl => ?_)
      have hL1 : ∀ (k1 i1 : Nat) (left1 : Int32), i1 + k1 = 262144 → mX5_find_4_L1 mF mR tb gr fu_1_1 who nn ix k1 i1 left1 = (mX5_find_4 mF mR tb gr fu_1_1 who nn ix) → ∀ (H : Heap) (locs : List Loc), va_P (gD g) vwCl ([(md, .inr (5, [.int (mX5_find_4_V1 who), .int mF, .int mR, .ref r1, .ref r2, .ref r3, .int (zI mt), .int mk, .int mw, .int mm, .int mb, .int ms, .ref r4, .int my])), (r1, .inl (gJ g, 327680, .inr (.inl ((mX5_build_4 mF mR tb gr fu_1_1).1)))), (r2, .inl (gZ g, 6, .inl (upd (fun _ => (0 : Int32)) (4 : Int32).toNatClampNeg (vp_nar .boolean (1 : Int32))))), (r3, .inl (gI g, 6, .inl ((mX5_build_4 mF mR tb gr fu_1_1).2))), (r4, .inl (gI g, 64, .inl ml))]) H → va_D (et_ad ([(md, .inr (5, [.int th, .int mF, .int mR, .ref r1, .ref r2, .ref r3, .int (zI mt), .int mk, .int mw, .int mm, .int mb, .int ms, .ref r4, .int my])), (r1, .inl (gJ g, 327680, .inr (.inl tb))), (r2, .inl (gZ g, 6, .inl (fun _ => (0 : Int32)))), (r3, .inl (gI g, 6, .inl gr)), (r4, .inl (gI g, 64, .inl ml))])) ([(md, .inr (5, [.int (mX5_find_4_V1 who), .int mF, .int mR, .ref r1, .ref r2, .ref r3, .int (zI mt), .int mk, .int mw, .int mm, .int mb, .int ms, .ref r4, .int my])), (r1, .inl (gJ g, 327680, .inr (.inl ((mX5_build_4 mF mR tb gr fu_1_1).1)))), (r2, .inl (gZ g, 6, .inl (upd (fun _ => (0 : Int32)) (4 : Int32).toNatClampNeg (vp_nar .boolean (1 : Int32))))), (r3, .inl (gI g, 6, .inl ((mX5_build_4 mF mR tb gr fu_1_1).2))), (r4, .inl (gI g, 64, .inl ml))]) → va_S (et_ad ([(md, .inr (5, [.int th, .int mF, .int mR, .ref r1, .ref r2, .ref r3, .int (zI mt), .int mk, .int mw, .int mm, .int mb, .int ms, .ref r4, .int my])), (r1, .inl (gJ g, 327680, .inr (.inl tb))), (r2, .inl (gZ g, 6, .inl (fun _ => (0 : Int32)))), (r3, .inl (gI g, 6, .inl gr)), (r4, .inl (gI g, 64, .inl ml))])) s.heap H locs → ∀ ls : Array Slot, lv_has ls 7 [(6, .int (nI i1)), (5, .int left1), (0, .ref md), (1, .int (4 : Int32)), (2, .int who), (3, .int nn), (4, .int ix)] → W p l e ({ frames := 7, cells := 0, slots := 0, locals := 185 } : Room) s m args below meth c H locs 0 0 (MQ below (et_QW g ([(md, .inr (5, [.int th, .int mF, .int mR, .ref r1, .ref r2, .ref r3, .int (zI mt), .int mk, .int mw, .int mm, .int mb, .int ms, .ref r4, .int my])), (r1, .inl (gJ g, 327680, .inr (.inl tb))), (r2, .inl (gZ g, 6, .inl (fun _ => (0 : Int32)))), (r3, .inl (gI g, 6, .inl gr)), (r4, .inl (gI g, 64, .inl ml))]) ([(md, .inr (5, [.int ((mX5_find_4 mF mR tb gr fu_1_1 who nn ix).2.1), .int mF, .int mR, .ref r1, .ref r2, .ref r3, .int (zI mt), .int mk, .int mw, .int mm, .int mb, .int ms, .ref r4, .int my])), (r1, .inl (gJ g, 327680, .inr (.inl ((mX5_find_4 mF mR tb gr fu_1_1 who nn ix).2.2.1)))), (r2, .inl (gZ g, 6, .inl ((mX5_find_4 mF mR tb gr fu_1_1 who nn ix).2.2.2.2))), (r3, .inl (gI g, 6, .inl ((mX5_find_4 mF mR tb gr fu_1_1 who nn ix).2.2.2.1))), (r4, .inl (gI g, 64, .inl ml))]) (some (.int ((mX5_find_4 mF mR tb gr fu_1_1 who nn ix).1)))) args s 0 0 (et_ad ([(md, .inr (5, [.int th, .int mF, .int mR, .ref r1, .ref r2, .ref r3, .int (zI mt), .int mk, .int mw, .int mm, .int mb, .int ms, .ref r4, .int my])), (r1, .inl (gJ g, 327680, .inr (.inl tb))), (r2, .inl (gZ g, 6, .inl (fun _ => (0 : Int32)))), (r3, .inl (gI g, 6, .inl gr)), (r4, .inl (gI g, 64, .inl ml))]))) (F0 m 46 ls []) := by
        intro k1
        induction k1 with
        | zero =>
          intro i1 left1 hik hm H locs hP hD hS ls hl
          refine lv_iload hx hb dX5_find_46 (lv_at hl 0 rfl) ?_
          refine lv_ldc hx hb hown (hts _ w_844) dX5_find_48 ?_
          refine lv_icmp_ge (tgt := 113) hx hb dX5_find_50 (by decide) (fun c_2 => ?_) (fun c_2 => ?_)
          rotate_left
          · exact absurd (et_le (a := 262144) (b := i1) (by omega) (by omega)) c_2
          refine lv_aload_n hx hb dX5_find_113 rfl (lv_at hl 2 rfl) ?_
          refine lv_iconst (v := (2 : Int32)) hx hb dX5_find_114 (by decide) ?_
          refine va_put (D := gD g) (ci := 5) (v := .int (2 : Int32)) (ty := .int) (C := RX5) (T := TX5) (N := 14) hx hb hts inW_X5 tyX5 tyX5_ok nmX5 hown hC.1 hP hD hS 0 rfl rfl 0 (by decide) (hts _ w_733) (fun _ h9 => h9) rfl (by decide +kernel) rfl rfl (Nat.le_of_ble_eq_true rfl) dX5_find_115 (fun H locs hP hD hS => ?_)
          have hP : va_P (gD g) vwCl ([(md, .inr (5, [.int (2 : Int32), .int mF, .int mR, .ref r1, .ref r2, .ref r3, .int (zI mt), .int mk, .int mw, .int mm, .int mb, .int ms, .ref r4, .int my])), (r1, .inl (gJ g, 327680, .inr (.inl ((mX5_build_4 mF mR tb gr fu_1_1).1)))), (r2, .inl (gZ g, 6, .inl (upd (fun _ => (0 : Int32)) (4 : Int32).toNatClampNeg (vp_nar .boolean (1 : Int32))))), (r3, .inl (gI g, 6, .inl ((mX5_build_4 mF mR tb gr fu_1_1).2))), (r4, .inl (gI g, 64, .inl ml))]) H := hP
          have hD : va_D (et_ad ([(md, .inr (5, [.int th, .int mF, .int mR, .ref r1, .ref r2, .ref r3, .int (zI mt), .int mk, .int mw, .int mm, .int mb, .int ms, .ref r4, .int my])), (r1, .inl (gJ g, 327680, .inr (.inl tb))), (r2, .inl (gZ g, 6, .inl (fun _ => (0 : Int32)))), (r3, .inl (gI g, 6, .inl gr)), (r4, .inl (gI g, 64, .inl ml))])) ([(md, .inr (5, [.int (2 : Int32), .int mF, .int mR, .ref r1, .ref r2, .ref r3, .int (zI mt), .int mk, .int mw, .int mm, .int mb, .int ms, .ref r4, .int my])), (r1, .inl (gJ g, 327680, .inr (.inl ((mX5_build_4 mF mR tb gr fu_1_1).1)))), (r2, .inl (gZ g, 6, .inl (upd (fun _ => (0 : Int32)) (4 : Int32).toNatClampNeg (vp_nar .boolean (1 : Int32))))), (r3, .inl (gI g, 6, .inl ((mX5_build_4 mF mR tb gr fu_1_1).2))), (r4, .inl (gI g, 64, .inl ml))]) := hD
          refine lv_iconst (v := (0 : Int32)) hx hb dX5_find_118 (by decide) ?_
          have hfin : ((0 : Int32), (2 : Int32), (mX5_build_4 mF mR tb gr fu_1_1).1, (mX5_build_4 mF mR tb gr fu_1_1).2, upd (fun _ => (0 : Int32)) (4 : Int32).toNatClampNeg (vp_nar .boolean (1 : Int32))) = (mX5_find_4 mF mR tb gr fu_1_1 who nn ix) := (by rw [mX5_find_4_L1] : mX5_find_4_L1 mF mR tb gr fu_1_1 who nn ix 0 i1 left1 = ((0 : Int32), (2 : Int32), (mX5_build_4 mF mR tb gr fu_1_1).1, (mX5_build_4 mF mR tb gr fu_1_1).2, upd (fun _ => (0 : Int32)) (4 : Int32).toNatClampNeg (vp_nar .boolean (1 : Int32)))).symm.trans hm
          exact et_iretW hx hb hr hlocks dX5_find_119 hP hS (by rw [← hfin]) ((by rw [← hfin]))
        | succ k1 ih1 =>
          intro i1 left1 hik hm H locs hP hD hS ls hl
          refine lv_iload hx hb dX5_find_46 (lv_at hl 0 rfl) ?_
          refine lv_ldc hx hb hown (hts _ w_844) dX5_find_48 ?_
          refine lv_icmp_ge (tgt := 113) hx hb dX5_find_50 (by decide) (fun c_3 => ?_) (fun c_3 => ?_)
          · exact absurd c_3 (et_ge (a := i1) (b := 262144) (by omega) (by omega))
          refine lv_iload hx hb dX5_find_53 (lv_at hl 6 rfl) ?_
          refine lv_if_lt (tgt := 113) hx hb dX5_find_55 (by decide) (fun c_4 => ?_) (fun c_4 => ?_)
          ·
            refine lv_aload_n hx hb dX5_find_113 rfl (lv_at hl 2 rfl) ?_
            refine lv_iconst (v := (2 : Int32)) hx hb dX5_find_114 (by decide) ?_
            refine va_put (D := gD g) (ci := 5) (v := .int (2 : Int32)) (ty := .int) (C := RX5) (T := TX5) (N := 14) hx hb hts inW_X5 tyX5 tyX5_ok nmX5 hown hC.1 hP hD hS 0 rfl rfl 0 (by decide) (hts _ w_733) (fun _ h9 => h9) rfl (by decide +kernel) rfl rfl (Nat.le_of_ble_eq_true rfl) dX5_find_115 (fun H locs hP hD hS => ?_)
            have hP : va_P (gD g) vwCl ([(md, .inr (5, [.int (2 : Int32), .int mF, .int mR, .ref r1, .ref r2, .ref r3, .int (zI mt), .int mk, .int mw, .int mm, .int mb, .int ms, .ref r4, .int my])), (r1, .inl (gJ g, 327680, .inr (.inl ((mX5_build_4 mF mR tb gr fu_1_1).1)))), (r2, .inl (gZ g, 6, .inl (upd (fun _ => (0 : Int32)) (4 : Int32).toNatClampNeg (vp_nar .boolean (1 : Int32))))), (r3, .inl (gI g, 6, .inl ((mX5_build_4 mF mR tb gr fu_1_1).2))), (r4, .inl (gI g, 64, .inl ml))]) H := hP
            have hD : va_D (et_ad ([(md, .inr (5, [.int th, .int mF, .int mR, .ref r1, .ref r2, .ref r3, .int (zI mt), .int mk, .int mw, .int mm, .int mb, .int ms, .ref r4, .int my])), (r1, .inl (gJ g, 327680, .inr (.inl tb))), (r2, .inl (gZ g, 6, .inl (fun _ => (0 : Int32)))), (r3, .inl (gI g, 6, .inl gr)), (r4, .inl (gI g, 64, .inl ml))])) ([(md, .inr (5, [.int (2 : Int32), .int mF, .int mR, .ref r1, .ref r2, .ref r3, .int (zI mt), .int mk, .int mw, .int mm, .int mb, .int ms, .ref r4, .int my])), (r1, .inl (gJ g, 327680, .inr (.inl ((mX5_build_4 mF mR tb gr fu_1_1).1)))), (r2, .inl (gZ g, 6, .inl (upd (fun _ => (0 : Int32)) (4 : Int32).toNatClampNeg (vp_nar .boolean (1 : Int32))))), (r3, .inl (gI g, 6, .inl ((mX5_build_4 mF mR tb gr fu_1_1).2))), (r4, .inl (gI g, 64, .inl ml))]) := hD
            refine lv_iconst (v := (0 : Int32)) hx hb dX5_find_118 (by decide) ?_
            have hfin : ((0 : Int32), (2 : Int32), (mX5_build_4 mF mR tb gr fu_1_1).1, (mX5_build_4 mF mR tb gr fu_1_1).2, upd (fun _ => (0 : Int32)) (4 : Int32).toNatClampNeg (vp_nar .boolean (1 : Int32))) = (mX5_find_4 mF mR tb gr fu_1_1 who nn ix) := (by rw [mX5_find_4_L1, if_pos c_4] : mX5_find_4_L1 mF mR tb gr fu_1_1 who nn ix (k1 + 1) i1 left1 = ((0 : Int32), (2 : Int32), (mX5_build_4 mF mR tb gr fu_1_1).1, (mX5_build_4 mF mR tb gr fu_1_1).2, upd (fun _ => (0 : Int32)) (4 : Int32).toNatClampNeg (vp_nar .boolean (1 : Int32)))).symm.trans hm
            exact et_iretW hx hb hr hlocks dX5_find_119 hP hS (by rw [← hfin]) ((by rw [← hfin]))
          ·
            refine lv_aload_n hx hb dX5_find_58 rfl (lv_at hl 2 rfl) ?_
            refine lv_iload_n hx hb dX5_find_59 rfl (lv_at hl 3 rfl) ?_
            refine lv_iload_n hx hb dX5_find_60 rfl (lv_at hl 4 rfl) ?_
            refine lv_iload_n hx hb dX5_find_61 rfl (lv_at hl 5 rfl) ?_
            refine lv_iload hx hb dX5_find_62 (lv_at hl 0 rfl) ?_
            refine et_callP1 (v := .int (zI (mX5_isOne mF mR ((mX5_build_4 mF mR tb gr fu_1_1).1) (4 : Int32) who nn (nI i1)))) (va_runV (As := [.int (4 : Int32), .int who, .int nn, .int (nI i1)]) (rest := []) ⟨hx, hb, hml, hown, hts⟩ (c_X5_isOne l g md r1 r2 r3 r4 mF mR (mX5_find_4_V1 who) ((mX5_build_4 mF mR tb gr fu_1_1).1) (upd (fun _ => (0 : Int32)) (4 : Int32).toNatClampNeg (vp_nar .boolean (1 : Int32))) ((mX5_build_4 mF mR tb gr fu_1_1).2) mt mk mw mm mb ms ml my (4 : Int32) who nn (nI i1) (by assumption) (by assumption) (et_kdl (by decide)) (et_findV_4 (by assumption)) (et_ati (by omega))) (cwV 4 hts (W0_gV w_874 w_876 w_67 w_82 w_877) rfl rfl rfl (by decide +kernel) ⟨Nat.le_of_ble_eq_true rfl, Nat.le_of_ble_eq_true rfl⟩) (et_preV hP hC [0, 1, 2, 3, 4] rfl (ci := 5) (q0 := 0) rfl rfl) rfl rfl hl.1 rfl (lv_room (Nat.le_of_ble_eq_true rfl)) dX5_find_64 ⟨Nat.le_of_ble_eq_true rfl, Nat.le_of_ble_eq_true rfl⟩) ?_
            refine lv_if_eq (tgt := 107) hx hb dX5_find_67 (by decide) (fun c_5 => ?_) (fun c_5 => ?_)
            ·
              refine lv_iinc (v := nI (i1 + 1)) (lv' := [(6, .int (nI (i1 + 1))), (5, .int left1), (0, .ref md), (1, .int (4 : Int32)), (2, .int who), (3, .int nn), (4, .int ix)]) hx hb dX5_find_107 hl (k := 0) rfl (et_inc i1) (by decide) rfl (fun ls hl => ?_)
              refine lv_goto (tgt := 46) hx hb dX5_find_110 (by decide) ?_
              exact ih1 (i1 + 1) left1 (by omega) ((by rw [mX5_find_4_L1, if_neg c_4, if_pos c_5] : mX5_find_4_L1 mF mR tb gr fu_1_1 who nn ix (k1 + 1) i1 left1 = mX5_find_4_L1 mF mR tb gr fu_1_1 who nn ix k1 (i1 + 1) left1).symm.trans hm) _ _ hP hD hS ls (lv_sub hl [0, 1, 2, 3, 4, 5, 6] rfl)
            ·
              refine lv_iload hx hb dX5_find_70 (lv_at hl 1 rfl) ?_
              refine lv_if_ne (tgt := 104) hx hb dX5_find_72 (by decide) (fun c_6 => ?_) (fun c_6 => ?_)
              ·
                refine lv_iinc (v := left1 + (-1 : Int32)) (lv' := [(5, .int (left1 + (-1 : Int32))), (6, .int (nI i1)), (0, .ref md), (1, .int (4 : Int32)), (2, .int who), (3, .int nn), (4, .int ix)]) hx hb dX5_find_104 hl (k := 1) rfl rfl (by decide) rfl (fun ls hl => ?_)
                refine lv_iinc (v := nI (i1 + 1)) (lv' := [(6, .int (nI (i1 + 1))), (5, .int (left1 + (-1 : Int32))), (0, .ref md), (1, .int (4 : Int32)), (2, .int who), (3, .int nn), (4, .int ix)]) hx hb dX5_find_107 hl (k := 1) rfl (et_inc i1) (by decide) rfl (fun ls hl => ?_)
                refine lv_goto (tgt := 46) hx hb dX5_find_110 (by decide) ?_
                exact ih1 (i1 + 1) (left1 + (-1 : Int32)) (by omega) ((by rw [mX5_find_4_L1, if_neg c_4, if_neg c_5, if_neg c_6] : mX5_find_4_L1 mF mR tb gr fu_1_1 who nn ix (k1 + 1) i1 left1 = mX5_find_4_L1 mF mR tb gr fu_1_1 who nn ix k1 (i1 + 1) (left1 + (-1 : Int32))).symm.trans hm) _ _ hP hD hS ls (lv_sub hl [0, 1, 2, 3, 4, 5, 6] rfl)
              ·
                refine lv_iload hx hb dX5_find_75 (lv_at hl 0 rfl) ?_
                refine lv_sipush (v := (4096 : Int32)) hx hb dX5_find_77 (by decide) ?_
                refine lv_idiv hx hb dX5_find_80 (by decide) ?_
                refine lv_bipush (v := (64 : Int32)) hx hb dX5_find_81 (by decide) ?_
                refine lv_iload hx hb dX5_find_83 (lv_at hl 0 rfl) ?_
                refine lv_bipush (v := (64 : Int32)) hx hb dX5_find_85 (by decide) ?_
                refine lv_idiv hx hb dX5_find_87 (by decide) ?_
                refine lv_bipush (v := (64 : Int32)) hx hb dX5_find_88 (by decide) ?_
                refine lv_irem hx hb dX5_find_90 (by decide) ?_
                refine lv_imul hx hb dX5_find_91 ?_
                refine lv_iadd hx hb dX5_find_92 ?_
                refine lv_sipush (v := (4096 : Int32)) hx hb dX5_find_93 (by decide) ?_
                refine lv_iload hx hb dX5_find_96 (lv_at hl 0 rfl) ?_
                refine lv_bipush (v := (64 : Int32)) hx hb dX5_find_98 (by decide) ?_
                refine lv_irem hx hb dX5_find_100 (by decide) ?_
                refine lv_imul hx hb dX5_find_101 ?_
                refine lv_iadd hx hb dX5_find_102 ?_
                have hfin : ((((nI i1) / (4096 : Int32)) + ((64 : Int32) * (((nI i1) / (64 : Int32)) - ((nI i1) / (64 : Int32)) / (64 : Int32) * (64 : Int32)))) + ((4096 : Int32) * ((nI i1) - (nI i1) / (64 : Int32) * (64 : Int32))), (mX5_find_4_V1 who), (mX5_build_4 mF mR tb gr fu_1_1).1, (mX5_build_4 mF mR tb gr fu_1_1).2, upd (fun _ => (0 : Int32)) (4 : Int32).toNatClampNeg (vp_nar .boolean (1 : Int32))) = (mX5_find_4 mF mR tb gr fu_1_1 who nn ix) := (by rw [mX5_find_4_L1, if_neg c_4, if_neg c_5, if_pos c_6] : mX5_find_4_L1 mF mR tb gr fu_1_1 who nn ix (k1 + 1) i1 left1 = ((((nI i1) / (4096 : Int32)) + ((64 : Int32) * (((nI i1) / (64 : Int32)) - ((nI i1) / (64 : Int32)) / (64 : Int32) * (64 : Int32)))) + ((4096 : Int32) * ((nI i1) - (nI i1) / (64 : Int32) * (64 : Int32))), (mX5_find_4_V1 who), (mX5_build_4 mF mR tb gr fu_1_1).1, (mX5_build_4 mF mR tb gr fu_1_1).2, upd (fun _ => (0 : Int32)) (4 : Int32).toNatClampNeg (vp_nar .boolean (1 : Int32)))).symm.trans hm
                exact et_iretW hx hb hr hlocks dX5_find_103 hP hS (by rw [← hfin]) ((by rw [← hfin]))
      exact hL1 262144 0 ix (by omega) (show mX5_find_4_L1 mF mR tb gr fu_1_1 who nn ix 262144 0 ix = (mX5_find_4 mF mR tb gr fu_1_1 who nn ix) from (by rw [mX5_find_4, if_pos c_1])) _ _ hP hD hS ls (lv_sub hl [0, 1, 2, 3, 4, 5, 6] rfl)
    ·
      refine lv_iconst (v := (0 : Int32)) hx hb dX5_find_32 (by decide) ?_
      have hfin : ((0 : Int32), (mX5_find_4_V1 who), tb, gr, (fun _ => (0 : Int32))) = (mX5_find_4 mF mR tb gr fu_1_1 who nn ix) := (by rw [mX5_find_4, if_neg c_1])
      exact et_iretW hx hb hr hlocks dX5_find_33 hP hS (by rw [← hfin]) ((by rw [← hfin]))
  refine lv_iload_n hx hb dX5_find_1 rfl (lv_at hl 1 rfl) ?_
  refine et_callP1 (v := .int (zI (mX5_isKind (4 : Int32)))) (va_runS (As := [.int (4 : Int32)]) (rest := [.ref md]) ⟨hx, hb, hml, hown, hts⟩ (c_X5_isKind l g (4 : Int32)) (va_cwS 1 hts (W0_gS w_789 w_790 w_82 w_791) rfl rfl rfl (by decide +kernel) ⟨Nat.le_of_ble_eq_true rfl, Nat.le_of_ble_eq_true rfl⟩) (et_preS hP hC [] rfl) rfl rfl hl.1 rfl (lv_room (Nat.le_of_ble_eq_true rfl)) dX5_find_2 ⟨Nat.le_of_ble_eq_true rfl, Nat.le_of_ble_eq_true rfl⟩) ?_
  refine lv_if_eq (tgt := 21) hx hb dX5_find_5 (by decide) (fun c_7 => ?_) (fun c_7 => ?_)
  ·
    refine lv_iconst (v := (1 : Int32)) hx hb dX5_find_21 (by decide) ?_
    have he1 : ((1 : Int32) : Int32) = (mX5_find_4_V1 who) := (by rw [mX5_find_4_V1, if_pos c_7])
    exact et_stki he1 (hj1 ls (lv_sub hl [0, 1, 2, 3, 4] rfl))
  ·
    refine lv_iload_n hx hb dX5_find_8 rfl (lv_at hl 2 rfl) ?_
    refine lv_if_lt (tgt := 21) hx hb dX5_find_9 (by decide) (fun c_8 => ?_) (fun c_8 => ?_)
    ·
      refine lv_iconst (v := (1 : Int32)) hx hb dX5_find_21 (by decide) ?_
      have he2 : ((1 : Int32) : Int32) = (mX5_find_4_V1 who) := (by rw [mX5_find_4_V1, if_neg c_7, if_pos c_8])
      exact et_stki he2 (hj1 ls (lv_sub hl [0, 1, 2, 3, 4] rfl))
    ·
      refine lv_iload_n hx hb dX5_find_12 rfl (lv_at hl 2 rfl) ?_
      refine lv_iconst (v := (2 : Int32)) hx hb dX5_find_13 (by decide) ?_
      refine lv_icmp_ge (tgt := 21) hx hb dX5_find_14 (by decide) (fun c_9 => ?_) (fun c_9 => ?_)
      ·
        refine lv_iconst (v := (1 : Int32)) hx hb dX5_find_21 (by decide) ?_
        have he3 : ((1 : Int32) : Int32) = (mX5_find_4_V1 who) := (by rw [mX5_find_4_V1, if_neg c_7, if_neg c_8, if_pos c_9])
        exact et_stki he3 (hj1 ls (lv_sub hl [0, 1, 2, 3, 4] rfl))
      ·
        refine lv_iconst (v := (0 : Int32)) hx hb dX5_find_17 (by decide) ?_
        refine lv_goto (tgt := 22) hx hb dX5_find_18 (by decide) ?_
        have he4 : ((0 : Int32) : Int32) = (mX5_find_4_V1 who) := (by rw [mX5_find_4_V1, if_neg c_7, if_neg c_8, if_neg c_9])
        exact et_stki he4 (hj1 ls (lv_sub hl [0, 1, 2, 3, 4] rfl))

def mX5_longest_4_V1  : Int32 :=
  if (zI (mX5_isKind (4 : Int32))) = 0 then
    (1 : Int32)
  else
    (0 : Int32)
def mX5_longest_4 (mF : Int32) (mR : Int32) (tb : Nat → Int64) (gr : Nat → Int32) (fu_1_1 : Nat) : Int32 × Int32 × (Nat → Int64) × (Nat → Int32) × (Nat → Int32) :=
  if (mX5_longest_4_V1) ≤ 0 then
    (((mX5_build_4 mF mR tb gr fu_1_1).2) (4 : Int32).toNatClampNeg, (mX5_longest_4_V1), (mX5_build_4 mF mR tb gr fu_1_1).1, (mX5_build_4 mF mR tb gr fu_1_1).2, upd (fun _ => (0 : Int32)) (4 : Int32).toNatClampNeg (vp_nar .boolean (1 : Int32)))
  else
    ((0 : Int32), (mX5_longest_4_V1), tb, gr, (fun _ => (0 : Int32)))
set_option maxHeartbeats 4000000 in
set_option maxRecDepth 100000 in
theorem c_X5_longest_4 (l : Launch) (g : et_G) (md : Nat) (r1 : Nat) (r2 : Nat) (r3 : Nat) (r4 : Nat) (mF : Int32) (mR : Int32) (th : Int32) (tb : Nat → Int64) (gr : Nat → Int32) (mt : Bool) (mk : Int32) (mw : Int32) (mm : Int32) (mb : Int32) (ms : Int32) (ml : Nat → Int32) (my : Int32) (fu_1_1 : Nat) (hF : et_b8 mF) (hR : et_b8 mR) (hT_2_2 : mX5_passAll_L1_ok mF mR (4 : Int32) (1 : Int32) fu_1_1 0 (0 : Int32) (0 : Int32) tb (upd gr (4 : Int32).toNatClampNeg (-1 : Int32)) = true) : Met l yX5_longest (Cond.code yX5_longest cX5_longest 2 (some (.int)) :: W0) ({ frames := 7, cells := 0, slots := 0, locals := 185 } : Room) (et_PcW g ([(md, .inr (5, [.int th, .int mF, .int mR, .ref r1, .ref r2, .ref r3, .int (zI mt), .int mk, .int mw, .int mm, .int mb, .int ms, .ref r4, .int my])), (r1, .inl (gJ g, 327680, .inr (.inl tb))), (r2, .inl (gZ g, 6, .inl (fun _ => (0 : Int32)))), (r3, .inl (gI g, 6, .inl gr)), (r4, .inl (gI g, 64, .inl ml))]) [.ref md, .int (4 : Int32)]) (et_QW g ([(md, .inr (5, [.int th, .int mF, .int mR, .ref r1, .ref r2, .ref r3, .int (zI mt), .int mk, .int mw, .int mm, .int mb, .int ms, .ref r4, .int my])), (r1, .inl (gJ g, 327680, .inr (.inl tb))), (r2, .inl (gZ g, 6, .inl (fun _ => (0 : Int32)))), (r3, .inl (gI g, 6, .inl gr)), (r4, .inl (gI g, 64, .inl ml))]) ([(md, .inr (5, [.int ((mX5_longest_4 mF mR tb gr fu_1_1).2.1), .int mF, .int mR, .ref r1, .ref r2, .ref r3, .int (zI mt), .int mk, .int mw, .int mm, .int mb, .int ms, .ref r4, .int my])), (r1, .inl (gJ g, 327680, .inr (.inl ((mX5_longest_4 mF mR tb gr fu_1_1).2.2.1)))), (r2, .inl (gZ g, 6, .inl ((mX5_longest_4 mF mR tb gr fu_1_1).2.2.2.2))), (r3, .inl (gI g, 6, .inl ((mX5_longest_4 mF mR tb gr fu_1_1).2.2.2.1))), (r4, .inl (gI g, 64, .inl ml))]) (some (.int ((mX5_longest_4 mF mR tb gr fu_1_1).1)))) 0 0 (et_ad ([(md, .inr (5, [.int th, .int mF, .int mR, .ref r1, .ref r2, .ref r3, .int (zI mt), .int mk, .int mw, .int mm, .int mb, .int ms, .ref r4, .int my])), (r1, .inl (gJ g, 327680, .inr (.inl tb))), (r2, .inl (gZ g, 6, .inl (fun _ => (0 : Int32)))), (r3, .inl (gI g, 6, .inl gr)), (r4, .inl (gI g, 64, .inl ml))])) := by
  refine et_startW (by decide) rfl (Nat.le_of_ble_eq_true rfl) ?_
  intro p e s m args below meth c hx hb hr hts0 hown hlocks hml hP hC hD hS ls hl
  have hts : ∀ w ∈ W0, w.before args s = true := fun w h => hts0 w (List.mem_cons_of_mem _ h)
  have hown : s.vm.findClass RX5 = some m.cls := hown
  have hl : lv_has ls 2 [(0, .ref md), (1, .int (4 : Int32))] := hl
  refine lv_aload_n hx hb dX5_longest_0 rfl (lv_at hl 0 rfl) ?_
  have hj1 : ∀ ls : Array Slot, lv_has ls 2 [(0, .ref md), (1, .int (4 : Int32))] → W p l e ({ frames := 7, cells := 0, slots := 0, locals := 185 } : Room) s m args below meth c s.heap [] 0 0 (MQ below (et_QW g ([(md, .inr (5, [.int th, .int mF, .int mR, .ref r1, .ref r2, .ref r3, .int (zI mt), .int mk, .int mw, .int mm, .int mb, .int ms, .ref r4, .int my])), (r1, .inl (gJ g, 327680, .inr (.inl tb))), (r2, .inl (gZ g, 6, .inl (fun _ => (0 : Int32)))), (r3, .inl (gI g, 6, .inl gr)), (r4, .inl (gI g, 64, .inl ml))]) ([(md, .inr (5, [.int ((mX5_longest_4 mF mR tb gr fu_1_1).2.1), .int mF, .int mR, .ref r1, .ref r2, .ref r3, .int (zI mt), .int mk, .int mw, .int mm, .int mb, .int ms, .ref r4, .int my])), (r1, .inl (gJ g, 327680, .inr (.inl ((mX5_longest_4 mF mR tb gr fu_1_1).2.2.1)))), (r2, .inl (gZ g, 6, .inl ((mX5_longest_4 mF mR tb gr fu_1_1).2.2.2.2))), (r3, .inl (gI g, 6, .inl ((mX5_longest_4 mF mR tb gr fu_1_1).2.2.2.1))), (r4, .inl (gI g, 64, .inl ml))]) (some (.int ((mX5_longest_4 mF mR tb gr fu_1_1).1)))) args s 0 0 (et_ad ([(md, .inr (5, [.int th, .int mF, .int mR, .ref r1, .ref r2, .ref r3, .int (zI mt), .int mk, .int mw, .int mm, .int mb, .int ms, .ref r4, .int my])), (r1, .inl (gJ g, 327680, .inr (.inl tb))), (r2, .inl (gZ g, 6, .inl (fun _ => (0 : Int32)))), (r3, .inl (gI g, 6, .inl gr)), (r4, .inl (gI g, 64, .inl ml))]))) (F0 m 13 ls [.int (mX5_longest_4_V1), .ref md]) := by
    intro ls hl
    refine va_put (D := gD g) (ci := 5) (v := .int (mX5_longest_4_V1)) (ty := .int) (C := RX5) (T := TX5) (N := 14) hx hb hts inW_X5 tyX5 tyX5_ok nmX5 hown hC.1 hP hD hS 0 rfl rfl 0 (by decide) (hts _ w_733) (fun _ h9 => h9) rfl (by decide +kernel) rfl rfl (Nat.le_of_ble_eq_true rfl) dX5_longest_13 (fun H locs hP hD hS => ?_)
    have hP : va_P (gD g) vwCl ([(md, .inr (5, [.int (mX5_longest_4_V1), .int mF, .int mR, .ref r1, .ref r2, .ref r3, .int (zI mt), .int mk, .int mw, .int mm, .int mb, .int ms, .ref r4, .int my])), (r1, .inl (gJ g, 327680, .inr (.inl tb))), (r2, .inl (gZ g, 6, .inl (fun _ => (0 : Int32)))), (r3, .inl (gI g, 6, .inl gr)), (r4, .inl (gI g, 64, .inl ml))]) H := hP
    have hD : va_D (et_ad ([(md, .inr (5, [.int th, .int mF, .int mR, .ref r1, .ref r2, .ref r3, .int (zI mt), .int mk, .int mw, .int mm, .int mb, .int ms, .ref r4, .int my])), (r1, .inl (gJ g, 327680, .inr (.inl tb))), (r2, .inl (gZ g, 6, .inl (fun _ => (0 : Int32)))), (r3, .inl (gI g, 6, .inl gr)), (r4, .inl (gI g, 64, .inl ml))])) ([(md, .inr (5, [.int (mX5_longest_4_V1), .int mF, .int mR, .ref r1, .ref r2, .ref r3, .int (zI mt), .int mk, .int mw, .int mm, .int mb, .int ms, .ref r4, .int my])), (r1, .inl (gJ g, 327680, .inr (.inl tb))), (r2, .inl (gZ g, 6, .inl (fun _ => (0 : Int32)))), (r3, .inl (gI g, 6, .inl gr)), (r4, .inl (gI g, 64, .inl ml))]) := hD
    refine lv_aload_n hx hb dX5_longest_16 rfl (lv_at hl 0 rfl) ?_
    refine va_get (D := gD g) (ci := 5) (v := .int (mX5_longest_4_V1)) (C := RX5) (T := TX5) (N := 14) hx hb hts inW_X5 hown hC.1 hP 0 rfl rfl 0 (by decide) (hts _ w_733) (fun _ h9 => h9) rfl dX5_longest_17 ?_
    refine lv_if_le (tgt := 25) hx hb dX5_longest_20 (by decide) (fun c_1 => ?_) (fun c_1 => ?_)
    ·
      refine lv_aload_n hx hb dX5_longest_25 rfl (lv_at hl 0 rfl) ?_
      refine lv_iload_n hx hb dX5_longest_26 rfl (lv_at hl 1 rfl) ?_
      refine et_callW0 (ws' := [(md, .inr (5, [.int (mX5_longest_4_V1), .int mF, .int mR, .ref r1, .ref r2, .ref r3, .int (zI mt), .int mk, .int mw, .int mm, .int mb, .int ms, .ref r4, .int my])), (r1, .inl (gJ g, 327680, .inr (.inl ((mX5_build_4 mF mR tb gr fu_1_1).1)))), (r2, .inl (gZ g, 6, .inl (upd (fun _ => (0 : Int32)) (4 : Int32).toNatClampNeg (vp_nar .boolean (1 : Int32))))), (r3, .inl (gI g, 6, .inl ((mX5_build_4 mF mR tb gr fu_1_1).2))), (r4, .inl (gI g, 64, .inl ml))]) (va_runV (As := [.int (4 : Int32)]) (rest := []) ⟨hx, hb, hml, hown, hts⟩ (c_X5_build_4 l g md r1 r2 r3 r4 mF mR (mX5_longest_4_V1) tb gr mt mk mw mm mb ms ml my fu_1_1 (by assumption) (by assumption) hT_2_2) (cwV 1 hts (W0_gV w_821 w_823 w_56 w_82 w_824) rfl rfl rfl (by decide +kernel) ⟨Nat.le_of_ble_eq_true rfl, Nat.le_of_ble_eq_true rfl⟩) (et_preVW hP hC hD [0, 1, 2, 3, 4] (by decide) rfl (ci := 5) (q0 := 0) rfl rfl) rfl rfl hl.1 rfl (lv_room (Nat.le_of_ble_eq_true rfl)) dX5_longest_27 ⟨Nat.le_of_ble_eq_true rfl, Nat.le_of_ble_eq_true rfl⟩) hP hD hS [0, 1, 2, 3, 4] [] 5 rfl [md, r1, r2, r3, r4] rfl rfl rfl [] rfl rfl rfl (by decide +kernel) (fun H locs hP hD hS => ?_)
      refine lv_aload_n hx hb dX5_longest_30 rfl (lv_at hl 0 rfl) ?_
      refine va_get (D := gD g) (ci := 5) (v := .ref r3) (C := RX5) (T := TX5) (N := 14) hx hb hts inW_X5 hown hC.1 hP 0 rfl rfl 5 (by decide) (hts _ w_738) (fun _ h9 => h9) rfl dX5_longest_31 ?_
      refine lv_iload_n hx hb dX5_longest_34 rfl (lv_at hl 1 rfl) ?_
      refine va_iald (D := gD g) hx hb hC.1 hP 3 0 rfl rfl (et_kd_in (et_kdl (by decide))) dX5_longest_35 ?_
      have hfin : (((mX5_build_4 mF mR tb gr fu_1_1).2) (4 : Int32).toNatClampNeg, (mX5_longest_4_V1), (mX5_build_4 mF mR tb gr fu_1_1).1, (mX5_build_4 mF mR tb gr fu_1_1).2, upd (fun _ => (0 : Int32)) (4 : Int32).toNatClampNeg (vp_nar .boolean (1 : Int32))) = (mX5_longest_4 mF mR tb gr fu_1_1) := (by rw [mX5_longest_4, if_pos c_1])
      exact et_iretW hx hb hr hlocks dX5_longest_36 hP hS (by rw [← hfin]) ((by rw [← hfin]))
    ·
      refine lv_iconst (v := (0 : Int32)) hx hb dX5_longest_23 (by decide) ?_
      have hfin : ((0 : Int32), (mX5_longest_4_V1), tb, gr, (fun _ => (0 : Int32))) = (mX5_longest_4 mF mR tb gr fu_1_1) := (by rw [mX5_longest_4, if_neg c_1])
      exact et_iretW hx hb hr hlocks dX5_longest_24 hP hS (by rw [← hfin]) ((by rw [← hfin]))
  refine lv_iload_n hx hb dX5_longest_1 rfl (lv_at hl 1 rfl) ?_
  refine et_callP1 (v := .int (zI (mX5_isKind (4 : Int32)))) (va_runS (As := [.int (4 : Int32)]) (rest := [.ref md]) ⟨hx, hb, hml, hown, hts⟩ (c_X5_isKind l g (4 : Int32)) (va_cwS 1 hts (W0_gS w_789 w_790 w_82 w_791) rfl rfl rfl (by decide +kernel) ⟨Nat.le_of_ble_eq_true rfl, Nat.le_of_ble_eq_true rfl⟩) (et_preS hP hC [] rfl) rfl rfl hl.1 rfl (lv_room (Nat.le_of_ble_eq_true rfl)) dX5_longest_2 ⟨Nat.le_of_ble_eq_true rfl, Nat.le_of_ble_eq_true rfl⟩) ?_
  refine lv_if_eq (tgt := 12) hx hb dX5_longest_5 (by decide) (fun c_2 => ?_) (fun c_2 => ?_)
  ·
    refine lv_iconst (v := (1 : Int32)) hx hb dX5_longest_12 (by decide) ?_
    have he1 : ((1 : Int32) : Int32) = (mX5_longest_4_V1) := (by rw [mX5_longest_4_V1, if_pos c_2])
    exact et_stki he1 (hj1 ls (lv_sub hl [0, 1] rfl))
  ·
    refine lv_iconst (v := (0 : Int32)) hx hb dX5_longest_8 (by decide) ?_
    refine lv_goto (tgt := 13) hx hb dX5_longest_9 (by decide) ?_
    have he2 : ((0 : Int32) : Int32) = (mX5_longest_4_V1) := (by rw [mX5_longest_4_V1, if_neg c_2])
    exact et_stki he2 (hj1 ls (lv_sub hl [0, 1] rfl))

def mX5_distance_5_V1 (mF : Int32) (mR : Int32) (ww : Int32) (wm : Int32) (wb : Int32) (who : Int32) : Int32 :=
  if (zI (mX5_isKind (5 : Int32))) = 0 then
    (1 : Int32)
  else
    if (zI (mX5_isPosition mF mR (5 : Int32) ww wm wb who)) = 0 then
      (1 : Int32)
    else
      (0 : Int32)
def mX5_distance_5 (mF : Int32) (mR : Int32) (tb : Nat → Int64) (gr : Nat → Int32) (fu_1_1_1 : Nat) (ww : Int32) (wm : Int32) (wb : Int32) (who : Int32) : Int32 × Int32 × (Nat → Int64) × (Nat → Int32) × (Nat → Int32) :=
  if (mX5_distance_5_V1 mF mR ww wm wb who) ≤ 0 then
    ((mX5_distanceOf_5 mF mR tb gr fu_1_1_1 ww wm wb who).1, (mX5_distance_5_V1 mF mR ww wm wb who), (mX5_distanceOf_5 mF mR tb gr fu_1_1_1 ww wm wb who).2.1, (mX5_distanceOf_5 mF mR tb gr fu_1_1_1 ww wm wb who).2.2, upd (fun _ => (0 : Int32)) (5 : Int32).toNatClampNeg (vp_nar .boolean (1 : Int32)))
  else
    ((0 : Int32), (mX5_distance_5_V1 mF mR ww wm wb who), tb, gr, (fun _ => (0 : Int32)))
theorem et_distV_5 {mF mR ww wm wb who : Int32} (h : mX5_distance_5_V1 mF mR ww wm wb who ≤ 0) : et_sd who ∧ et_r64 ww ∧ et_r64 wm ∧ et_r64 wb := by
  refine et_posr (mF := mF) (mR := mR) (kd := (5 : Int32)) (by decide) (fun h1 => ?_)
  unfold mX5_distance_5_V1 at h
  rw [if_neg (show ¬ zI (mX5_isKind (5 : Int32)) = 0 by decide), if_pos h1] at h
  exact absurd h (by decide)
set_option maxHeartbeats 4000000 in
set_option maxRecDepth 100000 in
theorem c_X5_distance_5 (l : Launch) (g : et_G) (md : Nat) (r1 : Nat) (r2 : Nat) (r3 : Nat) (r4 : Nat) (mF : Int32) (mR : Int32) (th : Int32) (tb : Nat → Int64) (gr : Nat → Int32) (mt : Bool) (mk : Int32) (mw : Int32) (mm : Int32) (mb : Int32) (ms : Int32) (ml : Nat → Int32) (my : Int32) (fu_1_1_1 : Nat) (ww : Int32) (wm : Int32) (wb : Int32) (who : Int32) (hF : et_b8 mF) (hR : et_b8 mR) (hT_2_2_2 : mX5_passAll_L1_ok mF mR (5 : Int32) (1 : Int32) fu_1_1_1 0 (0 : Int32) (0 : Int32) tb (upd gr (5 : Int32).toNatClampNeg (-1 : Int32)) = true) : Met l yX5_distance (Cond.code yX5_distance cX5_distance 6 (some (.int)) :: W0) ({ frames := 8, cells := 0, slots := 0, locals := 210 } : Room) (et_PcW g ([(md, .inr (5, [.int th, .int mF, .int mR, .ref r1, .ref r2, .ref r3, .int (zI mt), .int mk, .int mw, .int mm, .int mb, .int ms, .ref r4, .int my])), (r1, .inl (gJ g, 327680, .inr (.inl tb))), (r2, .inl (gZ g, 6, .inl (fun _ => (0 : Int32)))), (r3, .inl (gI g, 6, .inl gr)), (r4, .inl (gI g, 64, .inl ml))]) [.ref md, .int (5 : Int32), .int ww, .int wm, .int wb, .int who]) (et_QW g ([(md, .inr (5, [.int th, .int mF, .int mR, .ref r1, .ref r2, .ref r3, .int (zI mt), .int mk, .int mw, .int mm, .int mb, .int ms, .ref r4, .int my])), (r1, .inl (gJ g, 327680, .inr (.inl tb))), (r2, .inl (gZ g, 6, .inl (fun _ => (0 : Int32)))), (r3, .inl (gI g, 6, .inl gr)), (r4, .inl (gI g, 64, .inl ml))]) ([(md, .inr (5, [.int ((mX5_distance_5 mF mR tb gr fu_1_1_1 ww wm wb who).2.1), .int mF, .int mR, .ref r1, .ref r2, .ref r3, .int (zI mt), .int mk, .int mw, .int mm, .int mb, .int ms, .ref r4, .int my])), (r1, .inl (gJ g, 327680, .inr (.inl ((mX5_distance_5 mF mR tb gr fu_1_1_1 ww wm wb who).2.2.1)))), (r2, .inl (gZ g, 6, .inl ((mX5_distance_5 mF mR tb gr fu_1_1_1 ww wm wb who).2.2.2.2))), (r3, .inl (gI g, 6, .inl ((mX5_distance_5 mF mR tb gr fu_1_1_1 ww wm wb who).2.2.2.1))), (r4, .inl (gI g, 64, .inl ml))]) (some (.int ((mX5_distance_5 mF mR tb gr fu_1_1_1 ww wm wb who).1)))) 0 0 (et_ad ([(md, .inr (5, [.int th, .int mF, .int mR, .ref r1, .ref r2, .ref r3, .int (zI mt), .int mk, .int mw, .int mm, .int mb, .int ms, .ref r4, .int my])), (r1, .inl (gJ g, 327680, .inr (.inl tb))), (r2, .inl (gZ g, 6, .inl (fun _ => (0 : Int32)))), (r3, .inl (gI g, 6, .inl gr)), (r4, .inl (gI g, 64, .inl ml))])) := by
  refine et_startW (by decide) rfl (Nat.le_of_ble_eq_true rfl) ?_
  intro p e s m args below meth c hx hb hr hts0 hown hlocks hml hP hC hD hS ls hl
  have hts : ∀ w ∈ W0, w.before args s = true := fun w h => hts0 w (List.mem_cons_of_mem _ h)
  have hown : s.vm.findClass RX5 = some m.cls := hown
  have hl : lv_has ls 6 [(0, .ref md), (1, .int (5 : Int32)), (2, .int ww), (3, .int wm), (4, .int wb), (5, .int who)] := hl
  refine lv_aload_n hx hb dX5_distance_0 rfl (lv_at hl 0 rfl) ?_
  have hj1 : ∀ ls : Array Slot, lv_has ls 6 [(0, .ref md), (1, .int (5 : Int32)), (2, .int ww), (3, .int wm), (4, .int wb), (5, .int who)] → W p l e ({ frames := 8, cells := 0, slots := 0, locals := 210 } : Room) s m args below meth c s.heap [] 0 0 (MQ below (et_QW g ([(md, .inr (5, [.int th, .int mF, .int mR, .ref r1, .ref r2, .ref r3, .int (zI mt), .int mk, .int mw, .int mm, .int mb, .int ms, .ref r4, .int my])), (r1, .inl (gJ g, 327680, .inr (.inl tb))), (r2, .inl (gZ g, 6, .inl (fun _ => (0 : Int32)))), (r3, .inl (gI g, 6, .inl gr)), (r4, .inl (gI g, 64, .inl ml))]) ([(md, .inr (5, [.int ((mX5_distance_5 mF mR tb gr fu_1_1_1 ww wm wb who).2.1), .int mF, .int mR, .ref r1, .ref r2, .ref r3, .int (zI mt), .int mk, .int mw, .int mm, .int mb, .int ms, .ref r4, .int my])), (r1, .inl (gJ g, 327680, .inr (.inl ((mX5_distance_5 mF mR tb gr fu_1_1_1 ww wm wb who).2.2.1)))), (r2, .inl (gZ g, 6, .inl ((mX5_distance_5 mF mR tb gr fu_1_1_1 ww wm wb who).2.2.2.2))), (r3, .inl (gI g, 6, .inl ((mX5_distance_5 mF mR tb gr fu_1_1_1 ww wm wb who).2.2.2.1))), (r4, .inl (gI g, 64, .inl ml))]) (some (.int ((mX5_distance_5 mF mR tb gr fu_1_1_1 ww wm wb who).1)))) args s 0 0 (et_ad ([(md, .inr (5, [.int th, .int mF, .int mR, .ref r1, .ref r2, .ref r3, .int (zI mt), .int mk, .int mw, .int mm, .int mb, .int ms, .ref r4, .int my])), (r1, .inl (gJ g, 327680, .inr (.inl tb))), (r2, .inl (gZ g, 6, .inl (fun _ => (0 : Int32)))), (r3, .inl (gI g, 6, .inl gr)), (r4, .inl (gI g, 64, .inl ml))]))) (F0 m 27 ls [.int (mX5_distance_5_V1 mF mR ww wm wb who), .ref md]) := by
    intro ls hl
    refine va_put (D := gD g) (ci := 5) (v := .int (mX5_distance_5_V1 mF mR ww wm wb who)) (ty := .int) (C := RX5) (T := TX5) (N := 14) hx hb hts inW_X5 tyX5 tyX5_ok nmX5 hown hC.1 hP hD hS 0 rfl rfl 0 (by decide) (hts _ w_733) (fun _ h9 => h9) rfl (by decide +kernel) rfl rfl (Nat.le_of_ble_eq_true rfl) dX5_distance_27 (fun H locs hP hD hS => ?_)
    have hP : va_P (gD g) vwCl ([(md, .inr (5, [.int (mX5_distance_5_V1 mF mR ww wm wb who), .int mF, .int mR, .ref r1, .ref r2, .ref r3, .int (zI mt), .int mk, .int mw, .int mm, .int mb, .int ms, .ref r4, .int my])), (r1, .inl (gJ g, 327680, .inr (.inl tb))), (r2, .inl (gZ g, 6, .inl (fun _ => (0 : Int32)))), (r3, .inl (gI g, 6, .inl gr)), (r4, .inl (gI g, 64, .inl ml))]) H := hP
    have hD : va_D (et_ad ([(md, .inr (5, [.int th, .int mF, .int mR, .ref r1, .ref r2, .ref r3, .int (zI mt), .int mk, .int mw, .int mm, .int mb, .int ms, .ref r4, .int my])), (r1, .inl (gJ g, 327680, .inr (.inl tb))), (r2, .inl (gZ g, 6, .inl (fun _ => (0 : Int32)))), (r3, .inl (gI g, 6, .inl gr)), (r4, .inl (gI g, 64, .inl ml))])) ([(md, .inr (5, [.int (mX5_distance_5_V1 mF mR ww wm wb who), .int mF, .int mR, .ref r1, .ref r2, .ref r3, .int (zI mt), .int mk, .int mw, .int mm, .int mb, .int ms, .ref r4, .int my])), (r1, .inl (gJ g, 327680, .inr (.inl tb))), (r2, .inl (gZ g, 6, .inl (fun _ => (0 : Int32)))), (r3, .inl (gI g, 6, .inl gr)), (r4, .inl (gI g, 64, .inl ml))]) := hD
    refine lv_aload_n hx hb dX5_distance_30 rfl (lv_at hl 0 rfl) ?_
    refine va_get (D := gD g) (ci := 5) (v := .int (mX5_distance_5_V1 mF mR ww wm wb who)) (C := RX5) (T := TX5) (N := 14) hx hb hts inW_X5 hown hC.1 hP 0 rfl rfl 0 (by decide) (hts _ w_733) (fun _ h9 => h9) rfl dX5_distance_31 ?_
    refine lv_if_le (tgt := 41) hx hb dX5_distance_34 (by decide) (fun c_1 => ?_) (fun c_1 => ?_)
    ·
      refine lv_aload_n hx hb dX5_distance_41 rfl (lv_at hl 0 rfl) ?_
      refine lv_iload_n hx hb dX5_distance_42 rfl (lv_at hl 1 rfl) ?_
      refine lv_iload_n hx hb dX5_distance_43 rfl (lv_at hl 2 rfl) ?_
      refine lv_iload_n hx hb dX5_distance_44 rfl (lv_at hl 3 rfl) ?_
      refine lv_iload hx hb dX5_distance_45 (lv_at hl 4 rfl) ?_
      refine lv_iload hx hb dX5_distance_47 (lv_at hl 5 rfl) ?_
      refine et_callW1 (v := .int ((mX5_distanceOf_5 mF mR tb gr fu_1_1_1 ww wm wb who).1)) (ws' := [(md, .inr (5, [.int (mX5_distance_5_V1 mF mR ww wm wb who), .int mF, .int mR, .ref r1, .ref r2, .ref r3, .int (zI mt), .int mk, .int mw, .int mm, .int mb, .int ms, .ref r4, .int my])), (r1, .inl (gJ g, 327680, .inr (.inl ((mX5_distanceOf_5 mF mR tb gr fu_1_1_1 ww wm wb who).2.1)))), (r2, .inl (gZ g, 6, .inl (upd (fun _ => (0 : Int32)) (5 : Int32).toNatClampNeg (vp_nar .boolean (1 : Int32))))), (r3, .inl (gI g, 6, .inl ((mX5_distanceOf_5 mF mR tb gr fu_1_1_1 ww wm wb who).2.2))), (r4, .inl (gI g, 64, .inl ml))]) (va_runV (As := [.int (5 : Int32), .int ww, .int wm, .int wb, .int who]) (rest := []) ⟨hx, hb, hml, hown, hts⟩ (c_X5_distanceOf_5 l g md r1 r2 r3 r4 mF mR (mX5_distance_5_V1 mF mR ww wm wb who) tb gr mt mk mw mm mb ms ml my fu_1_1_1 ww wm wb who (by assumption) (by assumption) (et_distV_5 (by assumption)).1 (et_distV_5 (by assumption)).2.1 (et_distV_5 (by assumption)).2.2.1 (et_distV_5 (by assumption)).2.2.2 hT_2_2_2) (cwV 5 hts (W0_gV w_817 w_819 w_55 w_82 w_820) rfl rfl rfl (by decide +kernel) ⟨Nat.le_of_ble_eq_true rfl, Nat.le_of_ble_eq_true rfl⟩) (et_preVW hP hC hD [0, 1, 2, 3, 4] (by decide) rfl (ci := 5) (q0 := 0) rfl rfl) rfl rfl hl.1 rfl (lv_room (Nat.le_of_ble_eq_true rfl)) dX5_distance_49 ⟨Nat.le_of_ble_eq_true rfl, Nat.le_of_ble_eq_true rfl⟩) hP hD hS [0, 1, 2, 3, 4] [] 5 rfl [md, r1, r2, r3, r4] rfl rfl rfl [] rfl rfl rfl (by decide +kernel) (fun H locs hP hD hS => ?_)
      have hfin : ((mX5_distanceOf_5 mF mR tb gr fu_1_1_1 ww wm wb who).1, (mX5_distance_5_V1 mF mR ww wm wb who), (mX5_distanceOf_5 mF mR tb gr fu_1_1_1 ww wm wb who).2.1, (mX5_distanceOf_5 mF mR tb gr fu_1_1_1 ww wm wb who).2.2, upd (fun _ => (0 : Int32)) (5 : Int32).toNatClampNeg (vp_nar .boolean (1 : Int32))) = (mX5_distance_5 mF mR tb gr fu_1_1_1 ww wm wb who) := (by rw [mX5_distance_5, if_pos c_1])
      exact et_iretW hx hb hr hlocks dX5_distance_52 hP hS (by rw [← hfin]) ((by rw [← hfin]))
    ·
      refine lv_iconst (v := (0 : Int32)) hx hb dX5_distance_37 (by decide) ?_
      refine lv_goto (tgt := 52) hx hb dX5_distance_38 (by decide) ?_
      have hfin : ((0 : Int32), (mX5_distance_5_V1 mF mR ww wm wb who), tb, gr, (fun _ => (0 : Int32))) = (mX5_distance_5 mF mR tb gr fu_1_1_1 ww wm wb who) := (by rw [mX5_distance_5, if_neg c_1])
      exact et_iretW hx hb hr hlocks dX5_distance_52 hP hS (by rw [← hfin]) ((by rw [← hfin]))
  refine lv_iload_n hx hb dX5_distance_1 rfl (lv_at hl 1 rfl) ?_
  refine et_callP1 (v := .int (zI (mX5_isKind (5 : Int32)))) (va_runS (As := [.int (5 : Int32)]) (rest := [.ref md]) ⟨hx, hb, hml, hown, hts⟩ (c_X5_isKind l g (5 : Int32)) (va_cwS 1 hts (W0_gS w_789 w_790 w_82 w_791) rfl rfl rfl (by decide +kernel) ⟨Nat.le_of_ble_eq_true rfl, Nat.le_of_ble_eq_true rfl⟩) (et_preS hP hC [] rfl) rfl rfl hl.1 rfl (lv_room (Nat.le_of_ble_eq_true rfl)) dX5_distance_2 ⟨Nat.le_of_ble_eq_true rfl, Nat.le_of_ble_eq_true rfl⟩) ?_
  refine lv_if_eq (tgt := 26) hx hb dX5_distance_5 (by decide) (fun c_2 => ?_) (fun c_2 => ?_)
  ·
    refine lv_iconst (v := (1 : Int32)) hx hb dX5_distance_26 (by decide) ?_
    have he1 : ((1 : Int32) : Int32) = (mX5_distance_5_V1 mF mR ww wm wb who) := (by rw [mX5_distance_5_V1, if_pos c_2])
    exact et_stki he1 (hj1 ls (lv_sub hl [0, 1, 2, 3, 4, 5] rfl))
  ·
    refine lv_aload_n hx hb dX5_distance_8 rfl (lv_at hl 0 rfl) ?_
    refine lv_iload_n hx hb dX5_distance_9 rfl (lv_at hl 1 rfl) ?_
    refine lv_iload_n hx hb dX5_distance_10 rfl (lv_at hl 2 rfl) ?_
    refine lv_iload_n hx hb dX5_distance_11 rfl (lv_at hl 3 rfl) ?_
    refine lv_iload hx hb dX5_distance_12 (lv_at hl 4 rfl) ?_
    refine lv_iload hx hb dX5_distance_14 (lv_at hl 5 rfl) ?_
    refine et_callP1 (v := .int (zI (mX5_isPosition mF mR (5 : Int32) ww wm wb who))) (va_runV (As := [.int (5 : Int32), .int ww, .int wm, .int wb, .int who]) (rest := [.ref md]) ⟨hx, hb, hml, hown, hts⟩ (c_X5_isPosition l g md r1 r2 r3 r4 mF mR th tb (fun _ => (0 : Int32)) gr mt mk mw mm mb ms ml my (5 : Int32) ww wm wb who (by assumption) (by assumption)) (cwV 5 hts (W0_gV w_792 w_794 w_51 w_82 w_795) rfl rfl rfl (by decide +kernel) ⟨Nat.le_of_ble_eq_true rfl, Nat.le_of_ble_eq_true rfl⟩) (et_preV hP hC [0, 1, 2, 3, 4] rfl (ci := 5) (q0 := 0) rfl rfl) rfl rfl hl.1 rfl (lv_room (Nat.le_of_ble_eq_true rfl)) dX5_distance_16 ⟨Nat.le_of_ble_eq_true rfl, Nat.le_of_ble_eq_true rfl⟩) ?_
    refine lv_if_eq (tgt := 26) hx hb dX5_distance_19 (by decide) (fun c_3 => ?_) (fun c_3 => ?_)
    ·
      refine lv_iconst (v := (1 : Int32)) hx hb dX5_distance_26 (by decide) ?_
      have he2 : ((1 : Int32) : Int32) = (mX5_distance_5_V1 mF mR ww wm wb who) := (by rw [mX5_distance_5_V1, if_neg c_2, if_pos c_3])
      exact et_stki he2 (hj1 ls (lv_sub hl [0, 1, 2, 3, 4, 5] rfl))
    ·
      refine lv_iconst (v := (0 : Int32)) hx hb dX5_distance_22 (by decide) ?_
      refine lv_goto (tgt := 27) hx hb dX5_distance_23 (by decide) ?_
      have he3 : ((0 : Int32) : Int32) = (mX5_distance_5_V1 mF mR ww wm wb who) := (by rw [mX5_distance_5_V1, if_neg c_2, if_neg c_3])
      exact et_stki he3 (hj1 ls (lv_sub hl [0, 1, 2, 3, 4, 5] rfl))

def mX5_count_5_V2 (mF : Int32) (mR : Int32) (tb : Nat → Int64) (gr : Nat → Int32) (fu_1_1 : Nat) (who : Int32) (nn : Int32) (i1 : Nat) (sum1 : Int32) : Int32 :=
  if (zI (mX5_isOne mF mR ((mX5_build_5 mF mR tb gr fu_1_1).1) (5 : Int32) who nn (nI i1))) = 0 then
    sum1
  else
    sum1 + (1 : Int32)
def mX5_count_5_L1 (mF : Int32) (mR : Int32) (tb : Nat → Int64) (gr : Nat → Int32) (fu_1_1 : Nat) (who : Int32) (nn : Int32) : Nat → Nat → Int32 → Int32
  | 0, i1, sum1 =>
    sum1
  | k1 + 1, i1, sum1 =>
    mX5_count_5_L1 mF mR tb gr fu_1_1 who nn k1 (i1 + 1) (mX5_count_5_V2 mF mR tb gr fu_1_1 who nn i1 sum1)
def mX5_count_5_V1 (who : Int32) : Int32 :=
  if (zI (mX5_isKind (5 : Int32))) = 0 then
    (1 : Int32)
  else
    if who < 0 then
      (1 : Int32)
    else
      if (2 : Int32) ≤ who then
        (1 : Int32)
      else
        (0 : Int32)
def mX5_count_5 (mF : Int32) (mR : Int32) (tb : Nat → Int64) (gr : Nat → Int32) (fu_1_1 : Nat) (who : Int32) (nn : Int32) : Int32 × Int32 × (Nat → Int64) × (Nat → Int32) × (Nat → Int32) :=
  if (mX5_count_5_V1 who) ≤ 0 then
    ((mX5_count_5_L1 mF mR tb gr fu_1_1 who nn 262144 0 (0 : Int32)), (mX5_count_5_V1 who), (mX5_build_5 mF mR tb gr fu_1_1).1, (mX5_build_5 mF mR tb gr fu_1_1).2, upd (fun _ => (0 : Int32)) (5 : Int32).toNatClampNeg (vp_nar .boolean (1 : Int32)))
  else
    ((0 : Int32), (mX5_count_5_V1 who), tb, gr, (fun _ => (0 : Int32)))
theorem et_cntV_5 {who : Int32} (h : mX5_count_5_V1 who ≤ 0) : et_sd who := by
  unfold mX5_count_5_V1 at h
  rw [if_neg (show ¬ zI (mX5_isKind (5 : Int32)) = 0 by decide)] at h
  rcases pk_ix who (n := 2) (by omega) with h1 | h1 | ⟨j, hj, rfl⟩
  · rw [if_pos h1] at h
    exact absurd h (by decide)
  · rw [if_neg (show ¬ who < 0 from fun h2 => absurd (Int32.le_trans h1 (Int32.le_of_lt h2)) (by decide)), if_pos (show (2 : Int32) ≤ who from h1)] at h
    exact absurd h (by decide)
  · rcases (show j = 0 ∨ j = 1 by omega) with rfl | rfl
    · exact Or.inl rfl
    · exact Or.inr rfl
set_option maxHeartbeats 4000000 in
set_option maxRecDepth 100000 in
theorem c_X5_count_5 (l : Launch) (g : et_G) (md : Nat) (r1 : Nat) (r2 : Nat) (r3 : Nat) (r4 : Nat) (mF : Int32) (mR : Int32) (th : Int32) (tb : Nat → Int64) (gr : Nat → Int32) (mt : Bool) (mk : Int32) (mw : Int32) (mm : Int32) (mb : Int32) (ms : Int32) (ml : Nat → Int32) (my : Int32) (fu_1_1 : Nat) (who : Int32) (nn : Int32) (hF : et_b8 mF) (hR : et_b8 mR) (hT_2_2 : mX5_passAll_L1_ok mF mR (5 : Int32) (1 : Int32) fu_1_1 0 (0 : Int32) (0 : Int32) tb (upd gr (5 : Int32).toNatClampNeg (-1 : Int32)) = true) : Met l yX5_count (Cond.code yX5_count cX5_count 6 (some (.int)) :: W0) ({ frames := 7, cells := 0, slots := 0, locals := 185 } : Room) (et_PcW g ([(md, .inr (5, [.int th, .int mF, .int mR, .ref r1, .ref r2, .ref r3, .int (zI mt), .int mk, .int mw, .int mm, .int mb, .int ms, .ref r4, .int my])), (r1, .inl (gJ g, 327680, .inr (.inl tb))), (r2, .inl (gZ g, 6, .inl (fun _ => (0 : Int32)))), (r3, .inl (gI g, 6, .inl gr)), (r4, .inl (gI g, 64, .inl ml))]) [.ref md, .int (5 : Int32), .int who, .int nn]) (et_QW g ([(md, .inr (5, [.int th, .int mF, .int mR, .ref r1, .ref r2, .ref r3, .int (zI mt), .int mk, .int mw, .int mm, .int mb, .int ms, .ref r4, .int my])), (r1, .inl (gJ g, 327680, .inr (.inl tb))), (r2, .inl (gZ g, 6, .inl (fun _ => (0 : Int32)))), (r3, .inl (gI g, 6, .inl gr)), (r4, .inl (gI g, 64, .inl ml))]) ([(md, .inr (5, [.int ((mX5_count_5 mF mR tb gr fu_1_1 who nn).2.1), .int mF, .int mR, .ref r1, .ref r2, .ref r3, .int (zI mt), .int mk, .int mw, .int mm, .int mb, .int ms, .ref r4, .int my])), (r1, .inl (gJ g, 327680, .inr (.inl ((mX5_count_5 mF mR tb gr fu_1_1 who nn).2.2.1)))), (r2, .inl (gZ g, 6, .inl ((mX5_count_5 mF mR tb gr fu_1_1 who nn).2.2.2.2))), (r3, .inl (gI g, 6, .inl ((mX5_count_5 mF mR tb gr fu_1_1 who nn).2.2.2.1))), (r4, .inl (gI g, 64, .inl ml))]) (some (.int ((mX5_count_5 mF mR tb gr fu_1_1 who nn).1)))) 0 0 (et_ad ([(md, .inr (5, [.int th, .int mF, .int mR, .ref r1, .ref r2, .ref r3, .int (zI mt), .int mk, .int mw, .int mm, .int mb, .int ms, .ref r4, .int my])), (r1, .inl (gJ g, 327680, .inr (.inl tb))), (r2, .inl (gZ g, 6, .inl (fun _ => (0 : Int32)))), (r3, .inl (gI g, 6, .inl gr)), (r4, .inl (gI g, 64, .inl ml))])) := by
  refine et_startW (by decide) rfl (Nat.le_of_ble_eq_true rfl) ?_
  intro p e s m args below meth c hx hb hr hts0 hown hlocks hml hP hC hD hS ls hl
  have hts : ∀ w ∈ W0, w.before args s = true := fun w h => hts0 w (List.mem_cons_of_mem _ h)
  have hown : s.vm.findClass RX5 = some m.cls := hown
  have hl : lv_has ls 6 [(0, .ref md), (1, .int (5 : Int32)), (2, .int who), (3, .int nn)] := hl
  refine lv_aload_n hx hb dX5_count_0 rfl (lv_at hl 0 rfl) ?_
  have hj1 : ∀ ls : Array Slot, lv_has ls 6 [(0, .ref md), (1, .int (5 : Int32)), (2, .int who), (3, .int nn)] → W p l e ({ frames := 7, cells := 0, slots := 0, locals := 185 } : Room) s m args below meth c s.heap [] 0 0 (MQ below (et_QW g ([(md, .inr (5, [.int th, .int mF, .int mR, .ref r1, .ref r2, .ref r3, .int (zI mt), .int mk, .int mw, .int mm, .int mb, .int ms, .ref r4, .int my])), (r1, .inl (gJ g, 327680, .inr (.inl tb))), (r2, .inl (gZ g, 6, .inl (fun _ => (0 : Int32)))), (r3, .inl (gI g, 6, .inl gr)), (r4, .inl (gI g, 64, .inl ml))]) ([(md, .inr (5, [.int ((mX5_count_5 mF mR tb gr fu_1_1 who nn).2.1), .int mF, .int mR, .ref r1, .ref r2, .ref r3, .int (zI mt), .int mk, .int mw, .int mm, .int mb, .int ms, .ref r4, .int my])), (r1, .inl (gJ g, 327680, .inr (.inl ((mX5_count_5 mF mR tb gr fu_1_1 who nn).2.2.1)))), (r2, .inl (gZ g, 6, .inl ((mX5_count_5 mF mR tb gr fu_1_1 who nn).2.2.2.2))), (r3, .inl (gI g, 6, .inl ((mX5_count_5 mF mR tb gr fu_1_1 who nn).2.2.2.1))), (r4, .inl (gI g, 64, .inl ml))]) (some (.int ((mX5_count_5 mF mR tb gr fu_1_1 who nn).1)))) args s 0 0 (et_ad ([(md, .inr (5, [.int th, .int mF, .int mR, .ref r1, .ref r2, .ref r3, .int (zI mt), .int mk, .int mw, .int mm, .int mb, .int ms, .ref r4, .int my])), (r1, .inl (gJ g, 327680, .inr (.inl tb))), (r2, .inl (gZ g, 6, .inl (fun _ => (0 : Int32)))), (r3, .inl (gI g, 6, .inl gr)), (r4, .inl (gI g, 64, .inl ml))]))) (F0 m 22 ls [.int (mX5_count_5_V1 who), .ref md]) := by
    intro ls hl
    refine va_put (D := gD g) (ci := 5) (v := .int (mX5_count_5_V1 who)) (ty := .int) (C := RX5) (T := TX5) (N := 14) hx hb hts inW_X5 tyX5 tyX5_ok nmX5 hown hC.1 hP hD hS 0 rfl rfl 0 (by decide) (hts _ w_733) (fun _ h9 => h9) rfl (by decide +kernel) rfl rfl (Nat.le_of_ble_eq_true rfl) dX5_count_22 (fun H locs hP hD hS => ?_)
    have hP : va_P (gD g) vwCl ([(md, .inr (5, [.int (mX5_count_5_V1 who), .int mF, .int mR, .ref r1, .ref r2, .ref r3, .int (zI mt), .int mk, .int mw, .int mm, .int mb, .int ms, .ref r4, .int my])), (r1, .inl (gJ g, 327680, .inr (.inl tb))), (r2, .inl (gZ g, 6, .inl (fun _ => (0 : Int32)))), (r3, .inl (gI g, 6, .inl gr)), (r4, .inl (gI g, 64, .inl ml))]) H := hP
    have hD : va_D (et_ad ([(md, .inr (5, [.int th, .int mF, .int mR, .ref r1, .ref r2, .ref r3, .int (zI mt), .int mk, .int mw, .int mm, .int mb, .int ms, .ref r4, .int my])), (r1, .inl (gJ g, 327680, .inr (.inl tb))), (r2, .inl (gZ g, 6, .inl (fun _ => (0 : Int32)))), (r3, .inl (gI g, 6, .inl gr)), (r4, .inl (gI g, 64, .inl ml))])) ([(md, .inr (5, [.int (mX5_count_5_V1 who), .int mF, .int mR, .ref r1, .ref r2, .ref r3, .int (zI mt), .int mk, .int mw, .int mm, .int mb, .int ms, .ref r4, .int my])), (r1, .inl (gJ g, 327680, .inr (.inl tb))), (r2, .inl (gZ g, 6, .inl (fun _ => (0 : Int32)))), (r3, .inl (gI g, 6, .inl gr)), (r4, .inl (gI g, 64, .inl ml))]) := hD
    refine lv_aload_n hx hb dX5_count_25 rfl (lv_at hl 0 rfl) ?_
    refine va_get (D := gD g) (ci := 5) (v := .int (mX5_count_5_V1 who)) (C := RX5) (T := TX5) (N := 14) hx hb hts inW_X5 hown hC.1 hP 0 rfl rfl 0 (by decide) (hts _ w_733) (fun _ h9 => h9) rfl dX5_count_26 ?_
    refine lv_if_le (tgt := 34) hx hb dX5_count_29 (by decide) (fun c_1 => ?_) (fun c_1 => ?_)
    ·
      refine lv_aload_n hx hb dX5_count_34 rfl (lv_at hl 0 rfl) ?_
      refine lv_iload_n hx hb dX5_count_35 rfl (lv_at hl 1 rfl) ?_
      refine et_callW0 (ws' := [(md, .inr (5, [.int (mX5_count_5_V1 who), .int mF, .int mR, .ref r1, .ref r2, .ref r3, .int (zI mt), .int mk, .int mw, .int mm, .int mb, .int ms, .ref r4, .int my])), (r1, .inl (gJ g, 327680, .inr (.inl ((mX5_build_5 mF mR tb gr fu_1_1).1)))), (r2, .inl (gZ g, 6, .inl (upd (fun _ => (0 : Int32)) (5 : Int32).toNatClampNeg (vp_nar .boolean (1 : Int32))))), (r3, .inl (gI g, 6, .inl ((mX5_build_5 mF mR tb gr fu_1_1).2))), (r4, .inl (gI g, 64, .inl ml))]) (va_runV (As := [.int (5 : Int32)]) (rest := []) ⟨hx, hb, hml, hown, hts⟩ (c_X5_build_5 l g md r1 r2 r3 r4 mF mR (mX5_count_5_V1 who) tb gr mt mk mw mm mb ms ml my fu_1_1 (by assumption) (by assumption) hT_2_2) (cwV 1 hts (W0_gV w_821 w_823 w_56 w_82 w_824) rfl rfl rfl (by decide +kernel) ⟨Nat.le_of_ble_eq_true rfl, Nat.le_of_ble_eq_true rfl⟩) (et_preVW hP hC hD [0, 1, 2, 3, 4] (by decide) rfl (ci := 5) (q0 := 0) rfl rfl) rfl rfl hl.1 rfl (lv_room (Nat.le_of_ble_eq_true rfl)) dX5_count_36 ⟨Nat.le_of_ble_eq_true rfl, Nat.le_of_ble_eq_true rfl⟩) hP hD hS [0, 1, 2, 3, 4] [] 5 rfl [md, r1, r2, r3, r4] rfl rfl rfl [] rfl rfl rfl (by decide +kernel) (fun H locs hP hD hS => ?_)
      refine lv_iconst (v := (0 : Int32)) hx hb dX5_count_39 (by decide) ?_
      refine lv_istore (lv' := [(4, .int (0 : Int32)), (0, .ref md), (1, .int (5 : Int32)), (2, .int who), (3, .int nn)]) hx hb dX5_count_40 hl (by decide) rfl (fun ls hl => ?_)
      refine lv_iconst (v := (0 : Int32)) hx hb dX5_count_42 (by decide) ?_
      refine lv_istore (lv' := [(5, .int (0 : Int32)), (4, .int (0 : Int32)), (0, .ref md), (1, .int (5 : Int32)), (2, .int who), (3, .int nn)]) hx hb dX5_count_43 hl (by decide) rfl (fun ls hl => ?_)
      have hx1 : ∀ (H : Heap) (locs : List Loc), va_P (gD g) vwCl ([(md, .inr (5, [.int (mX5_count_5_V1 who), .int mF, .int mR, .ref r1, .ref r2, .ref r3, .int (zI mt), .int mk, .int mw, .int mm, .int mb, .int ms, .ref r4, .int my])), (r1, .inl (gJ g, 327680, .inr (.inl ((mX5_build_5 mF mR tb gr fu_1_1).1)))), (r2, .inl (gZ g, 6, .inl (upd (fun _ => (0 : Int32)) (5 : Int32).toNatClampNeg (vp_nar .boolean (1 : Int32))))), (r3, .inl (gI g, 6, .inl ((mX5_build_5 mF mR tb gr fu_1_1).2))), (r4, .inl (gI g, 64, .inl ml))]) H → va_D (et_ad ([(md, .inr (5, [.int th, .int mF, .int mR, .ref r1, .ref r2, .ref r3, .int (zI mt), .int mk, .int mw, .int mm, .int mb, .int ms, .ref r4, .int my])), (r1, .inl (gJ g, 327680, .inr (.inl tb))), (r2, .inl (gZ g, 6, .inl (fun _ => (0 : Int32)))), (r3, .inl (gI g, 6, .inl gr)), (r4, .inl (gI g, 64, .inl ml))])) ([(md, .inr (5, [.int (mX5_count_5_V1 who), .int mF, .int mR, .ref r1, .ref r2, .ref r3, .int (zI mt), .int mk, .int mw, .int mm, .int mb, .int ms, .ref r4, .int my])), (r1, .inl (gJ g, 327680, .inr (.inl ((mX5_build_5 mF mR tb gr fu_1_1).1)))), (r2, .inl (gZ g, 6, .inl (upd (fun _ => (0 : Int32)) (5 : Int32).toNatClampNeg (vp_nar .boolean (1 : Int32))))), (r3, .inl (gI g, 6, .inl ((mX5_build_5 mF mR tb gr fu_1_1).2))), (r4, .inl (gI g, 64, .inl ml))]) → va_S (et_ad ([(md, .inr (5, [.int th, .int mF, .int mR, .ref r1, .ref r2, .ref r3, .int (zI mt), .int mk, .int mw, .int mm, .int mb, .int ms, .ref r4, .int my])), (r1, .inl (gJ g, 327680, .inr (.inl tb))), (r2, .inl (gZ g, 6, .inl (fun _ => (0 : Int32)))), (r3, .inl (gI g, 6, .inl gr)), (r4, .inl (gI g, 64, .inl ml))])) s.heap H locs → ∀ ls : Array Slot, lv_has ls 6 [(4, .int (mX5_count_5_L1 mF mR tb gr fu_1_1 who nn 262144 0 (0 : Int32))), (0, .ref md), (1, .int (5 : Int32)), (2, .int who), (3, .int nn)] → W p l e ({ frames := 7, cells := 0, slots := 0, locals := 185 } : Room) s m args below meth c H locs 0 0 (MQ below (et_QW g ([(md, .inr (5, [.int th, .int mF, .int mR, .ref r1, .ref r2, .ref r3, .int (zI mt), .int mk, .int mw, .int mm, .int mb, .int ms, .ref r4, .int my])), (r1, .inl (gJ g, 327680, .inr (.inl tb))), (r2, .inl (gZ g, 6, .inl (fun _ => (0 : Int32)))), (r3, .inl (gI g, 6, .inl gr)), (r4, .inl (gI g, 64, .inl ml))]) ([(md, .inr (5, [.int ((mX5_count_5 mF mR tb gr fu_1_1 who nn).2.1), .int mF, .int mR, .ref r1, .ref r2, .ref r3, .int (zI mt), .int mk, .int mw, .int mm, .int mb, .int ms, .ref r4, .int my])), (r1, .inl (gJ g, 327680, .inr (.inl ((mX5_count_5 mF mR tb gr fu_1_1 who nn).2.2.1)))), (r2, .inl (gZ g, 6, .inl ((mX5_count_5 mF mR tb gr fu_1_1 who nn).2.2.2.2))), (r3, .inl (gI g, 6, .inl ((mX5_count_5 mF mR tb gr fu_1_1 who nn).2.2.2.1))), (r4, .inl (gI g, 64, .inl ml))]) (some (.int ((mX5_count_5 mF mR tb gr fu_1_1 who nn).1)))) args s 0 0 (et_ad ([(md, .inr (5, [.int th, .int mF, .int mR, .ref r1, .ref r2, .ref r3, .int (zI mt), .int mk, .int mw, .int mm, .int mb, .int ms, .ref r4, .int my])), (r1, .inl (gJ g, 327680, .inr (.inl tb))), (r2, .inl (gZ g, 6, .inl (fun _ => (0 : Int32)))), (r3, .inl (gI g, 6, .inl gr)), (r4, .inl (gI g, 64, .inl ml))]))) (F0 m 81 ls []) := by
        intro H locs hP hD hS ls hl
        refine lv_iload hx hb dX5_count_81 (lv_at hl 0 rfl) ?_
        have hfin : ((mX5_count_5_L1 mF mR tb gr fu_1_1 who nn 262144 0 (0 : Int32)), (mX5_count_5_V1 who), (mX5_build_5 mF mR tb gr fu_1_1).1, (mX5_build_5 mF mR tb gr fu_1_1).2, upd (fun _ => (0 : Int32)) (5 : Int32).toNatClampNeg (vp_nar .boolean (1 : Int32))) = (mX5_count_5 mF mR tb gr fu_1_1 who nn) := (by rw [mX5_count_5, if_pos c_1])
        exact et_iretW hx hb hr hlocks dX5_count_83 hP hS (by rw [← hfin]) ((by rw [← hfin]))
      have hL1 : ∀ (k1 i1 : Nat) (sum1 : Int32), i1 + k1 = 262144 → mX5_count_5_L1 mF mR tb gr fu_1_1 who nn k1 i1 sum1 = (mX5_count_5_L1 mF mR tb gr fu_1_1 who nn 262144 0 (0 : Int32)) → ∀ (H : Heap) (locs : List Loc), va_P (gD g) vwCl ([(md, .inr (5, [.int (mX5_count_5_V1 who), .int mF, .int mR, .ref r1, .ref r2, .ref r3, .int (zI mt), .int mk, .int mw, .int mm, .int mb, .int ms, .ref r4, .int my])), (r1, .inl (gJ g, 327680, .inr (.inl ((mX5_build_5 mF mR tb gr fu_1_1).1)))), (r2, .inl (gZ g, 6, .inl (upd (fun _ => (0 : Int32)) (5 : Int32).toNatClampNeg (vp_nar .boolean (1 : Int32))))), (r3, .inl (gI g, 6, .inl ((mX5_build_5 mF mR tb gr fu_1_1).2))), (r4, .inl (gI g, 64, .inl ml))]) H → va_D (et_ad ([(md, .inr (5, [.int th, .int mF, .int mR, .ref r1, .ref r2, .ref r3, .int (zI mt), .int mk, .int mw, .int mm, .int mb, .int ms, .ref r4, .int my])), (r1, .inl (gJ g, 327680, .inr (.inl tb))), (r2, .inl (gZ g, 6, .inl (fun _ => (0 : Int32)))), (r3, .inl (gI g, 6, .inl gr)), (r4, .inl (gI g, 64, .inl ml))])) ([(md, .inr (5, [.int (mX5_count_5_V1 who), .int mF, .int mR, .ref r1, .ref r2, .ref r3, .int (zI mt), .int mk, .int mw, .int mm, .int mb, .int ms, .ref r4, .int my])), (r1, .inl (gJ g, 327680, .inr (.inl ((mX5_build_5 mF mR tb gr fu_1_1).1)))), (r2, .inl (gZ g, 6, .inl (upd (fun _ => (0 : Int32)) (5 : Int32).toNatClampNeg (vp_nar .boolean (1 : Int32))))), (r3, .inl (gI g, 6, .inl ((mX5_build_5 mF mR tb gr fu_1_1).2))), (r4, .inl (gI g, 64, .inl ml))]) → va_S (et_ad ([(md, .inr (5, [.int th, .int mF, .int mR, .ref r1, .ref r2, .ref r3, .int (zI mt), .int mk, .int mw, .int mm, .int mb, .int ms, .ref r4, .int my])), (r1, .inl (gJ g, 327680, .inr (.inl tb))), (r2, .inl (gZ g, 6, .inl (fun _ => (0 : Int32)))), (r3, .inl (gI g, 6, .inl gr)), (r4, .inl (gI g, 64, .inl ml))])) s.heap H locs → ∀ ls : Array Slot, lv_has ls 6 [(5, .int (nI i1)), (4, .int sum1), (0, .ref md), (1, .int (5 : Int32)), (2, .int who), (3, .int nn)] → W p l e ({ frames := 7, cells := 0, slots := 0, locals := 185 } : Room) s m args below meth c H locs 0 0 (MQ below (et_QW g ([(md, .inr (5, [.int th, .int mF, .int mR, .ref r1, .ref r2, .ref r3, .int (zI mt), .int mk, .int mw, .int mm, .int mb, .int ms, .ref r4, .int my])), (r1, .inl (gJ g, 327680, .inr (.inl tb))), (r2, .inl (gZ g, 6, .inl (fun _ => (0 : Int32)))), (r3, .inl (gI g, 6, .inl gr)), (r4, .inl (gI g, 64, .inl ml))]) ([(md, .inr (5, [.int ((mX5_count_5 mF mR tb gr fu_1_1 who nn).2.1), .int mF, .int mR, .ref r1, .ref r2, .ref r3, .int (zI mt), .int mk, .int mw, .int mm, .int mb, .int ms, .ref r4, .int my])), (r1, .inl (gJ g, 327680, .inr (.inl ((mX5_count_5 mF mR tb gr fu_1_1 who nn).2.2.1)))), (r2, .inl (gZ g, 6, .inl ((mX5_count_5 mF mR tb gr fu_1_1 who nn).2.2.2.2))), (r3, .inl (gI g, 6, .inl ((mX5_count_5 mF mR tb gr fu_1_1 who nn).2.2.2.1))), (r4, .inl (gI g, 64, .inl ml))]) (some (.int ((mX5_count_5 mF mR tb gr fu_1_1 who nn).1)))) args s 0 0 (et_ad ([(md, .inr (5, [.int th, .int mF, .int mR, .ref r1, .ref r2, .ref r3, .int (zI mt), .int mk, .int mw, .int mm, .int mb, .int ms, .ref r4, .int my])), (r1, .inl (gJ g, 327680, .inr (.inl tb))), (r2, .inl (gZ g, 6, .inl (fun _ => (0 : Int32)))), (r3, .inl (gI g, 6, .inl gr)), (r4, .inl (gI g, 64, .inl ml))]))) (F0 m 45 ls []) := by
        intro k1
        induction k1 with
        | zero =>
          intro i1 sum1 hik  hm H locs hP hD hS ls hl
          refine lv_iload hx hb dX5_count_45 (lv_at hl 0 rfl) ?_
          refine lv_ldc hx hb hown (hts _ w_844) dX5_count_47 ?_
          refine lv_icmp_ge (tgt := 81) hx hb dX5_count_49 (by decide) (fun c_2 => ?_) (fun c_2 => ?_)
          rotate_left
          · exact absurd (et_le (a := 262144) (b := i1) (by omega) (by omega)) c_2
          have hq1 : sum1 = (mX5_count_5_L1 mF mR tb gr fu_1_1 who nn 262144 0 (0 : Int32)) := (by rw [mX5_count_5_L1] : mX5_count_5_L1 mF mR tb gr fu_1_1 who nn 0 i1 sum1 = sum1).symm.trans hm
          exact hx1 _ _ hP hD hS ls (by rw [← hq1]; exact lv_sub hl [1, 2, 3, 4, 5] rfl)
        | succ k1 ih1 =>
          intro i1 sum1 hik  hm H locs hP hD hS ls hl
          refine lv_iload hx hb dX5_count_45 (lv_at hl 0 rfl) ?_
          refine lv_ldc hx hb hown (hts _ w_844) dX5_count_47 ?_
          refine lv_icmp_ge (tgt := 81) hx hb dX5_count_49 (by decide) (fun c_3 => ?_) (fun c_3 => ?_)
          · exact absurd c_3 (et_ge (a := i1) (b := 262144) (by omega) (by omega))
          have hj2 : ∀ ls : Array Slot, lv_has ls 6 [(5, .int (nI i1)), (4, .int sum1), (0, .ref md), (1, .int (5 : Int32)), (2, .int who), (3, .int nn)] → W p l e ({ frames := 7, cells := 0, slots := 0, locals := 185 } : Room) s m args below meth c H locs 0 0 (MQ below (et_QW g ([(md, .inr (5, [.int th, .int mF, .int mR, .ref r1, .ref r2, .ref r3, .int (zI mt), .int mk, .int mw, .int mm, .int mb, .int ms, .ref r4, .int my])), (r1, .inl (gJ g, 327680, .inr (.inl tb))), (r2, .inl (gZ g, 6, .inl (fun _ => (0 : Int32)))), (r3, .inl (gI g, 6, .inl gr)), (r4, .inl (gI g, 64, .inl ml))]) ([(md, .inr (5, [.int ((mX5_count_5 mF mR tb gr fu_1_1 who nn).2.1), .int mF, .int mR, .ref r1, .ref r2, .ref r3, .int (zI mt), .int mk, .int mw, .int mm, .int mb, .int ms, .ref r4, .int my])), (r1, .inl (gJ g, 327680, .inr (.inl ((mX5_count_5 mF mR tb gr fu_1_1 who nn).2.2.1)))), (r2, .inl (gZ g, 6, .inl ((mX5_count_5 mF mR tb gr fu_1_1 who nn).2.2.2.2))), (r3, .inl (gI g, 6, .inl ((mX5_count_5 mF mR tb gr fu_1_1 who nn).2.2.2.1))), (r4, .inl (gI g, 64, .inl ml))]) (some (.int ((mX5_count_5 mF mR tb gr fu_1_1 who nn).1)))) args s 0 0 (et_ad ([(md, .inr (5, [.int th, .int mF, .int mR, .ref r1, .ref r2, .ref r3, .int (zI mt), .int mk, .int mw, .int mm, .int mb, .int ms, .ref r4, .int my])), (r1, .inl (gJ g, 327680, .inr (.inl tb))), (r2, .inl (gZ g, 6, .inl (fun _ => (0 : Int32)))), (r3, .inl (gI g, 6, .inl gr)), (r4, .inl (gI g, 64, .inl ml))]))) (F0 m 73 ls [.int (mX5_count_5_V2 mF mR tb gr fu_1_1 who nn i1 sum1)]) := by
            intro ls hl
            refine lv_istore (lv' := [(4, .int (mX5_count_5_V2 mF mR tb gr fu_1_1 who nn i1 sum1)), (5, .int (nI i1)), (0, .ref md), (1, .int (5 : Int32)), (2, .int who), (3, .int nn)]) hx hb dX5_count_73 hl (by decide) rfl (fun ls hl => ?_)
            refine lv_iinc (v := nI (i1 + 1)) (lv' := [(5, .int (nI (i1 + 1))), (4, .int (mX5_count_5_V2 mF mR tb gr fu_1_1 who nn i1 sum1)), (0, .ref md), (1, .int (5 : Int32)), (2, .int who), (3, .int nn)]) hx hb dX5_count_75 hl (k := 1) rfl (et_inc i1) (by decide) rfl (fun ls hl => ?_)
            refine lv_goto (tgt := 45) hx hb dX5_count_78 (by decide) ?_
            exact ih1 (i1 + 1) (mX5_count_5_V2 mF mR tb gr fu_1_1 who nn i1 sum1) (by omega) ((by rw [mX5_count_5_L1] : mX5_count_5_L1 mF mR tb gr fu_1_1 who nn (k1 + 1) i1 sum1 = mX5_count_5_L1 mF mR tb gr fu_1_1 who nn k1 (i1 + 1) (mX5_count_5_V2 mF mR tb gr fu_1_1 who nn i1 sum1)).symm.trans hm) _ _ hP hD hS ls (lv_sub hl [0, 1, 2, 3, 4, 5] rfl)
          refine lv_aload_n hx hb dX5_count_52 rfl (lv_at hl 2 rfl) ?_
          refine lv_iload_n hx hb dX5_count_53 rfl (lv_at hl 3 rfl) ?_
          refine lv_iload_n hx hb dX5_count_54 rfl (lv_at hl 4 rfl) ?_
          refine lv_iload_n hx hb dX5_count_55 rfl (lv_at hl 5 rfl) ?_
          refine lv_iload hx hb dX5_count_56 (lv_at hl 0 rfl) ?_
          refine et_callP1 (v := .int (zI (mX5_isOne mF mR ((mX5_build_5 mF mR tb gr fu_1_1).1) (5 : Int32) who nn (nI i1)))) (va_runV (As := [.int (5 : Int32), .int who, .int nn, .int (nI i1)]) (rest := []) ⟨hx, hb, hml, hown, hts⟩ (c_X5_isOne l g md r1 r2 r3 r4 mF mR (mX5_count_5_V1 who) ((mX5_build_5 mF mR tb gr fu_1_1).1) (upd (fun _ => (0 : Int32)) (5 : Int32).toNatClampNeg (vp_nar .boolean (1 : Int32))) ((mX5_build_5 mF mR tb gr fu_1_1).2) mt mk mw mm mb ms ml my (5 : Int32) who nn (nI i1) (by assumption) (by assumption) (et_kdl (by decide)) (et_cntV_5 (by assumption)) (et_ati (by omega))) (cwV 4 hts (W0_gV w_874 w_876 w_67 w_82 w_877) rfl rfl rfl (by decide +kernel) ⟨Nat.le_of_ble_eq_true rfl, Nat.le_of_ble_eq_true rfl⟩) (et_preV hP hC [0, 1, 2, 3, 4] rfl (ci := 5) (q0 := 0) rfl rfl) rfl rfl hl.1 rfl (lv_room (Nat.le_of_ble_eq_true rfl)) dX5_count_58 ⟨Nat.le_of_ble_eq_true rfl, Nat.le_of_ble_eq_true rfl⟩) ?_
          refine lv_if_eq (tgt := 71) hx hb dX5_count_61 (by decide) (fun c_4 => ?_) (fun c_4 => ?_)
          ·
            refine lv_iload hx hb dX5_count_71 (lv_at hl 1 rfl) ?_
            have he2 : (sum1 : Int32) = (mX5_count_5_V2 mF mR tb gr fu_1_1 who nn i1 sum1) := (by rw [mX5_count_5_V2, if_pos c_4])
            exact et_stki he2 (hj2 ls (lv_sub hl [0, 1, 2, 3, 4, 5] rfl))
          ·
            refine lv_iload hx hb dX5_count_64 (lv_at hl 1 rfl) ?_
            refine lv_iconst (v := (1 : Int32)) hx hb dX5_count_66 (by decide) ?_
            refine lv_iadd hx hb dX5_count_67 ?_
            refine lv_goto (tgt := 73) hx hb dX5_count_68 (by decide) ?_
            have he3 : (sum1 + (1 : Int32) : Int32) = (mX5_count_5_V2 mF mR tb gr fu_1_1 who nn i1 sum1) := (by rw [mX5_count_5_V2, if_neg c_4])
            exact et_stki he3 (hj2 ls (lv_sub hl [0, 1, 2, 3, 4, 5] rfl))
      exact hL1 262144 0 (0 : Int32) (by omega) rfl _ _ hP hD hS ls (lv_sub hl [0, 1, 2, 3, 4, 5] rfl)
    ·
      refine lv_iconst (v := (0 : Int32)) hx hb dX5_count_32 (by decide) ?_
      have hfin : ((0 : Int32), (mX5_count_5_V1 who), tb, gr, (fun _ => (0 : Int32))) = (mX5_count_5 mF mR tb gr fu_1_1 who nn) := (by rw [mX5_count_5, if_neg c_1])
      exact et_iretW hx hb hr hlocks dX5_count_33 hP hS (by rw [← hfin]) ((by rw [← hfin]))
  refine lv_iload_n hx hb dX5_count_1 rfl (lv_at hl 1 rfl) ?_
  refine et_callP1 (v := .int (zI (mX5_isKind (5 : Int32)))) (va_runS (As := [.int (5 : Int32)]) (rest := [.ref md]) ⟨hx, hb, hml, hown, hts⟩ (c_X5_isKind l g (5 : Int32)) (va_cwS 1 hts (W0_gS w_789 w_790 w_82 w_791) rfl rfl rfl (by decide +kernel) ⟨Nat.le_of_ble_eq_true rfl, Nat.le_of_ble_eq_true rfl⟩) (et_preS hP hC [] rfl) rfl rfl hl.1 rfl (lv_room (Nat.le_of_ble_eq_true rfl)) dX5_count_2 ⟨Nat.le_of_ble_eq_true rfl, Nat.le_of_ble_eq_true rfl⟩) ?_
  refine lv_if_eq (tgt := 21) hx hb dX5_count_5 (by decide) (fun c_5 => ?_) (fun c_5 => ?_)
  ·
    refine lv_iconst (v := (1 : Int32)) hx hb dX5_count_21 (by decide) ?_
    have he4 : ((1 : Int32) : Int32) = (mX5_count_5_V1 who) := (by rw [mX5_count_5_V1, if_pos c_5])
    exact et_stki he4 (hj1 ls (lv_sub hl [0, 1, 2, 3] rfl))
  ·
    refine lv_iload_n hx hb dX5_count_8 rfl (lv_at hl 2 rfl) ?_
    refine lv_if_lt (tgt := 21) hx hb dX5_count_9 (by decide) (fun c_6 => ?_) (fun c_6 => ?_)
    ·
      refine lv_iconst (v := (1 : Int32)) hx hb dX5_count_21 (by decide) ?_
      have he5 : ((1 : Int32) : Int32) = (mX5_count_5_V1 who) := (by rw [mX5_count_5_V1, if_neg c_5, if_pos c_6])
      exact et_stki he5 (hj1 ls (lv_sub hl [0, 1, 2, 3] rfl))
    ·
      refine lv_iload_n hx hb dX5_count_12 rfl (lv_at hl 2 rfl) ?_
      refine lv_iconst (v := (2 : Int32)) hx hb dX5_count_13 (by decide) ?_
      refine lv_icmp_ge (tgt := 21) hx hb dX5_count_14 (by decide) (fun c_7 => ?_) (fun c_7 => ?_)
      ·
        refine lv_iconst (v := (1 : Int32)) hx hb dX5_count_21 (by decide) ?_
        have he6 : ((1 : Int32) : Int32) = (mX5_count_5_V1 who) := (by rw [mX5_count_5_V1, if_neg c_5, if_neg c_6, if_pos c_7])
        exact et_stki he6 (hj1 ls (lv_sub hl [0, 1, 2, 3] rfl))
      ·
        refine lv_iconst (v := (0 : Int32)) hx hb dX5_count_17 (by decide) ?_
        refine lv_goto (tgt := 22) hx hb dX5_count_18 (by decide) ?_
        have he7 : ((0 : Int32) : Int32) = (mX5_count_5_V1 who) := (by rw [mX5_count_5_V1, if_neg c_5, if_neg c_6, if_neg c_7])
        exact et_stki he7 (hj1 ls (lv_sub hl [0, 1, 2, 3] rfl))

def mX5_find_5_V1 (who : Int32) : Int32 :=
  if (zI (mX5_isKind (5 : Int32))) = 0 then
    (1 : Int32)
  else
    if who < 0 then
      (1 : Int32)
    else
      if (2 : Int32) ≤ who then
        (1 : Int32)
      else
        (0 : Int32)
def mX5_find_5_L1 (mF : Int32) (mR : Int32) (tb : Nat → Int64) (gr : Nat → Int32) (fu_1_1 : Nat) (who : Int32) (nn : Int32) (ix : Int32) : Nat → Nat → Int32 → Int32 × Int32 × (Nat → Int64) × (Nat → Int32) × (Nat → Int32)
  | 0, i1, left1 =>
    ((0 : Int32), (2 : Int32), (mX5_build_5 mF mR tb gr fu_1_1).1, (mX5_build_5 mF mR tb gr fu_1_1).2, upd (fun _ => (0 : Int32)) (5 : Int32).toNatClampNeg (vp_nar .boolean (1 : Int32)))
  | k1 + 1, i1, left1 =>
    if ix < 0 then
      ((0 : Int32), (2 : Int32), (mX5_build_5 mF mR tb gr fu_1_1).1, (mX5_build_5 mF mR tb gr fu_1_1).2, upd (fun _ => (0 : Int32)) (5 : Int32).toNatClampNeg (vp_nar .boolean (1 : Int32)))
    else
      if (zI (mX5_isOne mF mR ((mX5_build_5 mF mR tb gr fu_1_1).1) (5 : Int32) who nn (nI i1))) = 0 then
        mX5_find_5_L1 mF mR tb gr fu_1_1 who nn ix k1 (i1 + 1) left1
      else
        if left1 = 0 then
          ((((nI i1) / (4096 : Int32)) + ((64 : Int32) * (((nI i1) / (64 : Int32)) - ((nI i1) / (64 : Int32)) / (64 : Int32) * (64 : Int32)))) + ((4096 : Int32) * ((nI i1) - (nI i1) / (64 : Int32) * (64 : Int32))), (mX5_find_5_V1 who), (mX5_build_5 mF mR tb gr fu_1_1).1, (mX5_build_5 mF mR tb gr fu_1_1).2, upd (fun _ => (0 : Int32)) (5 : Int32).toNatClampNeg (vp_nar .boolean (1 : Int32)))
        else
          mX5_find_5_L1 mF mR tb gr fu_1_1 who nn ix k1 (i1 + 1) (left1 + (-1 : Int32))
def mX5_find_5 (mF : Int32) (mR : Int32) (tb : Nat → Int64) (gr : Nat → Int32) (fu_1_1 : Nat) (who : Int32) (nn : Int32) (ix : Int32) : Int32 × Int32 × (Nat → Int64) × (Nat → Int32) × (Nat → Int32) :=
  if (mX5_find_5_V1 who) ≤ 0 then
    mX5_find_5_L1 mF mR tb gr fu_1_1 who nn ix 262144 0 ix
  else
    ((0 : Int32), (mX5_find_5_V1 who), tb, gr, (fun _ => (0 : Int32)))
theorem et_findV_5 {who : Int32} (h : mX5_find_5_V1 who ≤ 0) : et_sd who := by
  unfold mX5_find_5_V1 at h
  rw [if_neg (show ¬ zI (mX5_isKind (5 : Int32)) = 0 by decide)] at h
  rcases pk_ix who (n := 2) (by omega) with h1 | h1 | ⟨j, hj, rfl⟩
  · rw [if_pos h1] at h
    exact absurd h (by decide)
  · rw [if_neg (show ¬ who < 0 from fun h2 => absurd (Int32.le_trans h1 (Int32.le_of_lt h2)) (by decide)), if_pos (show (2 : Int32) ≤ who from h1)] at h
    exact absurd h (by decide)
  · rcases (show j = 0 ∨ j = 1 by omega) with rfl | rfl
    · exact Or.inl rfl
    · exact Or.inr rfl
set_option maxHeartbeats 4000000 in
set_option maxRecDepth 100000 in
theorem c_X5_find_5 (l : Launch) (g : et_G) (md : Nat) (r1 : Nat) (r2 : Nat) (r3 : Nat) (r4 : Nat) (mF : Int32) (mR : Int32) (th : Int32) (tb : Nat → Int64) (gr : Nat → Int32) (mt : Bool) (mk : Int32) (mw : Int32) (mm : Int32) (mb : Int32) (ms : Int32) (ml : Nat → Int32) (my : Int32) (fu_1_1 : Nat) (who : Int32) (nn : Int32) (ix : Int32) (hF : et_b8 mF) (hR : et_b8 mR) (hT_2_2 : mX5_passAll_L1_ok mF mR (5 : Int32) (1 : Int32) fu_1_1 0 (0 : Int32) (0 : Int32) tb (upd gr (5 : Int32).toNatClampNeg (-1 : Int32)) = true) : Met l yX5_find (Cond.code yX5_find cX5_find 7 (some (.int)) :: W0) ({ frames := 7, cells := 0, slots := 0, locals := 185 } : Room) (et_PcW g ([(md, .inr (5, [.int th, .int mF, .int mR, .ref r1, .ref r2, .ref r3, .int (zI mt), .int mk, .int mw, .int mm, .int mb, .int ms, .ref r4, .int my])), (r1, .inl (gJ g, 327680, .inr (.inl tb))), (r2, .inl (gZ g, 6, .inl (fun _ => (0 : Int32)))), (r3, .inl (gI g, 6, .inl gr)), (r4, .inl (gI g, 64, .inl ml))]) [.ref md, .int (5 : Int32), .int who, .int nn, .int ix]) (et_QW g ([(md, .inr (5, [.int th, .int mF, .int mR, .ref r1, .ref r2, .ref r3, .int (zI mt), .int mk, .int mw, .int mm, .int mb, .int ms, .ref r4, .int my])), (r1, .inl (gJ g, 327680, .inr (.inl tb))), (r2, .inl (gZ g, 6, .inl (fun _ => (0 : Int32)))), (r3, .inl (gI g, 6, .inl gr)), (r4, .inl (gI g, 64, .inl ml))]) ([(md, .inr (5, [.int ((mX5_find_5 mF mR tb gr fu_1_1 who nn ix).2.1), .int mF, .int mR, .ref r1, .ref r2, .ref r3, .int (zI mt), .int mk, .int mw, .int mm, .int mb, .int ms, .ref r4, .int my])), (r1, .inl (gJ g, 327680, .inr (.inl ((mX5_find_5 mF mR tb gr fu_1_1 who nn ix).2.2.1)))), (r2, .inl (gZ g, 6, .inl ((mX5_find_5 mF mR tb gr fu_1_1 who nn ix).2.2.2.2))), (r3, .inl (gI g, 6, .inl ((mX5_find_5 mF mR tb gr fu_1_1 who nn ix).2.2.2.1))), (r4, .inl (gI g, 64, .inl ml))]) (some (.int ((mX5_find_5 mF mR tb gr fu_1_1 who nn ix).1)))) 0 0 (et_ad ([(md, .inr (5, [.int th, .int mF, .int mR, .ref r1, .ref r2, .ref r3, .int (zI mt), .int mk, .int mw, .int mm, .int mb, .int ms, .ref r4, .int my])), (r1, .inl (gJ g, 327680, .inr (.inl tb))), (r2, .inl (gZ g, 6, .inl (fun _ => (0 : Int32)))), (r3, .inl (gI g, 6, .inl gr)), (r4, .inl (gI g, 64, .inl ml))])) := by
  refine et_startW (by decide) rfl (Nat.le_of_ble_eq_true rfl) ?_
  intro p e s m args below meth c hx hb hr hts0 hown hlocks hml hP hC hD hS ls hl
  have hts : ∀ w ∈ W0, w.before args s = true := fun w h => hts0 w (List.mem_cons_of_mem _ h)
  have hown : s.vm.findClass RX5 = some m.cls := hown
  have hl : lv_has ls 7 [(0, .ref md), (1, .int (5 : Int32)), (2, .int who), (3, .int nn), (4, .int ix)] := hl
  refine lv_aload_n hx hb dX5_find_0 rfl (lv_at hl 0 rfl) ?_
  have hj1 : ∀ ls : Array Slot, lv_has ls 7 [(0, .ref md), (1, .int (5 : Int32)), (2, .int who), (3, .int nn), (4, .int ix)] → W p l e ({ frames := 7, cells := 0, slots := 0, locals := 185 } : Room) s m args below meth c s.heap [] 0 0 (MQ below (et_QW g ([(md, .inr (5, [.int th, .int mF, .int mR, .ref r1, .ref r2, .ref r3, .int (zI mt), .int mk, .int mw, .int mm, .int mb, .int ms, .ref r4, .int my])), (r1, .inl (gJ g, 327680, .inr (.inl tb))), (r2, .inl (gZ g, 6, .inl (fun _ => (0 : Int32)))), (r3, .inl (gI g, 6, .inl gr)), (r4, .inl (gI g, 64, .inl ml))]) ([(md, .inr (5, [.int ((mX5_find_5 mF mR tb gr fu_1_1 who nn ix).2.1), .int mF, .int mR, .ref r1, .ref r2, .ref r3, .int (zI mt), .int mk, .int mw, .int mm, .int mb, .int ms, .ref r4, .int my])), (r1, .inl (gJ g, 327680, .inr (.inl ((mX5_find_5 mF mR tb gr fu_1_1 who nn ix).2.2.1)))), (r2, .inl (gZ g, 6, .inl ((mX5_find_5 mF mR tb gr fu_1_1 who nn ix).2.2.2.2))), (r3, .inl (gI g, 6, .inl ((mX5_find_5 mF mR tb gr fu_1_1 who nn ix).2.2.2.1))), (r4, .inl (gI g, 64, .inl ml))]) (some (.int ((mX5_find_5 mF mR tb gr fu_1_1 who nn ix).1)))) args s 0 0 (et_ad ([(md, .inr (5, [.int th, .int mF, .int mR, .ref r1, .ref r2, .ref r3, .int (zI mt), .int mk, .int mw, .int mm, .int mb, .int ms, .ref r4, .int my])), (r1, .inl (gJ g, 327680, .inr (.inl tb))), (r2, .inl (gZ g, 6, .inl (fun _ => (0 : Int32)))), (r3, .inl (gI g, 6, .inl gr)), (r4, .inl (gI g, 64, .inl ml))]))) (F0 m 22 ls [.int (mX5_find_5_V1 who), .ref md]) := by
    intro ls hl
    refine va_put (D := gD g) (ci := 5) (v := .int (mX5_find_5_V1 who)) (ty := .int) (C := RX5) (T := TX5) (N := 14) hx hb hts inW_X5 tyX5 tyX5_ok nmX5 hown hC.1 hP hD hS 0 rfl rfl 0 (by decide) (hts _ w_733) (fun _ h9 => h9) rfl (by decide +kernel) rfl rfl (Nat.le_of_ble_eq_true rfl) dX5_find_22 (fun H locs hP hD hS => ?_)
    have hP : va_P (gD g) vwCl ([(md, .inr (5, [.int (mX5_find_5_V1 who), .int mF, .int mR, .ref r1, .ref r2, .ref r3, .int (zI mt), .int mk, .int mw, .int mm, .int mb, .int ms, .ref r4, .int my])), (r1, .inl (gJ g, 327680, .inr (.inl tb))), (r2, .inl (gZ g, 6, .inl (fun _ => (0 : Int32)))), (r3, .inl (gI g, 6, .inl gr)), (r4, .inl (gI g, 64, .inl ml))]) H := hP
    have hD : va_D (et_ad ([(md, .inr (5, [.int th, .int mF, .int mR, .ref r1, .ref r2, .ref r3, .int (zI mt), .int mk, .int mw, .int mm, .int mb, .int ms, .ref r4, .int my])), (r1, .inl (gJ g, 327680, .inr (.inl tb))), (r2, .inl (gZ g, 6, .inl (fun _ => (0 : Int32)))), (r3, .inl (gI g, 6, .inl gr)), (r4, .inl (gI g, 64, .inl ml))])) ([(md, .inr (5, [.int (mX5_find_5_V1 who), .int mF, .int mR, .ref r1, .ref r2, .ref r3, .int (zI mt), .int mk, .int mw, .int mm, .int mb, .int ms, .ref r4, .int my])), (r1, .inl (gJ g, 327680, .inr (.inl tb))), (r2, .inl (gZ g, 6, .inl (fun _ => (0 : Int32)))), (r3, .inl (gI g, 6, .inl gr)), (r4, .inl (gI g, 64, .inl ml))]) := hD
    refine lv_aload_n hx hb dX5_find_25 rfl (lv_at hl 0 rfl) ?_
    refine va_get (D := gD g) (ci := 5) (v := .int (mX5_find_5_V1 who)) (C := RX5) (T := TX5) (N := 14) hx hb hts inW_X5 hown hC.1 hP 0 rfl rfl 0 (by decide) (hts _ w_733) (fun _ h9 => h9) rfl dX5_find_26 ?_
    refine lv_if_le (tgt := 34) hx hb dX5_find_29 (by decide) (fun c_1 => ?_) (fun c_1 => ?_)
    ·
      refine lv_aload_n hx hb dX5_find_34 rfl (lv_at hl 0 rfl) ?_
      refine lv_iload_n hx hb dX5_find_35 rfl (lv_at hl 1 rfl) ?_
      refine et_callW0 (ws' := [(md, .inr (5, [.int (mX5_find_5_V1 who), .int mF, .int mR, .ref r1, .ref r2, .ref r3, .int (zI mt), .int mk, .int mw, .int mm, .int mb, .int ms, .ref r4, .int my])), (r1, .inl (gJ g, 327680, .inr (.inl ((mX5_build_5 mF mR tb gr fu_1_1).1)))), (r2, .inl (gZ g, 6, .inl (upd (fun _ => (0 : Int32)) (5 : Int32).toNatClampNeg (vp_nar .boolean (1 : Int32))))), (r3, .inl (gI g, 6, .inl ((mX5_build_5 mF mR tb gr fu_1_1).2))), (r4, .inl (gI g, 64, .inl ml))]) (va_runV (As := [.int (5 : Int32)]) (rest := []) ⟨hx, hb, hml, hown, hts⟩ (c_X5_build_5 l g md r1 r2 r3 r4 mF mR (mX5_find_5_V1 who) tb gr mt mk mw mm mb ms ml my fu_1_1 (by assumption) (by assumption) hT_2_2) (cwV 1 hts (W0_gV w_821 w_823 w_56 w_82 w_824) rfl rfl rfl (by decide +kernel) ⟨Nat.le_of_ble_eq_true rfl, Nat.le_of_ble_eq_true rfl⟩) (et_preVW hP hC hD [0, 1, 2, 3, 4] (by decide) rfl (ci := 5) (q0 := 0) rfl rfl) rfl rfl hl.1 rfl (lv_room (Nat.le_of_ble_eq_true rfl)) dX5_find_36 ⟨Nat.le_of_ble_eq_true rfl, Nat.le_of_ble_eq_true rfl⟩) hP hD hS [0, 1, 2, 3, 4] [] 5 rfl [md, r1, r2, r3, r4] rfl rfl rfl [] rfl rfl rfl (by decide +kernel) (fun H locs hP hD hS => ?_)
      refine lv_iload hx hb dX5_find_39 (lv_at hl 4 rfl) ?_
      refine lv_istore (lv' := [(5, .int ix), (0, .ref md), (1, .int (5 : Int32)), (2, .int who), (3, .int nn), (4, .int ix)]) hx hb dX5_find_41 hl (by decide) rfl (fun ls hl => ?_)
      refine lv_iconst (v := (0 : Int32)) hx hb dX5_find_43 (by decide) ?_
      refine lv_istore (lv' := [(6, .int (0 : Int32)), (5, .int ix), (0, .ref md), (1, .int (5 : Int32)), (2, .int who), (3, .int nn), (4, .int ix)]) hx hb dX5_find_44 hl (by decide) rfl (fun ls hl => ?_)
      have hL1 : ∀ (k1 i1 : Nat) (left1 : Int32), i1 + k1 = 262144 → mX5_find_5_L1 mF mR tb gr fu_1_1 who nn ix k1 i1 left1 = (mX5_find_5 mF mR tb gr fu_1_1 who nn ix) → ∀ (H : Heap) (locs : List Loc), va_P (gD g) vwCl ([(md, .inr (5, [.int (mX5_find_5_V1 who), .int mF, .int mR, .ref r1, .ref r2, .ref r3, .int (zI mt), .int mk, .int mw, .int mm, .int mb, .int ms, .ref r4, .int my])), (r1, .inl (gJ g, 327680, .inr (.inl ((mX5_build_5 mF mR tb gr fu_1_1).1)))), (r2, .inl (gZ g, 6, .inl (upd (fun _ => (0 : Int32)) (5 : Int32).toNatClampNeg (vp_nar .boolean (1 : Int32))))), (r3, .inl (gI g, 6, .inl ((mX5_build_5 mF mR tb gr fu_1_1).2))), (r4, .inl (gI g, 64, .inl ml))]) H → va_D (et_ad ([(md, .inr (5, [.int th, .int mF, .int mR, .ref r1, .ref r2, .ref r3, .int (zI mt), .int mk, .int mw, .int mm, .int mb, .int ms, .ref r4, .int my])), (r1, .inl (gJ g, 327680, .inr (.inl tb))), (r2, .inl (gZ g, 6, .inl (fun _ => (0 : Int32)))), (r3, .inl (gI g, 6, .inl gr)), (r4, .inl (gI g, 64, .inl ml))])) ([(md, .inr (5, [.int (mX5_find_5_V1 who), .int mF, .int mR, .ref r1, .ref r2, .ref r3, .int (zI mt), .int mk, .int mw, .int mm, .int mb, .int ms, .ref r4, .int my])), (r1, .inl (gJ g, 327680, .inr (.inl ((mX5_build_5 mF mR tb gr fu_1_1).1)))), (r2, .inl (gZ g, 6, .inl (upd (fun _ => (0 : Int32)) (5 : Int32).toNatClampNeg (vp_nar .boolean (1 : Int32))))), (r3, .inl (gI g, 6, .inl ((mX5_build_5 mF mR tb gr fu_1_1).2))), (r4, .inl (gI g, 64, .inl ml))]) → va_S (et_ad ([(md, .inr (5, [.int th, .int mF, .int mR, .ref r1, .ref r2, .ref r3, .int (zI mt), .int mk, .int mw, .int mm, .int mb, .int ms, .ref r4, .int my])), (r1, .inl (gJ g, 327680, .inr (.inl tb))), (r2, .inl (gZ g, 6, .inl (fun _ => (0 : Int32)))), (r3, .inl (gI g, 6, .inl gr)), (r4, .inl (gI g, 64, .inl ml))])) s.heap H locs → ∀ ls : Array Slot, lv_has ls 7 [(6, .int (nI i1)), (5, .int left1), (0, .ref md), (1, .int (5 : Int32)), (2, .int who), (3, .int nn), (4, .int ix)] → W p l e ({ frames := 7, cells := 0, slots := 0, locals := 185 } : Room) s m args below meth c H locs 0 0 (MQ below (et_QW g ([(md, .inr (5, [.int th, .int mF, .int mR, .ref r1, .ref r2, .ref r3, .int (zI mt), .int mk, .int mw, .int mm, .int mb, .int ms, .ref r4, .int my])), (r1, .inl (gJ g, 327680, .inr (.inl tb))), (r2, .inl (gZ g, 6, .inl (fun _ => (0 : Int32)))), (r3, .inl (gI g, 6, .inl gr)), (r4, .inl (gI g, 64, .inl ml))]) ([(md, .inr (5, [.int ((mX5_find_5 mF mR tb gr fu_1_1 who nn ix).2.1), .int mF, .int mR, .ref r1, .ref r2, .ref r3, .int (zI mt), .int mk, .int mw, .int mm, .int mb, .int ms, .ref r4, .int my])), (r1, .inl (gJ g, 327680, .inr (.inl ((mX5_find_5 mF mR tb gr fu_1_1 who nn ix).2.2.1)))), (r2, .inl (gZ g, 6, .inl ((mX5_find_5 mF mR tb gr fu_1_1 who nn ix).2.2.2.2))), (r3, .inl (gI g, 6, .inl ((mX5_find_5 mF mR tb gr fu_1_1 who nn ix).2.2.2.1))), (r4, .inl (gI g, 64, .inl ml))]) (some (.int ((mX5_find_5 mF mR tb gr fu_1_1 who nn ix).1)))) args s 0 0 (et_ad ([(md, .inr (5, [.int th, .int mF, .int mR, .ref r1, .ref r2, .ref r3, .int (zI mt), .int mk, .int mw, .int mm, .int mb, .int ms, .ref r4, .int my])), (r1, .inl (gJ g, 327680, .inr (.inl tb))), (r2, .inl (gZ g, 6, .inl (fun _ => (0 : Int32)))), (r3, .inl (gI g, 6, .inl gr)), (r4, .inl (gI g, 64, .inl ml))]))) (F0 m 46 ls []) := by
        intro k1
        induction k1 with
        | zero =>
          intro i1 left1 hik hm H locs hP hD hS ls hl
          refine lv_iload hx hb dX5_find_46 (lv_at hl 0 rfl) ?_
          refine lv_ldc hx hb hown (hts _ w_844) dX5_find_48 ?_
          refine lv_icmp_ge (tgt := 113) hx hb dX5_find_50 (by decide) (fun c_2 => ?_) (fun c_2 => ?_)
          rotate_left
          · exact absurd (et_le (a := 262144) (b := i1) (by omega) (by omega)) c_2
          refine lv_aload_n hx hb dX5_find_113 rfl (lv_at hl 2 rfl) ?_
          refine lv_iconst (v := (2 : Int32)) hx hb dX5_find_114 (by decide) ?_
          refine va_put (D := gD g) (ci := 5) (v := .int (2 : Int32)) (ty := .int) (C := RX5) (T := TX5) (N := 14) hx hb hts inW_X5 tyX5 tyX5_ok nmX5 hown hC.1 hP hD hS 0 rfl rfl 0 (by decide) (hts _ w_733) (fun _ h9 => h9) rfl (by decide +kernel) rfl rfl (Nat.le_of_ble_eq_true rfl) dX5_find_115 (fun H locs hP hD hS => ?_)
          have hP : va_P (gD g) vwCl ([(md, .inr (5, [.int (2 : Int32), .int mF, .int mR, .ref r1, .ref r2, .ref r3, .int (zI mt), .int mk, .int mw, .int mm, .int mb, .int ms, .ref r4, .int my])), (r1, .inl (gJ g, 327680, .inr (.inl ((mX5_build_5 mF mR tb gr fu_1_1).1)))), (r2, .inl (gZ g, 6, .inl (upd (fun _ => (0 : Int32)) (5 : Int32).toNatClampNeg (vp_nar .boolean (1 : Int32))))), (r3, .inl (gI g, 6, .inl ((mX5_build_5 mF mR tb gr fu_1_1).2))), (r4, .inl (gI g, 64, .inl ml))]) H := hP
          have hD : va_D (et_ad ([(md, .inr (5, [.int th, .int mF, .int mR, .ref r1, .ref r2, .ref r3, .int (zI mt), .int mk, .int mw, .int mm, .int mb, .int ms, .ref r4, .int my])), (r1, .inl (gJ g, 327680, .inr (.inl tb))), (r2, .inl (gZ g, 6, .inl (fun _ => (0 : Int32)))), (r3, .inl (gI g, 6, .inl gr)), (r4, .inl (gI g, 64, .inl ml))])) ([(md, .inr (5, [.int (2 : Int32), .int mF, .int mR, .ref r1, .ref r2, .ref r3, .int (zI mt), .int mk, .int mw, .int mm, .int mb, .int ms, .ref r4, .int my])), (r1, .inl (gJ g, 327680, .inr (.inl ((mX5_build_5 mF mR tb gr fu_1_1).1)))), (r2, .inl (gZ g, 6, .inl (upd (fun _ => (0 : Int32)) (5 : Int32).toNatClampNeg (vp_nar .boolean (1 : Int32))))), (r3, .inl (gI g, 6, .inl ((mX5_build_5 mF mR tb gr fu_1_1).2))), (r4, .inl (gI g, 64, .inl ml))]) := hD
          refine lv_iconst (v := (0 : Int32)) hx hb dX5_find_118 (by decide) ?_
          have hfin : ((0 : Int32), (2 : Int32), (mX5_build_5 mF mR tb gr fu_1_1).1, (mX5_build_5 mF mR tb gr fu_1_1).2, upd (fun _ => (0 : Int32)) (5 : Int32).toNatClampNeg (vp_nar .boolean (1 : Int32))) = (mX5_find_5 mF mR tb gr fu_1_1 who nn ix) := (by rw [mX5_find_5_L1] : mX5_find_5_L1 mF mR tb gr fu_1_1 who nn ix 0 i1 left1 = ((0 : Int32), (2 : Int32), (mX5_build_5 mF mR tb gr fu_1_1).1, (mX5_build_5 mF mR tb gr fu_1_1).2, upd (fun _ => (0 : Int32)) (5 : Int32).toNatClampNeg (vp_nar .boolean (1 : Int32)))).symm.trans hm
          exact et_iretW hx hb hr hlocks dX5_find_119 hP hS (by rw [← hfin]) ((by rw [← hfin]))
        | succ k1 ih1 =>
          intro i1 left1 hik hm H locs hP hD hS ls hl
          refine lv_iload hx hb dX5_find_46 (lv_at hl 0 rfl) ?_
          refine lv_ldc hx hb hown (hts _ w_844) dX5_find_48 ?_
          refine lv_icmp_ge (tgt := 113) hx hb dX5_find_50 (by decide) (fun c_3 => ?_) (fun c_3 => ?_)
          · exact absurd c_3 (et_ge (a := i1) (b := 262144) (by omega) (by omega))
          refine lv_iload hx hb dX5_find_53 (lv_at hl 6 rfl) ?_
          refine lv_if_lt (tgt := 113) hx hb dX5_find_55 (by decide) (fun c_4 => ?_) (fun c_4 => ?_)
          ·
            refine lv_aload_n hx hb dX5_find_113 rfl (lv_at hl 2 rfl) ?_
            refine lv_iconst (v := (2 : Int32)) hx hb dX5_find_114 (by decide) ?_
            refine va_put (D := gD g) (ci := 5) (v := .int (2 : Int32)) (ty := .int) (C := RX5) (T := TX5) (N := 14) hx hb hts inW_X5 tyX5 tyX5_ok nmX5 hown hC.1 hP hD hS 0 rfl rfl 0 (by decide) (hts _ w_733) (fun _ h9 => h9) rfl (by decide +kernel) rfl rfl (Nat.le_of_ble_eq_true rfl) dX5_find_115 (fun H locs hP hD hS => ?_)
            have hP : va_P (gD g) vwCl ([(md, .inr (5, [.int (2 : Int32), .int mF, .int mR, .ref r1, .ref r2, .ref r3, .int (zI mt), .int mk, .int mw, .int mm, .int mb, .int ms, .ref r4, .int my])), (r1, .inl (gJ g, 327680, .inr (.inl ((mX5_build_5 mF mR tb gr fu_1_1).1)))), (r2, .inl (gZ g, 6, .inl (upd (fun _ => (0 : Int32)) (5 : Int32).toNatClampNeg (vp_nar .boolean (1 : Int32))))), (r3, .inl (gI g, 6, .inl ((mX5_build_5 mF mR tb gr fu_1_1).2))), (r4, .inl (gI g, 64, .inl ml))]) H := hP
            have hD : va_D (et_ad ([(md, .inr (5, [.int th, .int mF, .int mR, .ref r1, .ref r2, .ref r3, .int (zI mt), .int mk, .int mw, .int mm, .int mb, .int ms, .ref r4, .int my])), (r1, .inl (gJ g, 327680, .inr (.inl tb))), (r2, .inl (gZ g, 6, .inl (fun _ => (0 : Int32)))), (r3, .inl (gI g, 6, .inl gr)), (r4, .inl (gI g, 64, .inl ml))])) ([(md, .inr (5, [.int (2 : Int32), .int mF, .int mR, .ref r1, .ref r2, .ref r3, .int (zI mt), .int mk, .int mw, .int mm, .int mb, .int ms, .ref r4, .int my])), (r1, .inl (gJ g, 327680, .inr (.inl ((mX5_build_5 mF mR tb gr fu_1_1).1)))), (r2, .inl (gZ g, 6, .inl (upd (fun _ => (0 : Int32)) (5 : Int32).toNatClampNeg (vp_nar .boolean (1 : Int32))))), (r3, .inl (gI g, 6, .inl ((mX5_build_5 mF mR tb gr fu_1_1).2))), (r4, .inl (gI g, 64, .inl ml))]) := hD
            refine lv_iconst (v := (0 : Int32)) hx hb dX5_find_118 (by decide) ?_
            have hfin : ((0 : Int32), (2 : Int32), (mX5_build_5 mF mR tb gr fu_1_1).1, (mX5_build_5 mF mR tb gr fu_1_1).2, upd (fun _ => (0 : Int32)) (5 : Int32).toNatClampNeg (vp_nar .boolean (1 : Int32))) = (mX5_find_5 mF mR tb gr fu_1_1 who nn ix) := (by rw [mX5_find_5_L1, if_pos c_4] : mX5_find_5_L1 mF mR tb gr fu_1_1 who nn ix (k1 + 1) i1 left1 = ((0 : Int32), (2 : Int32), (mX5_build_5 mF mR tb gr fu_1_1).1, (mX5_build_5 mF mR tb gr fu_1_1).2, upd (fun _ => (0 : Int32)) (5 : Int32).toNatClampNeg (vp_nar .boolean (1 : Int32)))).symm.trans hm
            exact et_iretW hx hb hr hlocks dX5_find_119 hP hS (by rw [← hfin]) ((by rw [← hfin]))
          ·
            refine lv_aload_n hx hb dX5_find_58 rfl (lv_at hl 2 rfl) ?_
            refine lv_iload_n hx hb dX5_find_59 rfl (lv_at hl 3 rfl) ?_
            refine lv_iload_n hx hb dX5_find_60 rfl (lv_at hl 4 rfl) ?_
            refine lv_iload_n hx hb dX5_find_61 rfl (lv_at hl 5 rfl) ?_
            refine lv_iload hx hb dX5_find_62 (lv_at hl 0 rfl) ?_
            refine et_callP1 (v := .int (zI (mX5_isOne mF mR ((mX5_build_5 mF mR tb gr fu_1_1).1) (5 : Int32) who nn (nI i1)))) (va_runV (As := [.int (5 : Int32), .int who, .int nn, .int (nI i1)]) (rest := []) ⟨hx, hb, hml, hown, hts⟩ (c_X5_isOne l g md r1 r2 r3 r4 mF mR (mX5_find_5_V1 who) ((mX5_build_5 mF mR tb gr fu_1_1).1) (upd (fun _ => (0 : Int32)) (5 : Int32).toNatClampNeg (vp_nar .boolean (1 : Int32))) ((mX5_build_5 mF mR tb gr fu_1_1).2) mt mk mw mm mb ms ml my (5 : Int32) who nn (nI i1) (by assumption) (by assumption) (et_kdl (by decide)) (et_findV_5 (by assumption)) (et_ati (by omega))) (cwV 4 hts (W0_gV w_874 w_876 w_67 w_82 w_877) rfl rfl rfl (by decide +kernel) ⟨Nat.le_of_ble_eq_true rfl, Nat.le_of_ble_eq_true rfl⟩) (et_preV hP hC [0, 1, 2, 3, 4] rfl (ci := 5) (q0 := 0) rfl rfl) rfl rfl hl.1 rfl (lv_room (Nat.le_of_ble_eq_true rfl)) dX5_find_64 ⟨Nat.le_of_ble_eq_true rfl, Nat.le_of_ble_eq_true rfl⟩) ?_
            refine lv_if_eq (tgt := 107) hx hb dX5_find_67 (by decide) (fun c_5 => ?_) (fun c_5 => ?_)
            ·
              refine lv_iinc (v := nI (i1 + 1)) (lv' := [(6, .int (nI (i1 + 1))), (5, .int left1), (0, .ref md), (1, .int (5 : Int32)), (2, .int who), (3, .int nn), (4, .int ix)]) hx hb dX5_find_107 hl (k := 0) rfl (et_inc i1) (by decide) rfl (fun ls hl => ?_)
              refine lv_goto (tgt := 46) hx hb dX5_find_110 (by decide) ?_
              exact ih1 (i1 + 1) left1 (by omega) ((by rw [mX5_find_5_L1, if_neg c_4, if_pos c_5] : mX5_find_5_L1 mF mR tb gr fu_1_1 who nn ix (k1 + 1) i1 left1 = mX5_find_5_L1 mF mR tb gr fu_1_1 who nn ix k1 (i1 + 1) left1).symm.trans hm) _ _ hP hD hS ls (lv_sub hl [0, 1, 2, 3, 4, 5, 6] rfl)
            ·
              refine lv_iload hx hb dX5_find_70 (lv_at hl 1 rfl) ?_
              refine lv_if_ne (tgt := 104) hx hb dX5_find_72 (by decide) (fun c_6 => ?_) (fun c_6 => ?_)
              ·
                refine lv_iinc (v := left1 + (-1 : Int32)) (lv' := [(5, .int (left1 + (-1 : Int32))), (6, .int (nI i1)), (0, .ref md), (1, .int (5 : Int32)), (2, .int who), (3, .int nn), (4, .int ix)]) hx hb dX5_find_104 hl (k := 1) rfl rfl (by decide) rfl (fun ls hl => ?_)
                refine lv_iinc (v := nI (i1 + 1)) (lv' := [(6, .int (nI (i1 + 1))), (5, .int (left1 + (-1 : Int32))), (0, .ref md), (1, .int (5 : Int32)), (2, .int who), (3, .int nn), (4, .int ix)]) hx hb dX5_find_107 hl (k := 1) rfl (et_inc i1) (by decide) rfl (fun ls hl => ?_)
                refine lv_goto (tgt := 46) hx hb dX5_find_110 (by decide) ?_
                exact ih1 (i1 + 1) (left1 + (-1 : Int32)) (by omega) ((by rw [mX5_find_5_L1, if_neg c_4, if_neg c_5, if_neg c_6] : mX5_find_5_L1 mF mR tb gr fu_1_1 who nn ix (k1 + 1) i1 left1 = mX5_find_5_L1 mF mR tb gr fu_1_1 who nn ix k1 (i1 + 1) (left1 + (-1 : Int32))).symm.trans hm) _ _ hP hD hS ls (lv_sub hl [0, 1, 2, 3, 4, 5, 6] rfl)
              ·
                refine lv_iload hx hb dX5_find_75 (lv_at hl 0 rfl) ?_
                refine lv_sipush (v := (4096 : Int32)) hx hb dX5_find_77 (by decide) ?_
                refine lv_idiv hx hb dX5_find_80 (by decide) ?_
                refine lv_bipush (v := (64 : Int32)) hx hb dX5_find_81 (by decide) ?_
                refine lv_iload hx hb dX5_find_83 (lv_at hl 0 rfl) ?_
                refine lv_bipush (v := (64 : Int32)) hx hb dX5_find_85 (by decide) ?_
                refine lv_idiv hx hb dX5_find_87 (by decide) ?_
                refine lv_bipush (v := (64 : Int32)) hx hb dX5_find_88 (by decide) ?_
                refine lv_irem hx hb dX5_find_90 (by decide) ?_
                refine lv_imul hx hb dX5_find_91 ?_
                refine lv_iadd hx hb dX5_find_92 ?_
                refine lv_sipush (v := (4096 : Int32)) hx hb dX5_find_93 (by decide) ?_
                refine lv_iload hx hb dX5_find_96 (lv_at hl 0 rfl) ?_
                refine lv_bipush (v := (64 : Int32)) hx hb dX5_find_98 (by decide) ?_
                refine lv_irem hx hb dX5_find_100 (by decide) ?_
                refine lv_imul hx hb dX5_find_101 ?_
                refine lv_iadd hx hb dX5_find_102 ?_
                have hfin : ((((nI i1) / (4096 : Int32)) + ((64 : Int32) * (((nI i1) / (64 : Int32)) - ((nI i1) / (64 : Int32)) / (64 : Int32) * (64 : Int32)))) + ((4096 : Int32) * ((nI i1) - (nI i1) / (64 : Int32) * (64 : Int32))), (mX5_find_5_V1 who), (mX5_build_5 mF mR tb gr fu_1_1).1, (mX5_build_5 mF mR tb gr fu_1_1).2, upd (fun _ => (0 : Int32)) (5 : Int32).toNatClampNeg (vp_nar .boolean (1 : Int32))) = (mX5_find_5 mF mR tb gr fu_1_1 who nn ix) := (by rw [mX5_find_5_L1, if_neg c_4, if_neg c_5, if_pos c_6] : mX5_find_5_L1 mF mR tb gr fu_1_1 who nn ix (k1 + 1) i1 left1 = ((((nI i1) / (4096 : Int32)) + ((64 : Int32) * (((nI i1) / (64 : Int32)) - ((nI i1) / (64 : Int32)) / (64 : Int32) * (64 : Int32)))) + ((4096 : Int32) * ((nI i1) - (nI i1) / (64 : Int32) * (64 : Int32))), (mX5_find_5_V1 who), (mX5_build_5 mF mR tb gr fu_1_1).1, (mX5_build_5 mF mR tb gr fu_1_1).2, upd (fun _ => (0 : Int32)) (5 : Int32).toNatClampNeg (vp_nar .boolean (1 : Int32)))).symm.trans hm
                exact et_iretW hx hb hr hlocks dX5_find_103 hP hS (by rw [← hfin]) ((by rw [← hfin]))
      exact hL1 262144 0 ix (by omega) (show mX5_find_5_L1 mF mR tb gr fu_1_1 who nn ix 262144 0 ix = (mX5_find_5 mF mR tb gr fu_1_1 who nn ix) from (by rw [mX5_find_5, if_pos c_1])) _ _ hP hD hS ls (lv_sub hl [0, 1, 2, 3, 4, 5, 6] rfl)
    ·
      refine lv_iconst (v := (0 : Int32)) hx hb dX5_find_32 (by decide) ?_
      have hfin : ((0 : Int32), (mX5_find_5_V1 who), tb, gr, (fun _ => (0 : Int32))) = (mX5_find_5 mF mR tb gr fu_1_1 who nn ix) := (by rw [mX5_find_5, if_neg c_1])
      exact et_iretW hx hb hr hlocks dX5_find_33 hP hS (by rw [← hfin]) ((by rw [← hfin]))
  refine lv_iload_n hx hb dX5_find_1 rfl (lv_at hl 1 rfl) ?_
  refine et_callP1 (v := .int (zI (mX5_isKind (5 : Int32)))) (va_runS (As := [.int (5 : Int32)]) (rest := [.ref md]) ⟨hx, hb, hml, hown, hts⟩ (c_X5_isKind l g (5 : Int32)) (va_cwS 1 hts (W0_gS w_789 w_790 w_82 w_791) rfl rfl rfl (by decide +kernel) ⟨Nat.le_of_ble_eq_true rfl, Nat.le_of_ble_eq_true rfl⟩) (et_preS hP hC [] rfl) rfl rfl hl.1 rfl (lv_room (Nat.le_of_ble_eq_true rfl)) dX5_find_2 ⟨Nat.le_of_ble_eq_true rfl, Nat.le_of_ble_eq_true rfl⟩) ?_
  refine lv_if_eq (tgt := 21) hx hb dX5_find_5 (by decide) (fun c_7 => ?_) (fun c_7 => ?_)
  ·
    refine lv_iconst (v := (1 : Int32)) hx hb dX5_find_21 (by decide) ?_
    have he1 : ((1 : Int32) : Int32) = (mX5_find_5_V1 who) := (by rw [mX5_find_5_V1, if_pos c_7])
    exact et_stki he1 (hj1 ls (lv_sub hl [0, 1, 2, 3, 4] rfl))
  ·
    refine lv_iload_n hx hb dX5_find_8 rfl (lv_at hl 2 rfl) ?_
    refine lv_if_lt (tgt := 21) hx hb dX5_find_9 (by decide) (fun c_8 => ?_) (fun c_8 => ?_)
    ·
      refine lv_iconst (v := (1 : Int32)) hx hb dX5_find_21 (by decide) ?_
      have he2 : ((1 : Int32) : Int32) = (mX5_find_5_V1 who) := (by rw [mX5_find_5_V1, if_neg c_7, if_pos c_8])
      exact et_stki he2 (hj1 ls (lv_sub hl [0, 1, 2, 3, 4] rfl))
    ·
      refine lv_iload_n hx hb dX5_find_12 rfl (lv_at hl 2 rfl) ?_
      refine lv_iconst (v := (2 : Int32)) hx hb dX5_find_13 (by decide) ?_
      refine lv_icmp_ge (tgt := 21) hx hb dX5_find_14 (by decide) (fun c_9 => ?_) (fun c_9 => ?_)
      ·
        refine lv_iconst (v := (1 : Int32)) hx hb dX5_find_21 (by decide) ?_
        have he3 : ((1 : Int32) : Int32) = (mX5_find_5_V1 who) := (by rw [mX5_find_5_V1, if_neg c_7, if_neg c_8, if_pos c_9])
        exact et_stki he3 (hj1 ls (lv_sub hl [0, 1, 2, 3, 4] rfl))
      ·
        refine lv_iconst (v := (0 : Int32)) hx hb dX5_find_17 (by decide) ?_
        refine lv_goto (tgt := 22) hx hb dX5_find_18 (by decide) ?_
        have he4 : ((0 : Int32) : Int32) = (mX5_find_5_V1 who) := (by rw [mX5_find_5_V1, if_neg c_7, if_neg c_8, if_neg c_9])
        exact et_stki he4 (hj1 ls (lv_sub hl [0, 1, 2, 3, 4] rfl))

def mX5_longest_5_V1  : Int32 :=
  if (zI (mX5_isKind (5 : Int32))) = 0 then
    (1 : Int32)
  else
    (0 : Int32)
def mX5_longest_5 (mF : Int32) (mR : Int32) (tb : Nat → Int64) (gr : Nat → Int32) (fu_1_1 : Nat) : Int32 × Int32 × (Nat → Int64) × (Nat → Int32) × (Nat → Int32) :=
  if (mX5_longest_5_V1) ≤ 0 then
    (((mX5_build_5 mF mR tb gr fu_1_1).2) (5 : Int32).toNatClampNeg, (mX5_longest_5_V1), (mX5_build_5 mF mR tb gr fu_1_1).1, (mX5_build_5 mF mR tb gr fu_1_1).2, upd (fun _ => (0 : Int32)) (5 : Int32).toNatClampNeg (vp_nar .boolean (1 : Int32)))
  else
    ((0 : Int32), (mX5_longest_5_V1), tb, gr, (fun _ => (0 : Int32)))
set_option maxHeartbeats 4000000 in
set_option maxRecDepth 100000 in
theorem c_X5_longest_5 (l : Launch) (g : et_G) (md : Nat) (r1 : Nat) (r2 : Nat) (r3 : Nat) (r4 : Nat) (mF : Int32) (mR : Int32) (th : Int32) (tb : Nat → Int64) (gr : Nat → Int32) (mt : Bool) (mk : Int32) (mw : Int32) (mm : Int32) (mb : Int32) (ms : Int32) (ml : Nat → Int32) (my : Int32) (fu_1_1 : Nat) (hF : et_b8 mF) (hR : et_b8 mR) (hT_2_2 : mX5_passAll_L1_ok mF mR (5 : Int32) (1 : Int32) fu_1_1 0 (0 : Int32) (0 : Int32) tb (upd gr (5 : Int32).toNatClampNeg (-1 : Int32)) = true) : Met l yX5_longest (Cond.code yX5_longest cX5_longest 2 (some (.int)) :: W0) ({ frames := 7, cells := 0, slots := 0, locals := 185 } : Room) (et_PcW g ([(md, .inr (5, [.int th, .int mF, .int mR, .ref r1, .ref r2, .ref r3, .int (zI mt), .int mk, .int mw, .int mm, .int mb, .int ms, .ref r4, .int my])), (r1, .inl (gJ g, 327680, .inr (.inl tb))), (r2, .inl (gZ g, 6, .inl (fun _ => (0 : Int32)))), (r3, .inl (gI g, 6, .inl gr)), (r4, .inl (gI g, 64, .inl ml))]) [.ref md, .int (5 : Int32)]) (et_QW g ([(md, .inr (5, [.int th, .int mF, .int mR, .ref r1, .ref r2, .ref r3, .int (zI mt), .int mk, .int mw, .int mm, .int mb, .int ms, .ref r4, .int my])), (r1, .inl (gJ g, 327680, .inr (.inl tb))), (r2, .inl (gZ g, 6, .inl (fun _ => (0 : Int32)))), (r3, .inl (gI g, 6, .inl gr)), (r4, .inl (gI g, 64, .inl ml))]) ([(md, .inr (5, [.int ((mX5_longest_5 mF mR tb gr fu_1_1).2.1), .int mF, .int mR, .ref r1, .ref r2, .ref r3, .int (zI mt), .int mk, .int mw, .int mm, .int mb, .int ms, .ref r4, .int my])), (r1, .inl (gJ g, 327680, .inr (.inl ((mX5_longest_5 mF mR tb gr fu_1_1).2.2.1)))), (r2, .inl (gZ g, 6, .inl ((mX5_longest_5 mF mR tb gr fu_1_1).2.2.2.2))), (r3, .inl (gI g, 6, .inl ((mX5_longest_5 mF mR tb gr fu_1_1).2.2.2.1))), (r4, .inl (gI g, 64, .inl ml))]) (some (.int ((mX5_longest_5 mF mR tb gr fu_1_1).1)))) 0 0 (et_ad ([(md, .inr (5, [.int th, .int mF, .int mR, .ref r1, .ref r2, .ref r3, .int (zI mt), .int mk, .int mw, .int mm, .int mb, .int ms, .ref r4, .int my])), (r1, .inl (gJ g, 327680, .inr (.inl tb))), (r2, .inl (gZ g, 6, .inl (fun _ => (0 : Int32)))), (r3, .inl (gI g, 6, .inl gr)), (r4, .inl (gI g, 64, .inl ml))])) := by
  refine et_startW (by decide) rfl (Nat.le_of_ble_eq_true rfl) ?_
  intro p e s m args below meth c hx hb hr hts0 hown hlocks hml hP hC hD hS ls hl
  have hts : ∀ w ∈ W0, w.before args s = true := fun w h => hts0 w (List.mem_cons_of_mem _ h)
  have hown : s.vm.findClass RX5 = some m.cls := hown
  have hl : lv_has ls 2 [(0, .ref md), (1, .int (5 : Int32))] := hl
  refine lv_aload_n hx hb dX5_longest_0 rfl (lv_at hl 0 rfl) ?_
  have hj1 : ∀ ls : Array Slot, lv_has ls 2 [(0, .ref md), (1, .int (5 : Int32))] → W p l e ({ frames := 7, cells := 0, slots := 0, locals := 185 } : Room) s m args below meth c s.heap [] 0 0 (MQ below (et_QW g ([(md, .inr (5, [.int th, .int mF, .int mR, .ref r1, .ref r2, .ref r3, .int (zI mt), .int mk, .int mw, .int mm, .int mb, .int ms, .ref r4, .int my])), (r1, .inl (gJ g, 327680, .inr (.inl tb))), (r2, .inl (gZ g, 6, .inl (fun _ => (0 : Int32)))), (r3, .inl (gI g, 6, .inl gr)), (r4, .inl (gI g, 64, .inl ml))]) ([(md, .inr (5, [.int ((mX5_longest_5 mF mR tb gr fu_1_1).2.1), .int mF, .int mR, .ref r1, .ref r2, .ref r3, .int (zI mt), .int mk, .int mw, .int mm, .int mb, .int ms, .ref r4, .int my])), (r1, .inl (gJ g, 327680, .inr (.inl ((mX5_longest_5 mF mR tb gr fu_1_1).2.2.1)))), (r2, .inl (gZ g, 6, .inl ((mX5_longest_5 mF mR tb gr fu_1_1).2.2.2.2))), (r3, .inl (gI g, 6, .inl ((mX5_longest_5 mF mR tb gr fu_1_1).2.2.2.1))), (r4, .inl (gI g, 64, .inl ml))]) (some (.int ((mX5_longest_5 mF mR tb gr fu_1_1).1)))) args s 0 0 (et_ad ([(md, .inr (5, [.int th, .int mF, .int mR, .ref r1, .ref r2, .ref r3, .int (zI mt), .int mk, .int mw, .int mm, .int mb, .int ms, .ref r4, .int my])), (r1, .inl (gJ g, 327680, .inr (.inl tb))), (r2, .inl (gZ g, 6, .inl (fun _ => (0 : Int32)))), (r3, .inl (gI g, 6, .inl gr)), (r4, .inl (gI g, 64, .inl ml))]))) (F0 m 13 ls [.int (mX5_longest_5_V1), .ref md]) := by
    intro ls hl
    refine va_put (D := gD g) (ci := 5) (v := .int (mX5_longest_5_V1)) (ty := .int) (C := RX5) (T := TX5) (N := 14) hx hb hts inW_X5 tyX5 tyX5_ok nmX5 hown hC.1 hP hD hS 0 rfl rfl 0 (by decide) (hts _ w_733) (fun _ h9 => h9) rfl (by decide +kernel) rfl rfl (Nat.le_of_ble_eq_true rfl) dX5_longest_13 (fun H locs hP hD hS => ?_)
    have hP : va_P (gD g) vwCl ([(md, .inr (5, [.int (mX5_longest_5_V1), .int mF, .int mR, .ref r1, .ref r2, .ref r3, .int (zI mt), .int mk, .int mw, .int mm, .int mb, .int ms, .ref r4, .int my])), (r1, .inl (gJ g, 327680, .inr (.inl tb))), (r2, .inl (gZ g, 6, .inl (fun _ => (0 : Int32)))), (r3, .inl (gI g, 6, .inl gr)), (r4, .inl (gI g, 64, .inl ml))]) H := hP
    have hD : va_D (et_ad ([(md, .inr (5, [.int th, .int mF, .int mR, .ref r1, .ref r2, .ref r3, .int (zI mt), .int mk, .int mw, .int mm, .int mb, .int ms, .ref r4, .int my])), (r1, .inl (gJ g, 327680, .inr (.inl tb))), (r2, .inl (gZ g, 6, .inl (fun _ => (0 : Int32)))), (r3, .inl (gI g, 6, .inl gr)), (r4, .inl (gI g, 64, .inl ml))])) ([(md, .inr (5, [.int (mX5_longest_5_V1), .int mF, .int mR, .ref r1, .ref r2, .ref r3, .int (zI mt), .int mk, .int mw, .int mm, .int mb, .int ms, .ref r4, .int my])), (r1, .inl (gJ g, 327680, .inr (.inl tb))), (r2, .inl (gZ g, 6, .inl (fun _ => (0 : Int32)))), (r3, .inl (gI g, 6, .inl gr)), (r4, .inl (gI g, 64, .inl ml))]) := hD
    refine lv_aload_n hx hb dX5_longest_16 rfl (lv_at hl 0 rfl) ?_
    refine va_get (D := gD g) (ci := 5) (v := .int (mX5_longest_5_V1)) (C := RX5) (T := TX5) (N := 14) hx hb hts inW_X5 hown hC.1 hP 0 rfl rfl 0 (by decide) (hts _ w_733) (fun _ h9 => h9) rfl dX5_longest_17 ?_
    refine lv_if_le (tgt := 25) hx hb dX5_longest_20 (by decide) (fun c_1 => ?_) (fun c_1 => ?_)
    ·
      refine lv_aload_n hx hb dX5_longest_25 rfl (lv_at hl 0 rfl) ?_
      refine lv_iload_n hx hb dX5_longest_26 rfl (lv_at hl 1 rfl) ?_
      refine et_callW0 (ws' := [(md, .inr (5, [.int (mX5_longest_5_V1), .int mF, .int mR, .ref r1, .ref r2, .ref r3, .int (zI mt), .int mk, .int mw, .int mm, .int mb, .int ms, .ref r4, .int my])), (r1, .inl (gJ g, 327680, .inr (.inl ((mX5_build_5 mF mR tb gr fu_1_1).1)))), (r2, .inl (gZ g, 6, .inl (upd (fun _ => (0 : Int32)) (5 : Int32).toNatClampNeg (vp_nar .boolean (1 : Int32))))), (r3, .inl (gI g, 6, .inl ((mX5_build_5 mF mR tb gr fu_1_1).2))), (r4, .inl (gI g, 64, .inl ml))]) (va_runV (As := [.int (5 : Int32)]) (rest := []) ⟨hx, hb, hml, hown, hts⟩ (c_X5_build_5 l g md r1 r2 r3 r4 mF mR (mX5_longest_5_V1) tb gr mt mk mw mm mb ms ml my fu_1_1 (by assumption) (by assumption) hT_2_2) (cwV 1 hts (W0_gV w_821 w_823 w_56 w_82 w_824) rfl rfl rfl (by decide +kernel) ⟨Nat.le_of_ble_eq_true rfl, Nat.le_of_ble_eq_true rfl⟩) (et_preVW hP hC hD [0, 1, 2, 3, 4] (by decide) rfl (ci := 5) (q0 := 0) rfl rfl) rfl rfl hl.1 rfl (lv_room (Nat.le_of_ble_eq_true rfl)) dX5_longest_27 ⟨Nat.le_of_ble_eq_true rfl, Nat.le_of_ble_eq_true rfl⟩) hP hD hS [0, 1, 2, 3, 4] [] 5 rfl [md, r1, r2, r3, r4] rfl rfl rfl [] rfl rfl rfl (by decide +kernel) (fun H locs hP hD hS => ?_)
      refine lv_aload_n hx hb dX5_longest_30 rfl (lv_at hl 0 rfl) ?_
      refine va_get (D := gD g) (ci := 5) (v := .ref r3) (C := RX5) (T := TX5) (N := 14) hx hb hts inW_X5 hown hC.1 hP 0 rfl rfl 5 (by decide) (hts _ w_738) (fun _ h9 => h9) rfl dX5_longest_31 ?_
      refine lv_iload_n hx hb dX5_longest_34 rfl (lv_at hl 1 rfl) ?_
      refine va_iald (D := gD g) hx hb hC.1 hP 3 0 rfl rfl (et_kd_in (et_kdl (by decide))) dX5_longest_35 ?_
      have hfin : (((mX5_build_5 mF mR tb gr fu_1_1).2) (5 : Int32).toNatClampNeg, (mX5_longest_5_V1), (mX5_build_5 mF mR tb gr fu_1_1).1, (mX5_build_5 mF mR tb gr fu_1_1).2, upd (fun _ => (0 : Int32)) (5 : Int32).toNatClampNeg (vp_nar .boolean (1 : Int32))) = (mX5_longest_5 mF mR tb gr fu_1_1) := (by rw [mX5_longest_5, if_pos c_1])
      exact et_iretW hx hb hr hlocks dX5_longest_36 hP hS (by rw [← hfin]) ((by rw [← hfin]))
    ·
      refine lv_iconst (v := (0 : Int32)) hx hb dX5_longest_23 (by decide) ?_
      have hfin : ((0 : Int32), (mX5_longest_5_V1), tb, gr, (fun _ => (0 : Int32))) = (mX5_longest_5 mF mR tb gr fu_1_1) := (by rw [mX5_longest_5, if_neg c_1])
      exact et_iretW hx hb hr hlocks dX5_longest_24 hP hS (by rw [← hfin]) ((by rw [← hfin]))
  refine lv_iload_n hx hb dX5_longest_1 rfl (lv_at hl 1 rfl) ?_
  refine et_callP1 (v := .int (zI (mX5_isKind (5 : Int32)))) (va_runS (As := [.int (5 : Int32)]) (rest := [.ref md]) ⟨hx, hb, hml, hown, hts⟩ (c_X5_isKind l g (5 : Int32)) (va_cwS 1 hts (W0_gS w_789 w_790 w_82 w_791) rfl rfl rfl (by decide +kernel) ⟨Nat.le_of_ble_eq_true rfl, Nat.le_of_ble_eq_true rfl⟩) (et_preS hP hC [] rfl) rfl rfl hl.1 rfl (lv_room (Nat.le_of_ble_eq_true rfl)) dX5_longest_2 ⟨Nat.le_of_ble_eq_true rfl, Nat.le_of_ble_eq_true rfl⟩) ?_
  refine lv_if_eq (tgt := 12) hx hb dX5_longest_5 (by decide) (fun c_2 => ?_) (fun c_2 => ?_)
  ·
    refine lv_iconst (v := (1 : Int32)) hx hb dX5_longest_12 (by decide) ?_
    have he1 : ((1 : Int32) : Int32) = (mX5_longest_5_V1) := (by rw [mX5_longest_5_V1, if_pos c_2])
    exact et_stki he1 (hj1 ls (lv_sub hl [0, 1] rfl))
  ·
    refine lv_iconst (v := (0 : Int32)) hx hb dX5_longest_8 (by decide) ?_
    refine lv_goto (tgt := 13) hx hb dX5_longest_9 (by decide) ?_
    have he2 : ((0 : Int32) : Int32) = (mX5_longest_5_V1) := (by rw [mX5_longest_5_V1, if_neg c_2])
    exact et_stki he2 (hj1 ls (lv_sub hl [0, 1] rfl))

def mX5_distance_x_V1 (mF : Int32) (mR : Int32) (kd : Int32) (ww : Int32) (wm : Int32) (wb : Int32) (who : Int32) : Int32 :=
  if (zI (mX5_isKind kd)) = 0 then
    (1 : Int32)
  else
    if (zI (mX5_isPosition mF mR kd ww wm wb who)) = 0 then
      (1 : Int32)
    else
      (0 : Int32)
def mX5_distance_x (mF : Int32) (mR : Int32) (tb : Nat → Int64) (gr : Nat → Int32) (kd : Int32) (ww : Int32) (wm : Int32) (wb : Int32) (who : Int32) : Int32 × Int32 × (Nat → Int64) × (Nat → Int32) × (Nat → Int32) :=
  ((0 : Int32), (mX5_distance_x_V1 mF mR kd ww wm wb who), tb, gr, (fun _ => (0 : Int32)))
theorem et_distX {mF mR kd ww wm wb who : Int32} (hK : zI (mX5_isKind kd) = 0) : ¬ mX5_distance_x_V1 mF mR kd ww wm wb who ≤ 0 := by
  unfold mX5_distance_x_V1
  rw [if_pos hK]
  decide
set_option maxHeartbeats 4000000 in
set_option maxRecDepth 100000 in
theorem c_X5_distance_x (l : Launch) (g : et_G) (md : Nat) (r1 : Nat) (r2 : Nat) (r3 : Nat) (r4 : Nat) (mF : Int32) (mR : Int32) (th : Int32) (tb : Nat → Int64) (gr : Nat → Int32) (mt : Bool) (mk : Int32) (mw : Int32) (mm : Int32) (mb : Int32) (ms : Int32) (ml : Nat → Int32) (my : Int32) (kd : Int32) (ww : Int32) (wm : Int32) (wb : Int32) (who : Int32) (hF : et_b8 mF) (hR : et_b8 mR) (hK : zI (mX5_isKind kd) = 0) : Met l yX5_distance (Cond.code yX5_distance cX5_distance 6 (some (.int)) :: W0) ({ frames := 3, cells := 0, slots := 0, locals := 80 } : Room) (et_PcW g ([(md, .inr (5, [.int th, .int mF, .int mR, .ref r1, .ref r2, .ref r3, .int (zI mt), .int mk, .int mw, .int mm, .int mb, .int ms, .ref r4, .int my])), (r1, .inl (gJ g, 327680, .inr (.inl tb))), (r2, .inl (gZ g, 6, .inl (fun _ => (0 : Int32)))), (r3, .inl (gI g, 6, .inl gr)), (r4, .inl (gI g, 64, .inl ml))]) [.ref md, .int kd, .int ww, .int wm, .int wb, .int who]) (et_QW g ([(md, .inr (5, [.int th, .int mF, .int mR, .ref r1, .ref r2, .ref r3, .int (zI mt), .int mk, .int mw, .int mm, .int mb, .int ms, .ref r4, .int my])), (r1, .inl (gJ g, 327680, .inr (.inl tb))), (r2, .inl (gZ g, 6, .inl (fun _ => (0 : Int32)))), (r3, .inl (gI g, 6, .inl gr)), (r4, .inl (gI g, 64, .inl ml))]) ([(md, .inr (5, [.int ((mX5_distance_x mF mR tb gr kd ww wm wb who).2.1), .int mF, .int mR, .ref r1, .ref r2, .ref r3, .int (zI mt), .int mk, .int mw, .int mm, .int mb, .int ms, .ref r4, .int my])), (r1, .inl (gJ g, 327680, .inr (.inl ((mX5_distance_x mF mR tb gr kd ww wm wb who).2.2.1)))), (r2, .inl (gZ g, 6, .inl ((mX5_distance_x mF mR tb gr kd ww wm wb who).2.2.2.2))), (r3, .inl (gI g, 6, .inl ((mX5_distance_x mF mR tb gr kd ww wm wb who).2.2.2.1))), (r4, .inl (gI g, 64, .inl ml))]) (some (.int ((mX5_distance_x mF mR tb gr kd ww wm wb who).1)))) 0 0 (et_ad ([(md, .inr (5, [.int th, .int mF, .int mR, .ref r1, .ref r2, .ref r3, .int (zI mt), .int mk, .int mw, .int mm, .int mb, .int ms, .ref r4, .int my])), (r1, .inl (gJ g, 327680, .inr (.inl tb))), (r2, .inl (gZ g, 6, .inl (fun _ => (0 : Int32)))), (r3, .inl (gI g, 6, .inl gr)), (r4, .inl (gI g, 64, .inl ml))])) := by
  refine et_startW (by decide) rfl (Nat.le_of_ble_eq_true rfl) ?_
  intro p e s m args below meth c hx hb hr hts0 hown hlocks hml hP hC hD hS ls hl
  have hts : ∀ w ∈ W0, w.before args s = true := fun w h => hts0 w (List.mem_cons_of_mem _ h)
  have hown : s.vm.findClass RX5 = some m.cls := hown
  have hl : lv_has ls 6 [(0, .ref md), (1, .int kd), (2, .int ww), (3, .int wm), (4, .int wb), (5, .int who)] := hl
  refine lv_aload_n hx hb dX5_distance_0 rfl (lv_at hl 0 rfl) ?_
  have hj1 : ∀ ls : Array Slot, lv_has ls 6 [(0, .ref md), (1, .int kd), (2, .int ww), (3, .int wm), (4, .int wb), (5, .int who)] → W p l e ({ frames := 3, cells := 0, slots := 0, locals := 80 } : Room) s m args below meth c s.heap [] 0 0 (MQ below (et_QW g ([(md, .inr (5, [.int th, .int mF, .int mR, .ref r1, .ref r2, .ref r3, .int (zI mt), .int mk, .int mw, .int mm, .int mb, .int ms, .ref r4, .int my])), (r1, .inl (gJ g, 327680, .inr (.inl tb))), (r2, .inl (gZ g, 6, .inl (fun _ => (0 : Int32)))), (r3, .inl (gI g, 6, .inl gr)), (r4, .inl (gI g, 64, .inl ml))]) ([(md, .inr (5, [.int ((mX5_distance_x mF mR tb gr kd ww wm wb who).2.1), .int mF, .int mR, .ref r1, .ref r2, .ref r3, .int (zI mt), .int mk, .int mw, .int mm, .int mb, .int ms, .ref r4, .int my])), (r1, .inl (gJ g, 327680, .inr (.inl ((mX5_distance_x mF mR tb gr kd ww wm wb who).2.2.1)))), (r2, .inl (gZ g, 6, .inl ((mX5_distance_x mF mR tb gr kd ww wm wb who).2.2.2.2))), (r3, .inl (gI g, 6, .inl ((mX5_distance_x mF mR tb gr kd ww wm wb who).2.2.2.1))), (r4, .inl (gI g, 64, .inl ml))]) (some (.int ((mX5_distance_x mF mR tb gr kd ww wm wb who).1)))) args s 0 0 (et_ad ([(md, .inr (5, [.int th, .int mF, .int mR, .ref r1, .ref r2, .ref r3, .int (zI mt), .int mk, .int mw, .int mm, .int mb, .int ms, .ref r4, .int my])), (r1, .inl (gJ g, 327680, .inr (.inl tb))), (r2, .inl (gZ g, 6, .inl (fun _ => (0 : Int32)))), (r3, .inl (gI g, 6, .inl gr)), (r4, .inl (gI g, 64, .inl ml))]))) (F0 m 27 ls [.int (mX5_distance_x_V1 mF mR kd ww wm wb who), .ref md]) := by
    intro ls hl
    refine va_put (D := gD g) (ci := 5) (v := .int (mX5_distance_x_V1 mF mR kd ww wm wb who)) (ty := .int) (C := RX5) (T := TX5) (N := 14) hx hb hts inW_X5 tyX5 tyX5_ok nmX5 hown hC.1 hP hD hS 0 rfl rfl 0 (by decide) (hts _ w_733) (fun _ h9 => h9) rfl (by decide +kernel) rfl rfl (Nat.le_of_ble_eq_true rfl) dX5_distance_27 (fun H locs hP hD hS => ?_)
    have hP : va_P (gD g) vwCl ([(md, .inr (5, [.int (mX5_distance_x_V1 mF mR kd ww wm wb who), .int mF, .int mR, .ref r1, .ref r2, .ref r3, .int (zI mt), .int mk, .int mw, .int mm, .int mb, .int ms, .ref r4, .int my])), (r1, .inl (gJ g, 327680, .inr (.inl tb))), (r2, .inl (gZ g, 6, .inl (fun _ => (0 : Int32)))), (r3, .inl (gI g, 6, .inl gr)), (r4, .inl (gI g, 64, .inl ml))]) H := hP
    have hD : va_D (et_ad ([(md, .inr (5, [.int th, .int mF, .int mR, .ref r1, .ref r2, .ref r3, .int (zI mt), .int mk, .int mw, .int mm, .int mb, .int ms, .ref r4, .int my])), (r1, .inl (gJ g, 327680, .inr (.inl tb))), (r2, .inl (gZ g, 6, .inl (fun _ => (0 : Int32)))), (r3, .inl (gI g, 6, .inl gr)), (r4, .inl (gI g, 64, .inl ml))])) ([(md, .inr (5, [.int (mX5_distance_x_V1 mF mR kd ww wm wb who), .int mF, .int mR, .ref r1, .ref r2, .ref r3, .int (zI mt), .int mk, .int mw, .int mm, .int mb, .int ms, .ref r4, .int my])), (r1, .inl (gJ g, 327680, .inr (.inl tb))), (r2, .inl (gZ g, 6, .inl (fun _ => (0 : Int32)))), (r3, .inl (gI g, 6, .inl gr)), (r4, .inl (gI g, 64, .inl ml))]) := hD
    refine lv_aload_n hx hb dX5_distance_30 rfl (lv_at hl 0 rfl) ?_
    refine va_get (D := gD g) (ci := 5) (v := .int (mX5_distance_x_V1 mF mR kd ww wm wb who)) (C := RX5) (T := TX5) (N := 14) hx hb hts inW_X5 hown hC.1 hP 0 rfl rfl 0 (by decide) (hts _ w_733) (fun _ h9 => h9) rfl dX5_distance_31 ?_
    refine lv_if_le (tgt := 41) hx hb dX5_distance_34 (by decide) (fun c_1 => ?_) (fun c_1 => ?_)
    · exact absurd c_1 (et_distX hK)
    refine lv_iconst (v := (0 : Int32)) hx hb dX5_distance_37 (by decide) ?_
    refine lv_goto (tgt := 52) hx hb dX5_distance_38 (by decide) ?_
    have hfin : ((0 : Int32), (mX5_distance_x_V1 mF mR kd ww wm wb who), tb, gr, (fun _ => (0 : Int32))) = (mX5_distance_x mF mR tb gr kd ww wm wb who) := (by rw [mX5_distance_x])
    exact et_iretW hx hb hr hlocks dX5_distance_52 hP hS (by rw [← hfin]) ((by rw [← hfin]))
  refine lv_iload_n hx hb dX5_distance_1 rfl (lv_at hl 1 rfl) ?_
  refine et_callP1 (v := .int (zI (mX5_isKind kd))) (va_runS (As := [.int kd]) (rest := [.ref md]) ⟨hx, hb, hml, hown, hts⟩ (c_X5_isKind l g kd) (va_cwS 1 hts (W0_gS w_789 w_790 w_82 w_791) rfl rfl rfl (by decide +kernel) ⟨Nat.le_of_ble_eq_true rfl, Nat.le_of_ble_eq_true rfl⟩) (et_preS hP hC [] rfl) rfl rfl hl.1 rfl (lv_room (Nat.le_of_ble_eq_true rfl)) dX5_distance_2 ⟨Nat.le_of_ble_eq_true rfl, Nat.le_of_ble_eq_true rfl⟩) ?_
  refine lv_if_eq (tgt := 26) hx hb dX5_distance_5 (by decide) (fun c_2 => ?_) (fun c_2 => ?_)
  ·
    refine lv_iconst (v := (1 : Int32)) hx hb dX5_distance_26 (by decide) ?_
    have he1 : ((1 : Int32) : Int32) = (mX5_distance_x_V1 mF mR kd ww wm wb who) := (by rw [mX5_distance_x_V1, if_pos c_2])
    exact et_stki he1 (hj1 ls (lv_sub hl [0, 1, 2, 3, 4, 5] rfl))
  ·
    refine lv_aload_n hx hb dX5_distance_8 rfl (lv_at hl 0 rfl) ?_
    refine lv_iload_n hx hb dX5_distance_9 rfl (lv_at hl 1 rfl) ?_
    refine lv_iload_n hx hb dX5_distance_10 rfl (lv_at hl 2 rfl) ?_
    refine lv_iload_n hx hb dX5_distance_11 rfl (lv_at hl 3 rfl) ?_
    refine lv_iload hx hb dX5_distance_12 (lv_at hl 4 rfl) ?_
    refine lv_iload hx hb dX5_distance_14 (lv_at hl 5 rfl) ?_
    refine et_callP1 (v := .int (zI (mX5_isPosition mF mR kd ww wm wb who))) (va_runV (As := [.int kd, .int ww, .int wm, .int wb, .int who]) (rest := [.ref md]) ⟨hx, hb, hml, hown, hts⟩ (c_X5_isPosition l g md r1 r2 r3 r4 mF mR th tb (fun _ => (0 : Int32)) gr mt mk mw mm mb ms ml my kd ww wm wb who (by assumption) (by assumption)) (cwV 5 hts (W0_gV w_792 w_794 w_51 w_82 w_795) rfl rfl rfl (by decide +kernel) ⟨Nat.le_of_ble_eq_true rfl, Nat.le_of_ble_eq_true rfl⟩) (et_preV hP hC [0, 1, 2, 3, 4] rfl (ci := 5) (q0 := 0) rfl rfl) rfl rfl hl.1 rfl (lv_room (Nat.le_of_ble_eq_true rfl)) dX5_distance_16 ⟨Nat.le_of_ble_eq_true rfl, Nat.le_of_ble_eq_true rfl⟩) ?_
    refine lv_if_eq (tgt := 26) hx hb dX5_distance_19 (by decide) (fun c_3 => ?_) (fun c_3 => ?_)
    ·
      refine lv_iconst (v := (1 : Int32)) hx hb dX5_distance_26 (by decide) ?_
      have he2 : ((1 : Int32) : Int32) = (mX5_distance_x_V1 mF mR kd ww wm wb who) := (by rw [mX5_distance_x_V1, if_neg c_2, if_pos c_3])
      exact et_stki he2 (hj1 ls (lv_sub hl [0, 1, 2, 3, 4, 5] rfl))
    ·
      refine lv_iconst (v := (0 : Int32)) hx hb dX5_distance_22 (by decide) ?_
      refine lv_goto (tgt := 27) hx hb dX5_distance_23 (by decide) ?_
      have he3 : ((0 : Int32) : Int32) = (mX5_distance_x_V1 mF mR kd ww wm wb who) := (by rw [mX5_distance_x_V1, if_neg c_2, if_neg c_3])
      exact et_stki he3 (hj1 ls (lv_sub hl [0, 1, 2, 3, 4, 5] rfl))

def mX5_count_x_V1 (kd : Int32) (who : Int32) : Int32 :=
  if (zI (mX5_isKind kd)) = 0 then
    (1 : Int32)
  else
    if who < 0 then
      (1 : Int32)
    else
      if (2 : Int32) ≤ who then
        (1 : Int32)
      else
        (0 : Int32)
def mX5_count_x (tb : Nat → Int64) (gr : Nat → Int32) (kd : Int32) (who : Int32) : Int32 × Int32 × (Nat → Int64) × (Nat → Int32) × (Nat → Int32) :=
  ((0 : Int32), (mX5_count_x_V1 kd who), tb, gr, (fun _ => (0 : Int32)))
theorem et_cntX {kd who : Int32} (hK : zI (mX5_isKind kd) = 0) : ¬ mX5_count_x_V1 kd who ≤ 0 := by
  unfold mX5_count_x_V1
  rw [if_pos hK]
  decide
set_option maxHeartbeats 4000000 in
set_option maxRecDepth 100000 in
theorem c_X5_count_x (l : Launch) (g : et_G) (md : Nat) (r1 : Nat) (r2 : Nat) (r3 : Nat) (r4 : Nat) (mF : Int32) (mR : Int32) (th : Int32) (tb : Nat → Int64) (gr : Nat → Int32) (mt : Bool) (mk : Int32) (mw : Int32) (mm : Int32) (mb : Int32) (ms : Int32) (ml : Nat → Int32) (my : Int32) (kd : Int32) (who : Int32) (nn : Int32) (hF : et_b8 mF) (hR : et_b8 mR) (hK : zI (mX5_isKind kd) = 0) : Met l yX5_count (Cond.code yX5_count cX5_count 6 (some (.int)) :: W0) ({ frames := 1, cells := 0, slots := 0, locals := 20 } : Room) (et_PcW g ([(md, .inr (5, [.int th, .int mF, .int mR, .ref r1, .ref r2, .ref r3, .int (zI mt), .int mk, .int mw, .int mm, .int mb, .int ms, .ref r4, .int my])), (r1, .inl (gJ g, 327680, .inr (.inl tb))), (r2, .inl (gZ g, 6, .inl (fun _ => (0 : Int32)))), (r3, .inl (gI g, 6, .inl gr)), (r4, .inl (gI g, 64, .inl ml))]) [.ref md, .int kd, .int who, .int nn]) (et_QW g ([(md, .inr (5, [.int th, .int mF, .int mR, .ref r1, .ref r2, .ref r3, .int (zI mt), .int mk, .int mw, .int mm, .int mb, .int ms, .ref r4, .int my])), (r1, .inl (gJ g, 327680, .inr (.inl tb))), (r2, .inl (gZ g, 6, .inl (fun _ => (0 : Int32)))), (r3, .inl (gI g, 6, .inl gr)), (r4, .inl (gI g, 64, .inl ml))]) ([(md, .inr (5, [.int ((mX5_count_x tb gr kd who).2.1), .int mF, .int mR, .ref r1, .ref r2, .ref r3, .int (zI mt), .int mk, .int mw, .int mm, .int mb, .int ms, .ref r4, .int my])), (r1, .inl (gJ g, 327680, .inr (.inl ((mX5_count_x tb gr kd who).2.2.1)))), (r2, .inl (gZ g, 6, .inl ((mX5_count_x tb gr kd who).2.2.2.2))), (r3, .inl (gI g, 6, .inl ((mX5_count_x tb gr kd who).2.2.2.1))), (r4, .inl (gI g, 64, .inl ml))]) (some (.int ((mX5_count_x tb gr kd who).1)))) 0 0 (et_ad ([(md, .inr (5, [.int th, .int mF, .int mR, .ref r1, .ref r2, .ref r3, .int (zI mt), .int mk, .int mw, .int mm, .int mb, .int ms, .ref r4, .int my])), (r1, .inl (gJ g, 327680, .inr (.inl tb))), (r2, .inl (gZ g, 6, .inl (fun _ => (0 : Int32)))), (r3, .inl (gI g, 6, .inl gr)), (r4, .inl (gI g, 64, .inl ml))])) := by
  refine et_startW (by decide) rfl (Nat.le_of_ble_eq_true rfl) ?_
  intro p e s m args below meth c hx hb hr hts0 hown hlocks hml hP hC hD hS ls hl
  have hts : ∀ w ∈ W0, w.before args s = true := fun w h => hts0 w (List.mem_cons_of_mem _ h)
  have hown : s.vm.findClass RX5 = some m.cls := hown
  have hl : lv_has ls 6 [(0, .ref md), (1, .int kd), (2, .int who), (3, .int nn)] := hl
  refine lv_aload_n hx hb dX5_count_0 rfl (lv_at hl 0 rfl) ?_
  have hj1 : ∀ ls : Array Slot, lv_has ls 6 [(0, .ref md), (1, .int kd), (2, .int who), (3, .int nn)] → W p l e ({ frames := 1, cells := 0, slots := 0, locals := 20 } : Room) s m args below meth c s.heap [] 0 0 (MQ below (et_QW g ([(md, .inr (5, [.int th, .int mF, .int mR, .ref r1, .ref r2, .ref r3, .int (zI mt), .int mk, .int mw, .int mm, .int mb, .int ms, .ref r4, .int my])), (r1, .inl (gJ g, 327680, .inr (.inl tb))), (r2, .inl (gZ g, 6, .inl (fun _ => (0 : Int32)))), (r3, .inl (gI g, 6, .inl gr)), (r4, .inl (gI g, 64, .inl ml))]) ([(md, .inr (5, [.int ((mX5_count_x tb gr kd who).2.1), .int mF, .int mR, .ref r1, .ref r2, .ref r3, .int (zI mt), .int mk, .int mw, .int mm, .int mb, .int ms, .ref r4, .int my])), (r1, .inl (gJ g, 327680, .inr (.inl ((mX5_count_x tb gr kd who).2.2.1)))), (r2, .inl (gZ g, 6, .inl ((mX5_count_x tb gr kd who).2.2.2.2))), (r3, .inl (gI g, 6, .inl ((mX5_count_x tb gr kd who).2.2.2.1))), (r4, .inl (gI g, 64, .inl ml))]) (some (.int ((mX5_count_x tb gr kd who).1)))) args s 0 0 (et_ad ([(md, .inr (5, [.int th, .int mF, .int mR, .ref r1, .ref r2, .ref r3, .int (zI mt), .int mk, .int mw, .int mm, .int mb, .int ms, .ref r4, .int my])), (r1, .inl (gJ g, 327680, .inr (.inl tb))), (r2, .inl (gZ g, 6, .inl (fun _ => (0 : Int32)))), (r3, .inl (gI g, 6, .inl gr)), (r4, .inl (gI g, 64, .inl ml))]))) (F0 m 22 ls [.int (mX5_count_x_V1 kd who), .ref md]) := by
    intro ls hl
    refine va_put (D := gD g) (ci := 5) (v := .int (mX5_count_x_V1 kd who)) (ty := .int) (C := RX5) (T := TX5) (N := 14) hx hb hts inW_X5 tyX5 tyX5_ok nmX5 hown hC.1 hP hD hS 0 rfl rfl 0 (by decide) (hts _ w_733) (fun _ h9 => h9) rfl (by decide +kernel) rfl rfl (Nat.le_of_ble_eq_true rfl) dX5_count_22 (fun H locs hP hD hS => ?_)
    have hP : va_P (gD g) vwCl ([(md, .inr (5, [.int (mX5_count_x_V1 kd who), .int mF, .int mR, .ref r1, .ref r2, .ref r3, .int (zI mt), .int mk, .int mw, .int mm, .int mb, .int ms, .ref r4, .int my])), (r1, .inl (gJ g, 327680, .inr (.inl tb))), (r2, .inl (gZ g, 6, .inl (fun _ => (0 : Int32)))), (r3, .inl (gI g, 6, .inl gr)), (r4, .inl (gI g, 64, .inl ml))]) H := hP
    have hD : va_D (et_ad ([(md, .inr (5, [.int th, .int mF, .int mR, .ref r1, .ref r2, .ref r3, .int (zI mt), .int mk, .int mw, .int mm, .int mb, .int ms, .ref r4, .int my])), (r1, .inl (gJ g, 327680, .inr (.inl tb))), (r2, .inl (gZ g, 6, .inl (fun _ => (0 : Int32)))), (r3, .inl (gI g, 6, .inl gr)), (r4, .inl (gI g, 64, .inl ml))])) ([(md, .inr (5, [.int (mX5_count_x_V1 kd who), .int mF, .int mR, .ref r1, .ref r2, .ref r3, .int (zI mt), .int mk, .int mw, .int mm, .int mb, .int ms, .ref r4, .int my])), (r1, .inl (gJ g, 327680, .inr (.inl tb))), (r2, .inl (gZ g, 6, .inl (fun _ => (0 : Int32)))), (r3, .inl (gI g, 6, .inl gr)), (r4, .inl (gI g, 64, .inl ml))]) := hD
    refine lv_aload_n hx hb dX5_count_25 rfl (lv_at hl 0 rfl) ?_
    refine va_get (D := gD g) (ci := 5) (v := .int (mX5_count_x_V1 kd who)) (C := RX5) (T := TX5) (N := 14) hx hb hts inW_X5 hown hC.1 hP 0 rfl rfl 0 (by decide) (hts _ w_733) (fun _ h9 => h9) rfl dX5_count_26 ?_
    refine lv_if_le (tgt := 34) hx hb dX5_count_29 (by decide) (fun c_1 => ?_) (fun c_1 => ?_)
    · exact absurd c_1 (et_cntX hK)
    refine lv_iconst (v := (0 : Int32)) hx hb dX5_count_32 (by decide) ?_
    have hfin : ((0 : Int32), (mX5_count_x_V1 kd who), tb, gr, (fun _ => (0 : Int32))) = (mX5_count_x tb gr kd who) := (by rw [mX5_count_x])
    exact et_iretW hx hb hr hlocks dX5_count_33 hP hS (by rw [← hfin]) ((by rw [← hfin]))
  refine lv_iload_n hx hb dX5_count_1 rfl (lv_at hl 1 rfl) ?_
  refine et_callP1 (v := .int (zI (mX5_isKind kd))) (va_runS (As := [.int kd]) (rest := [.ref md]) ⟨hx, hb, hml, hown, hts⟩ (c_X5_isKind l g kd) (va_cwS 1 hts (W0_gS w_789 w_790 w_82 w_791) rfl rfl rfl (by decide +kernel) ⟨Nat.le_of_ble_eq_true rfl, Nat.le_of_ble_eq_true rfl⟩) (et_preS hP hC [] rfl) rfl rfl hl.1 rfl (lv_room (Nat.le_of_ble_eq_true rfl)) dX5_count_2 ⟨Nat.le_of_ble_eq_true rfl, Nat.le_of_ble_eq_true rfl⟩) ?_
  refine lv_if_eq (tgt := 21) hx hb dX5_count_5 (by decide) (fun c_2 => ?_) (fun c_2 => ?_)
  ·
    refine lv_iconst (v := (1 : Int32)) hx hb dX5_count_21 (by decide) ?_
    have he1 : ((1 : Int32) : Int32) = (mX5_count_x_V1 kd who) := (by rw [mX5_count_x_V1, if_pos c_2])
    exact et_stki he1 (hj1 ls (lv_sub hl [0, 1, 2, 3] rfl))
  ·
    refine lv_iload_n hx hb dX5_count_8 rfl (lv_at hl 2 rfl) ?_
    refine lv_if_lt (tgt := 21) hx hb dX5_count_9 (by decide) (fun c_3 => ?_) (fun c_3 => ?_)
    ·
      refine lv_iconst (v := (1 : Int32)) hx hb dX5_count_21 (by decide) ?_
      have he2 : ((1 : Int32) : Int32) = (mX5_count_x_V1 kd who) := (by rw [mX5_count_x_V1, if_neg c_2, if_pos c_3])
      exact et_stki he2 (hj1 ls (lv_sub hl [0, 1, 2, 3] rfl))
    ·
      refine lv_iload_n hx hb dX5_count_12 rfl (lv_at hl 2 rfl) ?_
      refine lv_iconst (v := (2 : Int32)) hx hb dX5_count_13 (by decide) ?_
      refine lv_icmp_ge (tgt := 21) hx hb dX5_count_14 (by decide) (fun c_4 => ?_) (fun c_4 => ?_)
      ·
        refine lv_iconst (v := (1 : Int32)) hx hb dX5_count_21 (by decide) ?_
        have he3 : ((1 : Int32) : Int32) = (mX5_count_x_V1 kd who) := (by rw [mX5_count_x_V1, if_neg c_2, if_neg c_3, if_pos c_4])
        exact et_stki he3 (hj1 ls (lv_sub hl [0, 1, 2, 3] rfl))
      ·
        refine lv_iconst (v := (0 : Int32)) hx hb dX5_count_17 (by decide) ?_
        refine lv_goto (tgt := 22) hx hb dX5_count_18 (by decide) ?_
        have he4 : ((0 : Int32) : Int32) = (mX5_count_x_V1 kd who) := (by rw [mX5_count_x_V1, if_neg c_2, if_neg c_3, if_neg c_4])
        exact et_stki he4 (hj1 ls (lv_sub hl [0, 1, 2, 3] rfl))

def mX5_find_x_V1 (kd : Int32) (who : Int32) : Int32 :=
  if (zI (mX5_isKind kd)) = 0 then
    (1 : Int32)
  else
    if who < 0 then
      (1 : Int32)
    else
      if (2 : Int32) ≤ who then
        (1 : Int32)
      else
        (0 : Int32)
def mX5_find_x (tb : Nat → Int64) (gr : Nat → Int32) (kd : Int32) (who : Int32) : Int32 × Int32 × (Nat → Int64) × (Nat → Int32) × (Nat → Int32) :=
  ((0 : Int32), (mX5_find_x_V1 kd who), tb, gr, (fun _ => (0 : Int32)))
theorem et_findX {kd who : Int32} (hK : zI (mX5_isKind kd) = 0) : ¬ mX5_find_x_V1 kd who ≤ 0 := by
  unfold mX5_find_x_V1
  rw [if_pos hK]
  decide
set_option maxHeartbeats 4000000 in
set_option maxRecDepth 100000 in
theorem c_X5_find_x (l : Launch) (g : et_G) (md : Nat) (r1 : Nat) (r2 : Nat) (r3 : Nat) (r4 : Nat) (mF : Int32) (mR : Int32) (th : Int32) (tb : Nat → Int64) (gr : Nat → Int32) (mt : Bool) (mk : Int32) (mw : Int32) (mm : Int32) (mb : Int32) (ms : Int32) (ml : Nat → Int32) (my : Int32) (kd : Int32) (who : Int32) (nn : Int32) (ix : Int32) (hF : et_b8 mF) (hR : et_b8 mR) (hK : zI (mX5_isKind kd) = 0) : Met l yX5_find (Cond.code yX5_find cX5_find 7 (some (.int)) :: W0) ({ frames := 1, cells := 0, slots := 0, locals := 20 } : Room) (et_PcW g ([(md, .inr (5, [.int th, .int mF, .int mR, .ref r1, .ref r2, .ref r3, .int (zI mt), .int mk, .int mw, .int mm, .int mb, .int ms, .ref r4, .int my])), (r1, .inl (gJ g, 327680, .inr (.inl tb))), (r2, .inl (gZ g, 6, .inl (fun _ => (0 : Int32)))), (r3, .inl (gI g, 6, .inl gr)), (r4, .inl (gI g, 64, .inl ml))]) [.ref md, .int kd, .int who, .int nn, .int ix]) (et_QW g ([(md, .inr (5, [.int th, .int mF, .int mR, .ref r1, .ref r2, .ref r3, .int (zI mt), .int mk, .int mw, .int mm, .int mb, .int ms, .ref r4, .int my])), (r1, .inl (gJ g, 327680, .inr (.inl tb))), (r2, .inl (gZ g, 6, .inl (fun _ => (0 : Int32)))), (r3, .inl (gI g, 6, .inl gr)), (r4, .inl (gI g, 64, .inl ml))]) ([(md, .inr (5, [.int ((mX5_find_x tb gr kd who).2.1), .int mF, .int mR, .ref r1, .ref r2, .ref r3, .int (zI mt), .int mk, .int mw, .int mm, .int mb, .int ms, .ref r4, .int my])), (r1, .inl (gJ g, 327680, .inr (.inl ((mX5_find_x tb gr kd who).2.2.1)))), (r2, .inl (gZ g, 6, .inl ((mX5_find_x tb gr kd who).2.2.2.2))), (r3, .inl (gI g, 6, .inl ((mX5_find_x tb gr kd who).2.2.2.1))), (r4, .inl (gI g, 64, .inl ml))]) (some (.int ((mX5_find_x tb gr kd who).1)))) 0 0 (et_ad ([(md, .inr (5, [.int th, .int mF, .int mR, .ref r1, .ref r2, .ref r3, .int (zI mt), .int mk, .int mw, .int mm, .int mb, .int ms, .ref r4, .int my])), (r1, .inl (gJ g, 327680, .inr (.inl tb))), (r2, .inl (gZ g, 6, .inl (fun _ => (0 : Int32)))), (r3, .inl (gI g, 6, .inl gr)), (r4, .inl (gI g, 64, .inl ml))])) := by
  refine et_startW (by decide) rfl (Nat.le_of_ble_eq_true rfl) ?_
  intro p e s m args below meth c hx hb hr hts0 hown hlocks hml hP hC hD hS ls hl
  have hts : ∀ w ∈ W0, w.before args s = true := fun w h => hts0 w (List.mem_cons_of_mem _ h)
  have hown : s.vm.findClass RX5 = some m.cls := hown
  have hl : lv_has ls 7 [(0, .ref md), (1, .int kd), (2, .int who), (3, .int nn), (4, .int ix)] := hl
  refine lv_aload_n hx hb dX5_find_0 rfl (lv_at hl 0 rfl) ?_
  have hj1 : ∀ ls : Array Slot, lv_has ls 7 [(0, .ref md), (1, .int kd), (2, .int who), (3, .int nn), (4, .int ix)] → W p l e ({ frames := 1, cells := 0, slots := 0, locals := 20 } : Room) s m args below meth c s.heap [] 0 0 (MQ below (et_QW g ([(md, .inr (5, [.int th, .int mF, .int mR, .ref r1, .ref r2, .ref r3, .int (zI mt), .int mk, .int mw, .int mm, .int mb, .int ms, .ref r4, .int my])), (r1, .inl (gJ g, 327680, .inr (.inl tb))), (r2, .inl (gZ g, 6, .inl (fun _ => (0 : Int32)))), (r3, .inl (gI g, 6, .inl gr)), (r4, .inl (gI g, 64, .inl ml))]) ([(md, .inr (5, [.int ((mX5_find_x tb gr kd who).2.1), .int mF, .int mR, .ref r1, .ref r2, .ref r3, .int (zI mt), .int mk, .int mw, .int mm, .int mb, .int ms, .ref r4, .int my])), (r1, .inl (gJ g, 327680, .inr (.inl ((mX5_find_x tb gr kd who).2.2.1)))), (r2, .inl (gZ g, 6, .inl ((mX5_find_x tb gr kd who).2.2.2.2))), (r3, .inl (gI g, 6, .inl ((mX5_find_x tb gr kd who).2.2.2.1))), (r4, .inl (gI g, 64, .inl ml))]) (some (.int ((mX5_find_x tb gr kd who).1)))) args s 0 0 (et_ad ([(md, .inr (5, [.int th, .int mF, .int mR, .ref r1, .ref r2, .ref r3, .int (zI mt), .int mk, .int mw, .int mm, .int mb, .int ms, .ref r4, .int my])), (r1, .inl (gJ g, 327680, .inr (.inl tb))), (r2, .inl (gZ g, 6, .inl (fun _ => (0 : Int32)))), (r3, .inl (gI g, 6, .inl gr)), (r4, .inl (gI g, 64, .inl ml))]))) (F0 m 22 ls [.int (mX5_find_x_V1 kd who), .ref md]) := by
    intro ls hl
    refine va_put (D := gD g) (ci := 5) (v := .int (mX5_find_x_V1 kd who)) (ty := .int) (C := RX5) (T := TX5) (N := 14) hx hb hts inW_X5 tyX5 tyX5_ok nmX5 hown hC.1 hP hD hS 0 rfl rfl 0 (by decide) (hts _ w_733) (fun _ h9 => h9) rfl (by decide +kernel) rfl rfl (Nat.le_of_ble_eq_true rfl) dX5_find_22 (fun H locs hP hD hS => ?_)
    have hP : va_P (gD g) vwCl ([(md, .inr (5, [.int (mX5_find_x_V1 kd who), .int mF, .int mR, .ref r1, .ref r2, .ref r3, .int (zI mt), .int mk, .int mw, .int mm, .int mb, .int ms, .ref r4, .int my])), (r1, .inl (gJ g, 327680, .inr (.inl tb))), (r2, .inl (gZ g, 6, .inl (fun _ => (0 : Int32)))), (r3, .inl (gI g, 6, .inl gr)), (r4, .inl (gI g, 64, .inl ml))]) H := hP
    have hD : va_D (et_ad ([(md, .inr (5, [.int th, .int mF, .int mR, .ref r1, .ref r2, .ref r3, .int (zI mt), .int mk, .int mw, .int mm, .int mb, .int ms, .ref r4, .int my])), (r1, .inl (gJ g, 327680, .inr (.inl tb))), (r2, .inl (gZ g, 6, .inl (fun _ => (0 : Int32)))), (r3, .inl (gI g, 6, .inl gr)), (r4, .inl (gI g, 64, .inl ml))])) ([(md, .inr (5, [.int (mX5_find_x_V1 kd who), .int mF, .int mR, .ref r1, .ref r2, .ref r3, .int (zI mt), .int mk, .int mw, .int mm, .int mb, .int ms, .ref r4, .int my])), (r1, .inl (gJ g, 327680, .inr (.inl tb))), (r2, .inl (gZ g, 6, .inl (fun _ => (0 : Int32)))), (r3, .inl (gI g, 6, .inl gr)), (r4, .inl (gI g, 64, .inl ml))]) := hD
    refine lv_aload_n hx hb dX5_find_25 rfl (lv_at hl 0 rfl) ?_
    refine va_get (D := gD g) (ci := 5) (v := .int (mX5_find_x_V1 kd who)) (C := RX5) (T := TX5) (N := 14) hx hb hts inW_X5 hown hC.1 hP 0 rfl rfl 0 (by decide) (hts _ w_733) (fun _ h9 => h9) rfl dX5_find_26 ?_
    refine lv_if_le (tgt := 34) hx hb dX5_find_29 (by decide) (fun c_1 => ?_) (fun c_1 => ?_)
    · exact absurd c_1 (et_findX hK)
    refine lv_iconst (v := (0 : Int32)) hx hb dX5_find_32 (by decide) ?_
    have hfin : ((0 : Int32), (mX5_find_x_V1 kd who), tb, gr, (fun _ => (0 : Int32))) = (mX5_find_x tb gr kd who) := (by rw [mX5_find_x])
    exact et_iretW hx hb hr hlocks dX5_find_33 hP hS (by rw [← hfin]) ((by rw [← hfin]))
  refine lv_iload_n hx hb dX5_find_1 rfl (lv_at hl 1 rfl) ?_
  refine et_callP1 (v := .int (zI (mX5_isKind kd))) (va_runS (As := [.int kd]) (rest := [.ref md]) ⟨hx, hb, hml, hown, hts⟩ (c_X5_isKind l g kd) (va_cwS 1 hts (W0_gS w_789 w_790 w_82 w_791) rfl rfl rfl (by decide +kernel) ⟨Nat.le_of_ble_eq_true rfl, Nat.le_of_ble_eq_true rfl⟩) (et_preS hP hC [] rfl) rfl rfl hl.1 rfl (lv_room (Nat.le_of_ble_eq_true rfl)) dX5_find_2 ⟨Nat.le_of_ble_eq_true rfl, Nat.le_of_ble_eq_true rfl⟩) ?_
  refine lv_if_eq (tgt := 21) hx hb dX5_find_5 (by decide) (fun c_2 => ?_) (fun c_2 => ?_)
  ·
    refine lv_iconst (v := (1 : Int32)) hx hb dX5_find_21 (by decide) ?_
    have he1 : ((1 : Int32) : Int32) = (mX5_find_x_V1 kd who) := (by rw [mX5_find_x_V1, if_pos c_2])
    exact et_stki he1 (hj1 ls (lv_sub hl [0, 1, 2, 3, 4] rfl))
  ·
    refine lv_iload_n hx hb dX5_find_8 rfl (lv_at hl 2 rfl) ?_
    refine lv_if_lt (tgt := 21) hx hb dX5_find_9 (by decide) (fun c_3 => ?_) (fun c_3 => ?_)
    ·
      refine lv_iconst (v := (1 : Int32)) hx hb dX5_find_21 (by decide) ?_
      have he2 : ((1 : Int32) : Int32) = (mX5_find_x_V1 kd who) := (by rw [mX5_find_x_V1, if_neg c_2, if_pos c_3])
      exact et_stki he2 (hj1 ls (lv_sub hl [0, 1, 2, 3, 4] rfl))
    ·
      refine lv_iload_n hx hb dX5_find_12 rfl (lv_at hl 2 rfl) ?_
      refine lv_iconst (v := (2 : Int32)) hx hb dX5_find_13 (by decide) ?_
      refine lv_icmp_ge (tgt := 21) hx hb dX5_find_14 (by decide) (fun c_4 => ?_) (fun c_4 => ?_)
      ·
        refine lv_iconst (v := (1 : Int32)) hx hb dX5_find_21 (by decide) ?_
        have he3 : ((1 : Int32) : Int32) = (mX5_find_x_V1 kd who) := (by rw [mX5_find_x_V1, if_neg c_2, if_neg c_3, if_pos c_4])
        exact et_stki he3 (hj1 ls (lv_sub hl [0, 1, 2, 3, 4] rfl))
      ·
        refine lv_iconst (v := (0 : Int32)) hx hb dX5_find_17 (by decide) ?_
        refine lv_goto (tgt := 22) hx hb dX5_find_18 (by decide) ?_
        have he4 : ((0 : Int32) : Int32) = (mX5_find_x_V1 kd who) := (by rw [mX5_find_x_V1, if_neg c_2, if_neg c_3, if_neg c_4])
        exact et_stki he4 (hj1 ls (lv_sub hl [0, 1, 2, 3, 4] rfl))

def mX5_longest_x_V1 (kd : Int32) : Int32 :=
  if (zI (mX5_isKind kd)) = 0 then
    (1 : Int32)
  else
    (0 : Int32)
def mX5_longest_x (tb : Nat → Int64) (gr : Nat → Int32) (kd : Int32) : Int32 × Int32 × (Nat → Int64) × (Nat → Int32) × (Nat → Int32) :=
  ((0 : Int32), (mX5_longest_x_V1 kd), tb, gr, (fun _ => (0 : Int32)))
theorem et_longX {kd : Int32} (hK : zI (mX5_isKind kd) = 0) : ¬ mX5_longest_x_V1 kd ≤ 0 := by
  unfold mX5_longest_x_V1
  rw [if_pos hK]
  decide
set_option maxHeartbeats 4000000 in
set_option maxRecDepth 100000 in
theorem c_X5_longest_x (l : Launch) (g : et_G) (md : Nat) (r1 : Nat) (r2 : Nat) (r3 : Nat) (r4 : Nat) (mF : Int32) (mR : Int32) (th : Int32) (tb : Nat → Int64) (gr : Nat → Int32) (mt : Bool) (mk : Int32) (mw : Int32) (mm : Int32) (mb : Int32) (ms : Int32) (ml : Nat → Int32) (my : Int32) (kd : Int32) (hF : et_b8 mF) (hR : et_b8 mR) (hK : zI (mX5_isKind kd) = 0) : Met l yX5_longest (Cond.code yX5_longest cX5_longest 2 (some (.int)) :: W0) ({ frames := 1, cells := 0, slots := 0, locals := 20 } : Room) (et_PcW g ([(md, .inr (5, [.int th, .int mF, .int mR, .ref r1, .ref r2, .ref r3, .int (zI mt), .int mk, .int mw, .int mm, .int mb, .int ms, .ref r4, .int my])), (r1, .inl (gJ g, 327680, .inr (.inl tb))), (r2, .inl (gZ g, 6, .inl (fun _ => (0 : Int32)))), (r3, .inl (gI g, 6, .inl gr)), (r4, .inl (gI g, 64, .inl ml))]) [.ref md, .int kd]) (et_QW g ([(md, .inr (5, [.int th, .int mF, .int mR, .ref r1, .ref r2, .ref r3, .int (zI mt), .int mk, .int mw, .int mm, .int mb, .int ms, .ref r4, .int my])), (r1, .inl (gJ g, 327680, .inr (.inl tb))), (r2, .inl (gZ g, 6, .inl (fun _ => (0 : Int32)))), (r3, .inl (gI g, 6, .inl gr)), (r4, .inl (gI g, 64, .inl ml))]) ([(md, .inr (5, [.int ((mX5_longest_x tb gr kd).2.1), .int mF, .int mR, .ref r1, .ref r2, .ref r3, .int (zI mt), .int mk, .int mw, .int mm, .int mb, .int ms, .ref r4, .int my])), (r1, .inl (gJ g, 327680, .inr (.inl ((mX5_longest_x tb gr kd).2.2.1)))), (r2, .inl (gZ g, 6, .inl ((mX5_longest_x tb gr kd).2.2.2.2))), (r3, .inl (gI g, 6, .inl ((mX5_longest_x tb gr kd).2.2.2.1))), (r4, .inl (gI g, 64, .inl ml))]) (some (.int ((mX5_longest_x tb gr kd).1)))) 0 0 (et_ad ([(md, .inr (5, [.int th, .int mF, .int mR, .ref r1, .ref r2, .ref r3, .int (zI mt), .int mk, .int mw, .int mm, .int mb, .int ms, .ref r4, .int my])), (r1, .inl (gJ g, 327680, .inr (.inl tb))), (r2, .inl (gZ g, 6, .inl (fun _ => (0 : Int32)))), (r3, .inl (gI g, 6, .inl gr)), (r4, .inl (gI g, 64, .inl ml))])) := by
  refine et_startW (by decide) rfl (Nat.le_of_ble_eq_true rfl) ?_
  intro p e s m args below meth c hx hb hr hts0 hown hlocks hml hP hC hD hS ls hl
  have hts : ∀ w ∈ W0, w.before args s = true := fun w h => hts0 w (List.mem_cons_of_mem _ h)
  have hown : s.vm.findClass RX5 = some m.cls := hown
  have hl : lv_has ls 2 [(0, .ref md), (1, .int kd)] := hl
  refine lv_aload_n hx hb dX5_longest_0 rfl (lv_at hl 0 rfl) ?_
  have hj1 : ∀ ls : Array Slot, lv_has ls 2 [(0, .ref md), (1, .int kd)] → W p l e ({ frames := 1, cells := 0, slots := 0, locals := 20 } : Room) s m args below meth c s.heap [] 0 0 (MQ below (et_QW g ([(md, .inr (5, [.int th, .int mF, .int mR, .ref r1, .ref r2, .ref r3, .int (zI mt), .int mk, .int mw, .int mm, .int mb, .int ms, .ref r4, .int my])), (r1, .inl (gJ g, 327680, .inr (.inl tb))), (r2, .inl (gZ g, 6, .inl (fun _ => (0 : Int32)))), (r3, .inl (gI g, 6, .inl gr)), (r4, .inl (gI g, 64, .inl ml))]) ([(md, .inr (5, [.int ((mX5_longest_x tb gr kd).2.1), .int mF, .int mR, .ref r1, .ref r2, .ref r3, .int (zI mt), .int mk, .int mw, .int mm, .int mb, .int ms, .ref r4, .int my])), (r1, .inl (gJ g, 327680, .inr (.inl ((mX5_longest_x tb gr kd).2.2.1)))), (r2, .inl (gZ g, 6, .inl ((mX5_longest_x tb gr kd).2.2.2.2))), (r3, .inl (gI g, 6, .inl ((mX5_longest_x tb gr kd).2.2.2.1))), (r4, .inl (gI g, 64, .inl ml))]) (some (.int ((mX5_longest_x tb gr kd).1)))) args s 0 0 (et_ad ([(md, .inr (5, [.int th, .int mF, .int mR, .ref r1, .ref r2, .ref r3, .int (zI mt), .int mk, .int mw, .int mm, .int mb, .int ms, .ref r4, .int my])), (r1, .inl (gJ g, 327680, .inr (.inl tb))), (r2, .inl (gZ g, 6, .inl (fun _ => (0 : Int32)))), (r3, .inl (gI g, 6, .inl gr)), (r4, .inl (gI g, 64, .inl ml))]))) (F0 m 13 ls [.int (mX5_longest_x_V1 kd), .ref md]) := by
    intro ls hl
    refine va_put (D := gD g) (ci := 5) (v := .int (mX5_longest_x_V1 kd)) (ty := .int) (C := RX5) (T := TX5) (N := 14) hx hb hts inW_X5 tyX5 tyX5_ok nmX5 hown hC.1 hP hD hS 0 rfl rfl 0 (by decide) (hts _ w_733) (fun _ h9 => h9) rfl (by decide +kernel) rfl rfl (Nat.le_of_ble_eq_true rfl) dX5_longest_13 (fun H locs hP hD hS => ?_)
    have hP : va_P (gD g) vwCl ([(md, .inr (5, [.int (mX5_longest_x_V1 kd), .int mF, .int mR, .ref r1, .ref r2, .ref r3, .int (zI mt), .int mk, .int mw, .int mm, .int mb, .int ms, .ref r4, .int my])), (r1, .inl (gJ g, 327680, .inr (.inl tb))), (r2, .inl (gZ g, 6, .inl (fun _ => (0 : Int32)))), (r3, .inl (gI g, 6, .inl gr)), (r4, .inl (gI g, 64, .inl ml))]) H := hP
    have hD : va_D (et_ad ([(md, .inr (5, [.int th, .int mF, .int mR, .ref r1, .ref r2, .ref r3, .int (zI mt), .int mk, .int mw, .int mm, .int mb, .int ms, .ref r4, .int my])), (r1, .inl (gJ g, 327680, .inr (.inl tb))), (r2, .inl (gZ g, 6, .inl (fun _ => (0 : Int32)))), (r3, .inl (gI g, 6, .inl gr)), (r4, .inl (gI g, 64, .inl ml))])) ([(md, .inr (5, [.int (mX5_longest_x_V1 kd), .int mF, .int mR, .ref r1, .ref r2, .ref r3, .int (zI mt), .int mk, .int mw, .int mm, .int mb, .int ms, .ref r4, .int my])), (r1, .inl (gJ g, 327680, .inr (.inl tb))), (r2, .inl (gZ g, 6, .inl (fun _ => (0 : Int32)))), (r3, .inl (gI g, 6, .inl gr)), (r4, .inl (gI g, 64, .inl ml))]) := hD
    refine lv_aload_n hx hb dX5_longest_16 rfl (lv_at hl 0 rfl) ?_
    refine va_get (D := gD g) (ci := 5) (v := .int (mX5_longest_x_V1 kd)) (C := RX5) (T := TX5) (N := 14) hx hb hts inW_X5 hown hC.1 hP 0 rfl rfl 0 (by decide) (hts _ w_733) (fun _ h9 => h9) rfl dX5_longest_17 ?_
    refine lv_if_le (tgt := 25) hx hb dX5_longest_20 (by decide) (fun c_1 => ?_) (fun c_1 => ?_)
    · exact absurd c_1 (et_longX hK)
    refine lv_iconst (v := (0 : Int32)) hx hb dX5_longest_23 (by decide) ?_
    have hfin : ((0 : Int32), (mX5_longest_x_V1 kd), tb, gr, (fun _ => (0 : Int32))) = (mX5_longest_x tb gr kd) := (by rw [mX5_longest_x])
    exact et_iretW hx hb hr hlocks dX5_longest_24 hP hS (by rw [← hfin]) ((by rw [← hfin]))
  refine lv_iload_n hx hb dX5_longest_1 rfl (lv_at hl 1 rfl) ?_
  refine et_callP1 (v := .int (zI (mX5_isKind kd))) (va_runS (As := [.int kd]) (rest := [.ref md]) ⟨hx, hb, hml, hown, hts⟩ (c_X5_isKind l g kd) (va_cwS 1 hts (W0_gS w_789 w_790 w_82 w_791) rfl rfl rfl (by decide +kernel) ⟨Nat.le_of_ble_eq_true rfl, Nat.le_of_ble_eq_true rfl⟩) (et_preS hP hC [] rfl) rfl rfl hl.1 rfl (lv_room (Nat.le_of_ble_eq_true rfl)) dX5_longest_2 ⟨Nat.le_of_ble_eq_true rfl, Nat.le_of_ble_eq_true rfl⟩) ?_
  refine lv_if_eq (tgt := 12) hx hb dX5_longest_5 (by decide) (fun c_2 => ?_) (fun c_2 => ?_)
  ·
    refine lv_iconst (v := (1 : Int32)) hx hb dX5_longest_12 (by decide) ?_
    have he1 : ((1 : Int32) : Int32) = (mX5_longest_x_V1 kd) := (by rw [mX5_longest_x_V1, if_pos c_2])
    exact et_stki he1 (hj1 ls (lv_sub hl [0, 1] rfl))
  ·
    refine lv_iconst (v := (0 : Int32)) hx hb dX5_longest_8 (by decide) ?_
    refine lv_goto (tgt := 13) hx hb dX5_longest_9 (by decide) ?_
    have he2 : ((0 : Int32) : Int32) = (mX5_longest_x_V1 kd) := (by rw [mX5_longest_x_V1, if_neg c_2])
    exact et_stki he2 (hj1 ls (lv_sub hl [0, 1] rfl))

def mX5_set (mF : Int32) (mR : Int32) (mt : Bool) (mk : Int32) (mw : Int32) (mm : Int32) (mb : Int32) (ms : Int32) (kd : Int32) (ww : Int32) (wm : Int32) (wb : Int32) (who : Int32) : Bool × Int32 × Bool × Int32 × Int32 × Int32 × Int32 × Int32 :=
  if (zI (mX5_isPosition mF mR kd ww wm wb who)) = 0 then
    (false, (0 : Int32), mt, mk, mw, mm, mb, ms)
  else
    (true, (0 : Int32), true, kd, ww, wm, wb, who)
set_option maxHeartbeats 4000000 in
set_option maxRecDepth 100000 in
theorem c_X5_set (l : Launch) (g : et_G) (md : Nat) (r1 : Nat) (r2 : Nat) (r3 : Nat) (r4 : Nat) (mF : Int32) (mR : Int32) (th : Int32) (tb : Nat → Int64) (bu : Nat → Int32) (gr : Nat → Int32) (mt : Bool) (mk : Int32) (mw : Int32) (mm : Int32) (mb : Int32) (ms : Int32) (ml : Nat → Int32) (my : Int32) (kd : Int32) (ww : Int32) (wm : Int32) (wb : Int32) (who : Int32) (hF : et_b8 mF) (hR : et_b8 mR) : Met l yX5_set (Cond.code yX5_set cX5_set 6 (some (.boolean)) :: W0) ({ frames := 3, cells := 0, slots := 0, locals := 80 } : Room) (et_PcW g ([(md, .inr (5, [.int th, .int mF, .int mR, .ref r1, .ref r2, .ref r3, .int (zI mt), .int mk, .int mw, .int mm, .int mb, .int ms, .ref r4, .int my])), (r1, .inl (gJ g, 327680, .inr (.inl tb))), (r2, .inl (gZ g, 6, .inl bu)), (r3, .inl (gI g, 6, .inl gr)), (r4, .inl (gI g, 64, .inl ml))]) [.ref md, .int kd, .int ww, .int wm, .int wb, .int who]) (et_QW g ([(md, .inr (5, [.int th, .int mF, .int mR, .ref r1, .ref r2, .ref r3, .int (zI mt), .int mk, .int mw, .int mm, .int mb, .int ms, .ref r4, .int my])), (r1, .inl (gJ g, 327680, .inr (.inl tb))), (r2, .inl (gZ g, 6, .inl bu)), (r3, .inl (gI g, 6, .inl gr)), (r4, .inl (gI g, 64, .inl ml))]) ([(md, .inr (5, [.int ((mX5_set mF mR mt mk mw mm mb ms kd ww wm wb who).2.1), .int mF, .int mR, .ref r1, .ref r2, .ref r3, .int (zI ((mX5_set mF mR mt mk mw mm mb ms kd ww wm wb who).2.2.1)), .int ((mX5_set mF mR mt mk mw mm mb ms kd ww wm wb who).2.2.2.1), .int ((mX5_set mF mR mt mk mw mm mb ms kd ww wm wb who).2.2.2.2.1), .int ((mX5_set mF mR mt mk mw mm mb ms kd ww wm wb who).2.2.2.2.2.1), .int ((mX5_set mF mR mt mk mw mm mb ms kd ww wm wb who).2.2.2.2.2.2.1), .int ((mX5_set mF mR mt mk mw mm mb ms kd ww wm wb who).2.2.2.2.2.2.2), .ref r4, .int my])), (r1, .inl (gJ g, 327680, .inr (.inl tb))), (r2, .inl (gZ g, 6, .inl bu)), (r3, .inl (gI g, 6, .inl gr)), (r4, .inl (gI g, 64, .inl ml))]) (some (.int (zI ((mX5_set mF mR mt mk mw mm mb ms kd ww wm wb who).1))))) 0 0 (et_ad ([(md, .inr (5, [.int th, .int mF, .int mR, .ref r1, .ref r2, .ref r3, .int (zI mt), .int mk, .int mw, .int mm, .int mb, .int ms, .ref r4, .int my])), (r1, .inl (gJ g, 327680, .inr (.inl tb))), (r2, .inl (gZ g, 6, .inl bu)), (r3, .inl (gI g, 6, .inl gr)), (r4, .inl (gI g, 64, .inl ml))])) := by
  refine et_startW (by decide) rfl (Nat.le_of_ble_eq_true rfl) ?_
  intro p e s m args below meth c hx hb hr hts0 hown hlocks hml hP hC hD hS ls hl
  have hts : ∀ w ∈ W0, w.before args s = true := fun w h => hts0 w (List.mem_cons_of_mem _ h)
  have hown : s.vm.findClass RX5 = some m.cls := hown
  have hl : lv_has ls 6 [(0, .ref md), (1, .int kd), (2, .int ww), (3, .int wm), (4, .int wb), (5, .int who)] := hl
  refine lv_aload_n hx hb dX5_set_0 rfl (lv_at hl 0 rfl) ?_
  refine lv_iconst (v := (0 : Int32)) hx hb dX5_set_1 (by decide) ?_
  refine va_put (D := gD g) (ci := 5) (v := .int (0 : Int32)) (ty := .int) (C := RX5) (T := TX5) (N := 14) hx hb hts inW_X5 tyX5 tyX5_ok nmX5 hown hC.1 hP hD hS 0 rfl rfl 0 (by decide) (hts _ w_733) (fun _ h9 => h9) rfl (by decide +kernel) rfl rfl (Nat.le_of_ble_eq_true rfl) dX5_set_2 (fun H locs hP hD hS => ?_)
  have hP : va_P (gD g) vwCl ([(md, .inr (5, [.int (0 : Int32), .int mF, .int mR, .ref r1, .ref r2, .ref r3, .int (zI mt), .int mk, .int mw, .int mm, .int mb, .int ms, .ref r4, .int my])), (r1, .inl (gJ g, 327680, .inr (.inl tb))), (r2, .inl (gZ g, 6, .inl bu)), (r3, .inl (gI g, 6, .inl gr)), (r4, .inl (gI g, 64, .inl ml))]) H := hP
  have hD : va_D (et_ad ([(md, .inr (5, [.int th, .int mF, .int mR, .ref r1, .ref r2, .ref r3, .int (zI mt), .int mk, .int mw, .int mm, .int mb, .int ms, .ref r4, .int my])), (r1, .inl (gJ g, 327680, .inr (.inl tb))), (r2, .inl (gZ g, 6, .inl bu)), (r3, .inl (gI g, 6, .inl gr)), (r4, .inl (gI g, 64, .inl ml))])) ([(md, .inr (5, [.int (0 : Int32), .int mF, .int mR, .ref r1, .ref r2, .ref r3, .int (zI mt), .int mk, .int mw, .int mm, .int mb, .int ms, .ref r4, .int my])), (r1, .inl (gJ g, 327680, .inr (.inl tb))), (r2, .inl (gZ g, 6, .inl bu)), (r3, .inl (gI g, 6, .inl gr)), (r4, .inl (gI g, 64, .inl ml))]) := hD
  refine lv_aload_n hx hb dX5_set_5 rfl (lv_at hl 0 rfl) ?_
  refine lv_iload_n hx hb dX5_set_6 rfl (lv_at hl 1 rfl) ?_
  refine lv_iload_n hx hb dX5_set_7 rfl (lv_at hl 2 rfl) ?_
  refine lv_iload_n hx hb dX5_set_8 rfl (lv_at hl 3 rfl) ?_
  refine lv_iload hx hb dX5_set_9 (lv_at hl 4 rfl) ?_
  refine lv_iload hx hb dX5_set_11 (lv_at hl 5 rfl) ?_
  refine et_callP1 (v := .int (zI (mX5_isPosition mF mR kd ww wm wb who))) (va_runV (As := [.int kd, .int ww, .int wm, .int wb, .int who]) (rest := []) ⟨hx, hb, hml, hown, hts⟩ (c_X5_isPosition l g md r1 r2 r3 r4 mF mR (0 : Int32) tb bu gr mt mk mw mm mb ms ml my kd ww wm wb who (by assumption) (by assumption)) (cwV 5 hts (W0_gV w_792 w_794 w_51 w_82 w_795) rfl rfl rfl (by decide +kernel) ⟨Nat.le_of_ble_eq_true rfl, Nat.le_of_ble_eq_true rfl⟩) (et_preV hP hC [0, 1, 2, 3, 4] rfl (ci := 5) (q0 := 0) rfl rfl) rfl rfl hl.1 rfl (lv_room (Nat.le_of_ble_eq_true rfl)) dX5_set_13 ⟨Nat.le_of_ble_eq_true rfl, Nat.le_of_ble_eq_true rfl⟩) ?_
  refine lv_if_ne (tgt := 21) hx hb dX5_set_16 (by decide) (fun c_1 => ?_) (fun c_1 => ?_)
  ·
    refine lv_aload_n hx hb dX5_set_21 rfl (lv_at hl 0 rfl) ?_
    refine lv_iconst (v := (1 : Int32)) hx hb dX5_set_22 (by decide) ?_
    refine va_put (D := gD g) (ci := 5) (v := .int (1 : Int32)) (ty := .boolean) (C := RX5) (T := TX5) (N := 14) hx hb hts inW_X5 tyX5 tyX5_ok nmX5 hown hC.1 hP hD hS 0 rfl rfl 6 (by decide) (hts _ w_739) (fun _ h9 => h9) rfl (by decide +kernel) rfl rfl (Nat.le_of_ble_eq_true rfl) dX5_set_23 (fun H locs hP hD hS => ?_)
    have hP : va_P (gD g) vwCl ([(md, .inr (5, [.int (0 : Int32), .int mF, .int mR, .ref r1, .ref r2, .ref r3, .int (zI true), .int mk, .int mw, .int mm, .int mb, .int ms, .ref r4, .int my])), (r1, .inl (gJ g, 327680, .inr (.inl tb))), (r2, .inl (gZ g, 6, .inl bu)), (r3, .inl (gI g, 6, .inl gr)), (r4, .inl (gI g, 64, .inl ml))]) H := hP
    have hD : va_D (et_ad ([(md, .inr (5, [.int th, .int mF, .int mR, .ref r1, .ref r2, .ref r3, .int (zI mt), .int mk, .int mw, .int mm, .int mb, .int ms, .ref r4, .int my])), (r1, .inl (gJ g, 327680, .inr (.inl tb))), (r2, .inl (gZ g, 6, .inl bu)), (r3, .inl (gI g, 6, .inl gr)), (r4, .inl (gI g, 64, .inl ml))])) ([(md, .inr (5, [.int (0 : Int32), .int mF, .int mR, .ref r1, .ref r2, .ref r3, .int (zI true), .int mk, .int mw, .int mm, .int mb, .int ms, .ref r4, .int my])), (r1, .inl (gJ g, 327680, .inr (.inl tb))), (r2, .inl (gZ g, 6, .inl bu)), (r3, .inl (gI g, 6, .inl gr)), (r4, .inl (gI g, 64, .inl ml))]) := hD
    refine lv_aload_n hx hb dX5_set_26 rfl (lv_at hl 0 rfl) ?_
    refine lv_iload_n hx hb dX5_set_27 rfl (lv_at hl 1 rfl) ?_
    refine va_put (D := gD g) (ci := 5) (v := .int kd) (ty := .int) (C := RX5) (T := TX5) (N := 14) hx hb hts inW_X5 tyX5 tyX5_ok nmX5 hown hC.1 hP hD hS 0 rfl rfl 7 (by decide) (hts _ w_740) (fun _ h9 => h9) rfl (by decide +kernel) rfl rfl (Nat.le_of_ble_eq_true rfl) dX5_set_28 (fun H locs hP hD hS => ?_)
    have hP : va_P (gD g) vwCl ([(md, .inr (5, [.int (0 : Int32), .int mF, .int mR, .ref r1, .ref r2, .ref r3, .int (zI true), .int kd, .int mw, .int mm, .int mb, .int ms, .ref r4, .int my])), (r1, .inl (gJ g, 327680, .inr (.inl tb))), (r2, .inl (gZ g, 6, .inl bu)), (r3, .inl (gI g, 6, .inl gr)), (r4, .inl (gI g, 64, .inl ml))]) H := hP
    have hD : va_D (et_ad ([(md, .inr (5, [.int th, .int mF, .int mR, .ref r1, .ref r2, .ref r3, .int (zI mt), .int mk, .int mw, .int mm, .int mb, .int ms, .ref r4, .int my])), (r1, .inl (gJ g, 327680, .inr (.inl tb))), (r2, .inl (gZ g, 6, .inl bu)), (r3, .inl (gI g, 6, .inl gr)), (r4, .inl (gI g, 64, .inl ml))])) ([(md, .inr (5, [.int (0 : Int32), .int mF, .int mR, .ref r1, .ref r2, .ref r3, .int (zI true), .int kd, .int mw, .int mm, .int mb, .int ms, .ref r4, .int my])), (r1, .inl (gJ g, 327680, .inr (.inl tb))), (r2, .inl (gZ g, 6, .inl bu)), (r3, .inl (gI g, 6, .inl gr)), (r4, .inl (gI g, 64, .inl ml))]) := hD
    refine lv_aload_n hx hb dX5_set_31 rfl (lv_at hl 0 rfl) ?_
    refine lv_iload_n hx hb dX5_set_32 rfl (lv_at hl 2 rfl) ?_
    refine va_put (D := gD g) (ci := 5) (v := .int ww) (ty := .int) (C := RX5) (T := TX5) (N := 14) hx hb hts inW_X5 tyX5 tyX5_ok nmX5 hown hC.1 hP hD hS 0 rfl rfl 8 (by decide) (hts _ w_741) (fun _ h9 => h9) rfl (by decide +kernel) rfl rfl (Nat.le_of_ble_eq_true rfl) dX5_set_33 (fun H locs hP hD hS => ?_)
    have hP : va_P (gD g) vwCl ([(md, .inr (5, [.int (0 : Int32), .int mF, .int mR, .ref r1, .ref r2, .ref r3, .int (zI true), .int kd, .int ww, .int mm, .int mb, .int ms, .ref r4, .int my])), (r1, .inl (gJ g, 327680, .inr (.inl tb))), (r2, .inl (gZ g, 6, .inl bu)), (r3, .inl (gI g, 6, .inl gr)), (r4, .inl (gI g, 64, .inl ml))]) H := hP
    have hD : va_D (et_ad ([(md, .inr (5, [.int th, .int mF, .int mR, .ref r1, .ref r2, .ref r3, .int (zI mt), .int mk, .int mw, .int mm, .int mb, .int ms, .ref r4, .int my])), (r1, .inl (gJ g, 327680, .inr (.inl tb))), (r2, .inl (gZ g, 6, .inl bu)), (r3, .inl (gI g, 6, .inl gr)), (r4, .inl (gI g, 64, .inl ml))])) ([(md, .inr (5, [.int (0 : Int32), .int mF, .int mR, .ref r1, .ref r2, .ref r3, .int (zI true), .int kd, .int ww, .int mm, .int mb, .int ms, .ref r4, .int my])), (r1, .inl (gJ g, 327680, .inr (.inl tb))), (r2, .inl (gZ g, 6, .inl bu)), (r3, .inl (gI g, 6, .inl gr)), (r4, .inl (gI g, 64, .inl ml))]) := hD
    refine lv_aload_n hx hb dX5_set_36 rfl (lv_at hl 0 rfl) ?_
    refine lv_iload_n hx hb dX5_set_37 rfl (lv_at hl 3 rfl) ?_
    refine va_put (D := gD g) (ci := 5) (v := .int wm) (ty := .int) (C := RX5) (T := TX5) (N := 14) hx hb hts inW_X5 tyX5 tyX5_ok nmX5 hown hC.1 hP hD hS 0 rfl rfl 9 (by decide) (hts _ w_742) (fun _ h9 => h9) rfl (by decide +kernel) rfl rfl (Nat.le_of_ble_eq_true rfl) dX5_set_38 (fun H locs hP hD hS => ?_)
    have hP : va_P (gD g) vwCl ([(md, .inr (5, [.int (0 : Int32), .int mF, .int mR, .ref r1, .ref r2, .ref r3, .int (zI true), .int kd, .int ww, .int wm, .int mb, .int ms, .ref r4, .int my])), (r1, .inl (gJ g, 327680, .inr (.inl tb))), (r2, .inl (gZ g, 6, .inl bu)), (r3, .inl (gI g, 6, .inl gr)), (r4, .inl (gI g, 64, .inl ml))]) H := hP
    have hD : va_D (et_ad ([(md, .inr (5, [.int th, .int mF, .int mR, .ref r1, .ref r2, .ref r3, .int (zI mt), .int mk, .int mw, .int mm, .int mb, .int ms, .ref r4, .int my])), (r1, .inl (gJ g, 327680, .inr (.inl tb))), (r2, .inl (gZ g, 6, .inl bu)), (r3, .inl (gI g, 6, .inl gr)), (r4, .inl (gI g, 64, .inl ml))])) ([(md, .inr (5, [.int (0 : Int32), .int mF, .int mR, .ref r1, .ref r2, .ref r3, .int (zI true), .int kd, .int ww, .int wm, .int mb, .int ms, .ref r4, .int my])), (r1, .inl (gJ g, 327680, .inr (.inl tb))), (r2, .inl (gZ g, 6, .inl bu)), (r3, .inl (gI g, 6, .inl gr)), (r4, .inl (gI g, 64, .inl ml))]) := hD
    refine lv_aload_n hx hb dX5_set_41 rfl (lv_at hl 0 rfl) ?_
    refine lv_iload hx hb dX5_set_42 (lv_at hl 4 rfl) ?_
    refine va_put (D := gD g) (ci := 5) (v := .int wb) (ty := .int) (C := RX5) (T := TX5) (N := 14) hx hb hts inW_X5 tyX5 tyX5_ok nmX5 hown hC.1 hP hD hS 0 rfl rfl 10 (by decide) (hts _ w_743) (fun _ h9 => h9) rfl (by decide +kernel) rfl rfl (Nat.le_of_ble_eq_true rfl) dX5_set_44 (fun H locs hP hD hS => ?_)
    have hP : va_P (gD g) vwCl ([(md, .inr (5, [.int (0 : Int32), .int mF, .int mR, .ref r1, .ref r2, .ref r3, .int (zI true), .int kd, .int ww, .int wm, .int wb, .int ms, .ref r4, .int my])), (r1, .inl (gJ g, 327680, .inr (.inl tb))), (r2, .inl (gZ g, 6, .inl bu)), (r3, .inl (gI g, 6, .inl gr)), (r4, .inl (gI g, 64, .inl ml))]) H := hP
    have hD : va_D (et_ad ([(md, .inr (5, [.int th, .int mF, .int mR, .ref r1, .ref r2, .ref r3, .int (zI mt), .int mk, .int mw, .int mm, .int mb, .int ms, .ref r4, .int my])), (r1, .inl (gJ g, 327680, .inr (.inl tb))), (r2, .inl (gZ g, 6, .inl bu)), (r3, .inl (gI g, 6, .inl gr)), (r4, .inl (gI g, 64, .inl ml))])) ([(md, .inr (5, [.int (0 : Int32), .int mF, .int mR, .ref r1, .ref r2, .ref r3, .int (zI true), .int kd, .int ww, .int wm, .int wb, .int ms, .ref r4, .int my])), (r1, .inl (gJ g, 327680, .inr (.inl tb))), (r2, .inl (gZ g, 6, .inl bu)), (r3, .inl (gI g, 6, .inl gr)), (r4, .inl (gI g, 64, .inl ml))]) := hD
    refine lv_aload_n hx hb dX5_set_47 rfl (lv_at hl 0 rfl) ?_
    refine lv_iload hx hb dX5_set_48 (lv_at hl 5 rfl) ?_
    refine va_put (D := gD g) (ci := 5) (v := .int who) (ty := .int) (C := RX5) (T := TX5) (N := 14) hx hb hts inW_X5 tyX5 tyX5_ok nmX5 hown hC.1 hP hD hS 0 rfl rfl 11 (by decide) (hts _ w_744) (fun _ h9 => h9) rfl (by decide +kernel) rfl rfl (Nat.le_of_ble_eq_true rfl) dX5_set_50 (fun H locs hP hD hS => ?_)
    have hP : va_P (gD g) vwCl ([(md, .inr (5, [.int (0 : Int32), .int mF, .int mR, .ref r1, .ref r2, .ref r3, .int (zI true), .int kd, .int ww, .int wm, .int wb, .int who, .ref r4, .int my])), (r1, .inl (gJ g, 327680, .inr (.inl tb))), (r2, .inl (gZ g, 6, .inl bu)), (r3, .inl (gI g, 6, .inl gr)), (r4, .inl (gI g, 64, .inl ml))]) H := hP
    have hD : va_D (et_ad ([(md, .inr (5, [.int th, .int mF, .int mR, .ref r1, .ref r2, .ref r3, .int (zI mt), .int mk, .int mw, .int mm, .int mb, .int ms, .ref r4, .int my])), (r1, .inl (gJ g, 327680, .inr (.inl tb))), (r2, .inl (gZ g, 6, .inl bu)), (r3, .inl (gI g, 6, .inl gr)), (r4, .inl (gI g, 64, .inl ml))])) ([(md, .inr (5, [.int (0 : Int32), .int mF, .int mR, .ref r1, .ref r2, .ref r3, .int (zI true), .int kd, .int ww, .int wm, .int wb, .int who, .ref r4, .int my])), (r1, .inl (gJ g, 327680, .inr (.inl tb))), (r2, .inl (gZ g, 6, .inl bu)), (r3, .inl (gI g, 6, .inl gr)), (r4, .inl (gI g, 64, .inl ml))]) := hD
    refine lv_iconst (v := (1 : Int32)) hx hb dX5_set_53 (by decide) ?_
    have hfin : (true, (0 : Int32), true, kd, ww, wm, wb, who) = (mX5_set mF mR mt mk mw mm mb ms kd ww wm wb who) := (by rw [mX5_set, if_neg c_1])
    exact et_zretW hx hb hr hlocks dX5_set_54 hP hS (by rw [← hfin]) (congrArg zI (congrArg Prod.fst hfin))
  ·
    refine lv_iconst (v := (0 : Int32)) hx hb dX5_set_19 (by decide) ?_
    have hfin : (false, (0 : Int32), mt, mk, mw, mm, mb, ms) = (mX5_set mF mR mt mk mw mm mb ms kd ww wm wb who) := (by rw [mX5_set, if_pos c_1])
    exact et_zretW hx hb hr hlocks dX5_set_20 hP hS (by rw [← hfin]) (congrArg zI (congrArg Prod.fst hfin))

set_option maxHeartbeats 4000000 in
set_option maxRecDepth 100000 in
theorem c_X5_findMoves_0 (l : Launch) (g : et_G) (md : Nat) (r1 : Nat) (r2 : Nat) (r3 : Nat) (r4 : Nat) (mF : Int32) (mR : Int32) (th : Int32) (tb : Nat → Int64) (bu : Nat → Int32) (gr : Nat → Int32) (mk : Int32) (mw : Int32) (mm : Int32) (mb : Int32) (ms : Int32) (ml : Nat → Int32) (my : Int32)  : Met l yX5_findMoves (Cond.code yX5_findMoves cX5_findMoves 7 none :: W0) ({ frames := 0, cells := 0, slots := 0, locals := 0 } : Room) (et_PcW g ([(md, .inr (5, [.int th, .int mF, .int mR, .ref r1, .ref r2, .ref r3, .int (zI false), .int mk, .int mw, .int mm, .int mb, .int ms, .ref r4, .int my])), (r1, .inl (gJ g, 327680, .inr (.inl tb))), (r2, .inl (gZ g, 6, .inl bu)), (r3, .inl (gI g, 6, .inl gr)), (r4, .inl (gI g, 64, .inl ml))]) [.ref md]) (et_QW g ([(md, .inr (5, [.int th, .int mF, .int mR, .ref r1, .ref r2, .ref r3, .int (zI false), .int mk, .int mw, .int mm, .int mb, .int ms, .ref r4, .int my])), (r1, .inl (gJ g, 327680, .inr (.inl tb))), (r2, .inl (gZ g, 6, .inl bu)), (r3, .inl (gI g, 6, .inl gr)), (r4, .inl (gI g, 64, .inl ml))]) ([(md, .inr (5, [.int th, .int mF, .int mR, .ref r1, .ref r2, .ref r3, .int (zI false), .int mk, .int mw, .int mm, .int mb, .int ms, .ref r4, .int (0 : Int32)])), (r1, .inl (gJ g, 327680, .inr (.inl tb))), (r2, .inl (gZ g, 6, .inl bu)), (r3, .inl (gI g, 6, .inl gr)), (r4, .inl (gI g, 64, .inl ml))]) none) 0 0 (et_ad ([(md, .inr (5, [.int th, .int mF, .int mR, .ref r1, .ref r2, .ref r3, .int (zI false), .int mk, .int mw, .int mm, .int mb, .int ms, .ref r4, .int my])), (r1, .inl (gJ g, 327680, .inr (.inl tb))), (r2, .inl (gZ g, 6, .inl bu)), (r3, .inl (gI g, 6, .inl gr)), (r4, .inl (gI g, 64, .inl ml))])) := by
  refine et_startW (by decide) rfl (Nat.le_of_ble_eq_true rfl) ?_
  intro p e s m args below meth c hx hb hr hts0 hown hlocks hml hP hC hD hS ls hl
  have hts : ∀ w ∈ W0, w.before args s = true := fun w h => hts0 w (List.mem_cons_of_mem _ h)
  have hown : s.vm.findClass RX5 = some m.cls := hown
  have hl : lv_has ls 7 [(0, .ref md)] := hl
  refine lv_aload_n hx hb dX5_findMoves_0 rfl (lv_at hl 0 rfl) ?_
  refine lv_iconst (v := (0 : Int32)) hx hb dX5_findMoves_1 (by decide) ?_
  refine va_put (D := gD g) (ci := 5) (v := .int (0 : Int32)) (ty := .int) (C := RX5) (T := TX5) (N := 14) hx hb hts inW_X5 tyX5 tyX5_ok nmX5 hown hC.1 hP hD hS 0 rfl rfl 13 (by decide) (hts _ w_746) (fun _ h9 => h9) rfl (by decide +kernel) rfl rfl (Nat.le_of_ble_eq_true rfl) dX5_findMoves_2 (fun H locs hP hD hS => ?_)
  have hP : va_P (gD g) vwCl ([(md, .inr (5, [.int th, .int mF, .int mR, .ref r1, .ref r2, .ref r3, .int (zI false), .int mk, .int mw, .int mm, .int mb, .int ms, .ref r4, .int (0 : Int32)])), (r1, .inl (gJ g, 327680, .inr (.inl tb))), (r2, .inl (gZ g, 6, .inl bu)), (r3, .inl (gI g, 6, .inl gr)), (r4, .inl (gI g, 64, .inl ml))]) H := hP
  have hD : va_D (et_ad ([(md, .inr (5, [.int th, .int mF, .int mR, .ref r1, .ref r2, .ref r3, .int (zI false), .int mk, .int mw, .int mm, .int mb, .int ms, .ref r4, .int my])), (r1, .inl (gJ g, 327680, .inr (.inl tb))), (r2, .inl (gZ g, 6, .inl bu)), (r3, .inl (gI g, 6, .inl gr)), (r4, .inl (gI g, 64, .inl ml))])) ([(md, .inr (5, [.int th, .int mF, .int mR, .ref r1, .ref r2, .ref r3, .int (zI false), .int mk, .int mw, .int mm, .int mb, .int ms, .ref r4, .int (0 : Int32)])), (r1, .inl (gJ g, 327680, .inr (.inl tb))), (r2, .inl (gZ g, 6, .inl bu)), (r3, .inl (gI g, 6, .inl gr)), (r4, .inl (gI g, 64, .inl ml))]) := hD
  refine lv_iconst (v := (0 : Int32)) hx hb dX5_findMoves_5 (by decide) ?_
  refine lv_istore_n (lv' := [(1, .int (0 : Int32)), (0, .ref md)]) hx hb dX5_findMoves_6 rfl hl (by decide) rfl (fun ls hl => ?_)
  refine lv_iload_n hx hb dX5_findMoves_7 rfl (lv_at hl 0 rfl) ?_
  refine lv_bipush (v := (64 : Int32)) hx hb dX5_findMoves_8 (by decide) ?_
  refine lv_icmp_ge (tgt := 278) hx hb dX5_findMoves_10 (by decide) (fun c_1 => ?_) (fun c_1 => ?_)
  · exact absurd c_1 (by decide)
  refine lv_aload_n hx hb dX5_findMoves_13 rfl (lv_at hl 1 rfl) ?_
  refine va_get (D := gD g) (ci := 5) (v := .int (zI false)) (C := RX5) (T := TX5) (N := 14) hx hb hts inW_X5 hown hC.1 hP 0 rfl rfl 6 (by decide) (hts _ w_739) (fun _ h9 => h9) rfl dX5_findMoves_14 ?_
  refine lv_if_eq (tgt := 278) hx hb dX5_findMoves_17 (by decide) (fun c_2 => ?_) (fun c_2 => ?_)
  rotate_left
  · exact absurd c_2 (by decide)
  exact et_vretW hx hb hr hlocks dX5_findMoves_278 hP hS rfl

set_option maxHeartbeats 4000000 in
set_option maxRecDepth 100000 in
theorem c_X5_about_0 (l : Launch) (g : et_G) (md : Nat) (r1 : Nat) (r2 : Nat) (r3 : Nat) (r4 : Nat) (mF : Int32) (mR : Int32) (th : Int32) (tb : Nat → Int64) (bu : Nat → Int32) (gr : Nat → Int32) (mk : Int32) (mw : Int32) (mm : Int32) (mb : Int32) (ms : Int32) (ml : Nat → Int32) (my : Int32) (what : Int32)  : Met l yX5_about (Cond.code yX5_about cX5_about 2 (some (.int)) :: W0) ({ frames := 0, cells := 0, slots := 0, locals := 0 } : Room) (et_PcW g ([(md, .inr (5, [.int th, .int mF, .int mR, .ref r1, .ref r2, .ref r3, .int (zI false), .int mk, .int mw, .int mm, .int mb, .int ms, .ref r4, .int my])), (r1, .inl (gJ g, 327680, .inr (.inl tb))), (r2, .inl (gZ g, 6, .inl bu)), (r3, .inl (gI g, 6, .inl gr)), (r4, .inl (gI g, 64, .inl ml))]) [.ref md, .int what]) (et_QW g ([(md, .inr (5, [.int th, .int mF, .int mR, .ref r1, .ref r2, .ref r3, .int (zI false), .int mk, .int mw, .int mm, .int mb, .int ms, .ref r4, .int my])), (r1, .inl (gJ g, 327680, .inr (.inl tb))), (r2, .inl (gZ g, 6, .inl bu)), (r3, .inl (gI g, 6, .inl gr)), (r4, .inl (gI g, 64, .inl ml))]) ([(md, .inr (5, [.int (1 : Int32), .int mF, .int mR, .ref r1, .ref r2, .ref r3, .int (zI false), .int mk, .int mw, .int mm, .int mb, .int ms, .ref r4, .int my])), (r1, .inl (gJ g, 327680, .inr (.inl tb))), (r2, .inl (gZ g, 6, .inl bu)), (r3, .inl (gI g, 6, .inl gr)), (r4, .inl (gI g, 64, .inl ml))]) (some (.int (0 : Int32)))) 0 0 (et_ad ([(md, .inr (5, [.int th, .int mF, .int mR, .ref r1, .ref r2, .ref r3, .int (zI false), .int mk, .int mw, .int mm, .int mb, .int ms, .ref r4, .int my])), (r1, .inl (gJ g, 327680, .inr (.inl tb))), (r2, .inl (gZ g, 6, .inl bu)), (r3, .inl (gI g, 6, .inl gr)), (r4, .inl (gI g, 64, .inl ml))])) := by
  refine et_startW (by decide) rfl (Nat.le_of_ble_eq_true rfl) ?_
  intro p e s m args below meth c hx hb hr hts0 hown hlocks hml hP hC hD hS ls hl
  have hts : ∀ w ∈ W0, w.before args s = true := fun w h => hts0 w (List.mem_cons_of_mem _ h)
  have hown : s.vm.findClass RX5 = some m.cls := hown
  have hl : lv_has ls 2 [(0, .ref md), (1, .int what)] := hl
  refine lv_aload_n hx hb dX5_about_0 rfl (lv_at hl 0 rfl) ?_
  refine lv_aload_n hx hb dX5_about_1 rfl (lv_at hl 0 rfl) ?_
  refine va_get (D := gD g) (ci := 5) (v := .int (zI false)) (C := RX5) (T := TX5) (N := 14) hx hb hts inW_X5 hown hC.1 hP 0 rfl rfl 6 (by decide) (hts _ w_739) (fun _ h9 => h9) rfl dX5_about_2 ?_
  refine lv_if_ne (tgt := 12) hx hb dX5_about_5 (by decide) (fun c_1 => ?_) (fun c_1 => ?_)
  · exact absurd c_1 (by decide)
  refine lv_iconst (v := (1 : Int32)) hx hb dX5_about_8 (by decide) ?_
  refine lv_goto (tgt := 26) hx hb dX5_about_9 (by decide) ?_
  refine va_put (D := gD g) (ci := 5) (v := .int (1 : Int32)) (ty := .int) (C := RX5) (T := TX5) (N := 14) hx hb hts inW_X5 tyX5 tyX5_ok nmX5 hown hC.1 hP hD hS 0 rfl rfl 0 (by decide) (hts _ w_733) (fun _ h9 => h9) rfl (by decide +kernel) rfl rfl (Nat.le_of_ble_eq_true rfl) dX5_about_26 (fun H locs hP hD hS => ?_)
  have hP : va_P (gD g) vwCl ([(md, .inr (5, [.int (1 : Int32), .int mF, .int mR, .ref r1, .ref r2, .ref r3, .int (zI false), .int mk, .int mw, .int mm, .int mb, .int ms, .ref r4, .int my])), (r1, .inl (gJ g, 327680, .inr (.inl tb))), (r2, .inl (gZ g, 6, .inl bu)), (r3, .inl (gI g, 6, .inl gr)), (r4, .inl (gI g, 64, .inl ml))]) H := hP
  have hD : va_D (et_ad ([(md, .inr (5, [.int th, .int mF, .int mR, .ref r1, .ref r2, .ref r3, .int (zI false), .int mk, .int mw, .int mm, .int mb, .int ms, .ref r4, .int my])), (r1, .inl (gJ g, 327680, .inr (.inl tb))), (r2, .inl (gZ g, 6, .inl bu)), (r3, .inl (gI g, 6, .inl gr)), (r4, .inl (gI g, 64, .inl ml))])) ([(md, .inr (5, [.int (1 : Int32), .int mF, .int mR, .ref r1, .ref r2, .ref r3, .int (zI false), .int mk, .int mw, .int mm, .int mb, .int ms, .ref r4, .int my])), (r1, .inl (gJ g, 327680, .inr (.inl tb))), (r2, .inl (gZ g, 6, .inl bu)), (r3, .inl (gI g, 6, .inl gr)), (r4, .inl (gI g, 64, .inl ml))]) := hD
  refine lv_aload_n hx hb dX5_about_29 rfl (lv_at hl 0 rfl) ?_
  refine va_get (D := gD g) (ci := 5) (v := .int (1 : Int32)) (C := RX5) (T := TX5) (N := 14) hx hb hts inW_X5 hown hC.1 hP 0 rfl rfl 0 (by decide) (hts _ w_733) (fun _ h9 => h9) rfl dX5_about_30 ?_
  refine lv_if_le (tgt := 38) hx hb dX5_about_33 (by decide) (fun c_2 => ?_) (fun c_2 => ?_)
  · exact absurd c_2 (by decide)
  refine lv_iconst (v := (0 : Int32)) hx hb dX5_about_36 (by decide) ?_
  exact et_iretW hx hb hr hlocks dX5_about_37 hP hS rfl rfl

set_option maxHeartbeats 4000000 in
set_option maxRecDepth 100000 in
theorem c_X5_left_0 (l : Launch) (g : et_G) (md : Nat) (r1 : Nat) (r2 : Nat) (r3 : Nat) (r4 : Nat) (mF : Int32) (mR : Int32) (th : Int32) (tb : Nat → Int64) (bu : Nat → Int32) (gr : Nat → Int32) (mk : Int32) (mw : Int32) (mm : Int32) (mb : Int32) (ms : Int32) (ml : Nat → Int32) (my : Int32)  : Met l yX5_left (Cond.code yX5_left cX5_left 1 (some (.int)) :: W0) ({ frames := 0, cells := 0, slots := 0, locals := 0 } : Room) (et_PcW g ([(md, .inr (5, [.int th, .int mF, .int mR, .ref r1, .ref r2, .ref r3, .int (zI false), .int mk, .int mw, .int mm, .int mb, .int ms, .ref r4, .int my])), (r1, .inl (gJ g, 327680, .inr (.inl tb))), (r2, .inl (gZ g, 6, .inl bu)), (r3, .inl (gI g, 6, .inl gr)), (r4, .inl (gI g, 64, .inl ml))]) [.ref md]) (et_QW g ([(md, .inr (5, [.int th, .int mF, .int mR, .ref r1, .ref r2, .ref r3, .int (zI false), .int mk, .int mw, .int mm, .int mb, .int ms, .ref r4, .int my])), (r1, .inl (gJ g, 327680, .inr (.inl tb))), (r2, .inl (gZ g, 6, .inl bu)), (r3, .inl (gI g, 6, .inl gr)), (r4, .inl (gI g, 64, .inl ml))]) ([(md, .inr (5, [.int (1 : Int32), .int mF, .int mR, .ref r1, .ref r2, .ref r3, .int (zI false), .int mk, .int mw, .int mm, .int mb, .int ms, .ref r4, .int my])), (r1, .inl (gJ g, 327680, .inr (.inl tb))), (r2, .inl (gZ g, 6, .inl bu)), (r3, .inl (gI g, 6, .inl gr)), (r4, .inl (gI g, 64, .inl ml))]) (some (.int (0 : Int32)))) 0 0 (et_ad ([(md, .inr (5, [.int th, .int mF, .int mR, .ref r1, .ref r2, .ref r3, .int (zI false), .int mk, .int mw, .int mm, .int mb, .int ms, .ref r4, .int my])), (r1, .inl (gJ g, 327680, .inr (.inl tb))), (r2, .inl (gZ g, 6, .inl bu)), (r3, .inl (gI g, 6, .inl gr)), (r4, .inl (gI g, 64, .inl ml))])) := by
  refine et_startW (by decide) rfl (Nat.le_of_ble_eq_true rfl) ?_
  intro p e s m args below meth c hx hb hr hts0 hown hlocks hml hP hC hD hS ls hl
  have hts : ∀ w ∈ W0, w.before args s = true := fun w h => hts0 w (List.mem_cons_of_mem _ h)
  have hown : s.vm.findClass RX5 = some m.cls := hown
  have hl : lv_has ls 1 [(0, .ref md)] := hl
  refine lv_aload_n hx hb dX5_left_0 rfl (lv_at hl 0 rfl) ?_
  refine lv_aload_n hx hb dX5_left_1 rfl (lv_at hl 0 rfl) ?_
  refine va_get (D := gD g) (ci := 5) (v := .int (zI false)) (C := RX5) (T := TX5) (N := 14) hx hb hts inW_X5 hown hC.1 hP 0 rfl rfl 6 (by decide) (hts _ w_739) (fun _ h9 => h9) rfl dX5_left_2 ?_
  refine lv_if_eq (tgt := 12) hx hb dX5_left_5 (by decide) (fun c_1 => ?_) (fun c_1 => ?_)
  rotate_left
  · exact absurd c_1 (by decide)
  refine lv_iconst (v := (1 : Int32)) hx hb dX5_left_12 (by decide) ?_
  refine va_put (D := gD g) (ci := 5) (v := .int (1 : Int32)) (ty := .int) (C := RX5) (T := TX5) (N := 14) hx hb hts inW_X5 tyX5 tyX5_ok nmX5 hown hC.1 hP hD hS 0 rfl rfl 0 (by decide) (hts _ w_733) (fun _ h9 => h9) rfl (by decide +kernel) rfl rfl (Nat.le_of_ble_eq_true rfl) dX5_left_13 (fun H locs hP hD hS => ?_)
  have hP : va_P (gD g) vwCl ([(md, .inr (5, [.int (1 : Int32), .int mF, .int mR, .ref r1, .ref r2, .ref r3, .int (zI false), .int mk, .int mw, .int mm, .int mb, .int ms, .ref r4, .int my])), (r1, .inl (gJ g, 327680, .inr (.inl tb))), (r2, .inl (gZ g, 6, .inl bu)), (r3, .inl (gI g, 6, .inl gr)), (r4, .inl (gI g, 64, .inl ml))]) H := hP
  have hD : va_D (et_ad ([(md, .inr (5, [.int th, .int mF, .int mR, .ref r1, .ref r2, .ref r3, .int (zI false), .int mk, .int mw, .int mm, .int mb, .int ms, .ref r4, .int my])), (r1, .inl (gJ g, 327680, .inr (.inl tb))), (r2, .inl (gZ g, 6, .inl bu)), (r3, .inl (gI g, 6, .inl gr)), (r4, .inl (gI g, 64, .inl ml))])) ([(md, .inr (5, [.int (1 : Int32), .int mF, .int mR, .ref r1, .ref r2, .ref r3, .int (zI false), .int mk, .int mw, .int mm, .int mb, .int ms, .ref r4, .int my])), (r1, .inl (gJ g, 327680, .inr (.inl tb))), (r2, .inl (gZ g, 6, .inl bu)), (r3, .inl (gI g, 6, .inl gr)), (r4, .inl (gI g, 64, .inl ml))]) := hD
  refine lv_aload_n hx hb dX5_left_16 rfl (lv_at hl 0 rfl) ?_
  refine va_get (D := gD g) (ci := 5) (v := .int (1 : Int32)) (C := RX5) (T := TX5) (N := 14) hx hb hts inW_X5 hown hC.1 hP 0 rfl rfl 0 (by decide) (hts _ w_733) (fun _ h9 => h9) rfl dX5_left_17 ?_
  refine lv_if_le (tgt := 27) hx hb dX5_left_20 (by decide) (fun c_2 => ?_) (fun c_2 => ?_)
  · exact absurd c_2 (by decide)
  refine lv_iconst (v := (0 : Int32)) hx hb dX5_left_23 (by decide) ?_
  refine lv_goto (tgt := 51) hx hb dX5_left_24 (by decide) ?_
  exact et_iretW hx hb hr hlocks dX5_left_51 hP hS rfl rfl

set_option maxHeartbeats 4000000 in
set_option maxRecDepth 100000 in
theorem c_X5_moves_0 (l : Launch) (g : et_G) (md : Nat) (r1 : Nat) (r2 : Nat) (r3 : Nat) (r4 : Nat) (mF : Int32) (mR : Int32) (th : Int32) (tb : Nat → Int64) (bu : Nat → Int32) (gr : Nat → Int32) (mk : Int32) (mw : Int32) (mm : Int32) (mb : Int32) (ms : Int32) (ml : Nat → Int32) (my : Int32)  : Met l yX5_moves (Cond.code yX5_moves cX5_moves 1 (some (.int)) :: W0) ({ frames := 0, cells := 0, slots := 0, locals := 0 } : Room) (et_PcW g ([(md, .inr (5, [.int th, .int mF, .int mR, .ref r1, .ref r2, .ref r3, .int (zI false), .int mk, .int mw, .int mm, .int mb, .int ms, .ref r4, .int my])), (r1, .inl (gJ g, 327680, .inr (.inl tb))), (r2, .inl (gZ g, 6, .inl bu)), (r3, .inl (gI g, 6, .inl gr)), (r4, .inl (gI g, 64, .inl ml))]) [.ref md]) (et_QW g ([(md, .inr (5, [.int th, .int mF, .int mR, .ref r1, .ref r2, .ref r3, .int (zI false), .int mk, .int mw, .int mm, .int mb, .int ms, .ref r4, .int my])), (r1, .inl (gJ g, 327680, .inr (.inl tb))), (r2, .inl (gZ g, 6, .inl bu)), (r3, .inl (gI g, 6, .inl gr)), (r4, .inl (gI g, 64, .inl ml))]) ([(md, .inr (5, [.int (1 : Int32), .int mF, .int mR, .ref r1, .ref r2, .ref r3, .int (zI false), .int mk, .int mw, .int mm, .int mb, .int ms, .ref r4, .int my])), (r1, .inl (gJ g, 327680, .inr (.inl tb))), (r2, .inl (gZ g, 6, .inl bu)), (r3, .inl (gI g, 6, .inl gr)), (r4, .inl (gI g, 64, .inl ml))]) (some (.int (0 : Int32)))) 0 0 (et_ad ([(md, .inr (5, [.int th, .int mF, .int mR, .ref r1, .ref r2, .ref r3, .int (zI false), .int mk, .int mw, .int mm, .int mb, .int ms, .ref r4, .int my])), (r1, .inl (gJ g, 327680, .inr (.inl tb))), (r2, .inl (gZ g, 6, .inl bu)), (r3, .inl (gI g, 6, .inl gr)), (r4, .inl (gI g, 64, .inl ml))])) := by
  refine et_startW (by decide) rfl (Nat.le_of_ble_eq_true rfl) ?_
  intro p e s m args below meth c hx hb hr hts0 hown hlocks hml hP hC hD hS ls hl
  have hts : ∀ w ∈ W0, w.before args s = true := fun w h => hts0 w (List.mem_cons_of_mem _ h)
  have hown : s.vm.findClass RX5 = some m.cls := hown
  have hl : lv_has ls 1 [(0, .ref md)] := hl
  refine lv_aload_n hx hb dX5_moves_0 rfl (lv_at hl 0 rfl) ?_
  refine lv_aload_n hx hb dX5_moves_1 rfl (lv_at hl 0 rfl) ?_
  refine va_get (D := gD g) (ci := 5) (v := .int (zI false)) (C := RX5) (T := TX5) (N := 14) hx hb hts inW_X5 hown hC.1 hP 0 rfl rfl 6 (by decide) (hts _ w_739) (fun _ h9 => h9) rfl dX5_moves_2 ?_
  refine lv_if_eq (tgt := 12) hx hb dX5_moves_5 (by decide) (fun c_1 => ?_) (fun c_1 => ?_)
  rotate_left
  · exact absurd c_1 (by decide)
  refine lv_iconst (v := (1 : Int32)) hx hb dX5_moves_12 (by decide) ?_
  refine va_put (D := gD g) (ci := 5) (v := .int (1 : Int32)) (ty := .int) (C := RX5) (T := TX5) (N := 14) hx hb hts inW_X5 tyX5 tyX5_ok nmX5 hown hC.1 hP hD hS 0 rfl rfl 0 (by decide) (hts _ w_733) (fun _ h9 => h9) rfl (by decide +kernel) rfl rfl (Nat.le_of_ble_eq_true rfl) dX5_moves_13 (fun H locs hP hD hS => ?_)
  have hP : va_P (gD g) vwCl ([(md, .inr (5, [.int (1 : Int32), .int mF, .int mR, .ref r1, .ref r2, .ref r3, .int (zI false), .int mk, .int mw, .int mm, .int mb, .int ms, .ref r4, .int my])), (r1, .inl (gJ g, 327680, .inr (.inl tb))), (r2, .inl (gZ g, 6, .inl bu)), (r3, .inl (gI g, 6, .inl gr)), (r4, .inl (gI g, 64, .inl ml))]) H := hP
  have hD : va_D (et_ad ([(md, .inr (5, [.int th, .int mF, .int mR, .ref r1, .ref r2, .ref r3, .int (zI false), .int mk, .int mw, .int mm, .int mb, .int ms, .ref r4, .int my])), (r1, .inl (gJ g, 327680, .inr (.inl tb))), (r2, .inl (gZ g, 6, .inl bu)), (r3, .inl (gI g, 6, .inl gr)), (r4, .inl (gI g, 64, .inl ml))])) ([(md, .inr (5, [.int (1 : Int32), .int mF, .int mR, .ref r1, .ref r2, .ref r3, .int (zI false), .int mk, .int mw, .int mm, .int mb, .int ms, .ref r4, .int my])), (r1, .inl (gJ g, 327680, .inr (.inl tb))), (r2, .inl (gZ g, 6, .inl bu)), (r3, .inl (gI g, 6, .inl gr)), (r4, .inl (gI g, 64, .inl ml))]) := hD
  refine lv_aload_n hx hb dX5_moves_16 rfl (lv_at hl 0 rfl) ?_
  refine va_get (D := gD g) (ci := 5) (v := .int (1 : Int32)) (C := RX5) (T := TX5) (N := 14) hx hb hts inW_X5 hown hC.1 hP 0 rfl rfl 0 (by decide) (hts _ w_733) (fun _ h9 => h9) rfl dX5_moves_17 ?_
  refine lv_if_le (tgt := 25) hx hb dX5_moves_20 (by decide) (fun c_2 => ?_) (fun c_2 => ?_)
  · exact absurd c_2 (by decide)
  refine lv_iconst (v := (0 : Int32)) hx hb dX5_moves_23 (by decide) ?_
  exact et_iretW hx hb hr hlocks dX5_moves_24 hP hS rfl rfl

set_option maxHeartbeats 4000000 in
set_option maxRecDepth 100000 in
theorem c_X5_move_0 (l : Launch) (g : et_G) (md : Nat) (r1 : Nat) (r2 : Nat) (r3 : Nat) (r4 : Nat) (mF : Int32) (mR : Int32) (th : Int32) (tb : Nat → Int64) (bu : Nat → Int32) (gr : Nat → Int32) (mk : Int32) (mw : Int32) (mm : Int32) (mb : Int32) (ms : Int32) (ml : Nat → Int32) (my : Int32) (ix : Int32)  : Met l yX5_move (Cond.code yX5_move cX5_move 2 (some (.int)) :: W0) ({ frames := 1, cells := 0, slots := 0, locals := 26 } : Room) (et_PcW g ([(md, .inr (5, [.int th, .int mF, .int mR, .ref r1, .ref r2, .ref r3, .int (zI false), .int mk, .int mw, .int mm, .int mb, .int ms, .ref r4, .int my])), (r1, .inl (gJ g, 327680, .inr (.inl tb))), (r2, .inl (gZ g, 6, .inl bu)), (r3, .inl (gI g, 6, .inl gr)), (r4, .inl (gI g, 64, .inl ml))]) [.ref md, .int ix]) (et_QW g ([(md, .inr (5, [.int th, .int mF, .int mR, .ref r1, .ref r2, .ref r3, .int (zI false), .int mk, .int mw, .int mm, .int mb, .int ms, .ref r4, .int my])), (r1, .inl (gJ g, 327680, .inr (.inl tb))), (r2, .inl (gZ g, 6, .inl bu)), (r3, .inl (gI g, 6, .inl gr)), (r4, .inl (gI g, 64, .inl ml))]) ([(md, .inr (5, [.int (1 : Int32), .int mF, .int mR, .ref r1, .ref r2, .ref r3, .int (zI false), .int mk, .int mw, .int mm, .int mb, .int ms, .ref r4, .int (0 : Int32)])), (r1, .inl (gJ g, 327680, .inr (.inl tb))), (r2, .inl (gZ g, 6, .inl bu)), (r3, .inl (gI g, 6, .inl gr)), (r4, .inl (gI g, 64, .inl ml))]) (some (.int (0 : Int32)))) 0 0 (et_ad ([(md, .inr (5, [.int th, .int mF, .int mR, .ref r1, .ref r2, .ref r3, .int (zI false), .int mk, .int mw, .int mm, .int mb, .int ms, .ref r4, .int my])), (r1, .inl (gJ g, 327680, .inr (.inl tb))), (r2, .inl (gZ g, 6, .inl bu)), (r3, .inl (gI g, 6, .inl gr)), (r4, .inl (gI g, 64, .inl ml))])) := by
  refine et_startW (by decide) rfl (Nat.le_of_ble_eq_true rfl) ?_
  intro p e s m args below meth c hx hb hr hts0 hown hlocks hml hP hC hD hS ls hl
  have hts : ∀ w ∈ W0, w.before args s = true := fun w h => hts0 w (List.mem_cons_of_mem _ h)
  have hown : s.vm.findClass RX5 = some m.cls := hown
  have hl : lv_has ls 2 [(0, .ref md), (1, .int ix)] := hl
  refine lv_aload_n hx hb dX5_move_0 rfl (lv_at hl 0 rfl) ?_
  refine et_callW0 (ws' := [(md, .inr (5, [.int th, .int mF, .int mR, .ref r1, .ref r2, .ref r3, .int (zI false), .int mk, .int mw, .int mm, .int mb, .int ms, .ref r4, .int (0 : Int32)])), (r1, .inl (gJ g, 327680, .inr (.inl tb))), (r2, .inl (gZ g, 6, .inl bu)), (r3, .inl (gI g, 6, .inl gr)), (r4, .inl (gI g, 64, .inl ml))]) (va_runV (As := []) (rest := []) ⟨hx, hb, hml, hown, hts⟩ (c_X5_findMoves_0 l g md r1 r2 r3 r4 mF mR th tb bu gr mk mw mm mb ms ml my) (cwV 0 hts (W0_gV w_902 w_904 w_68 w_82 w_905) rfl rfl rfl (by decide +kernel) ⟨Nat.le_of_ble_eq_true rfl, Nat.le_of_ble_eq_true rfl⟩) (et_preVW hP hC hD [0, 1, 2, 3, 4] (by decide) rfl (ci := 5) (q0 := 0) rfl rfl) rfl rfl hl.1 rfl (lv_room (Nat.le_of_ble_eq_true rfl)) dX5_move_1 ⟨Nat.le_of_ble_eq_true rfl, Nat.le_of_ble_eq_true rfl⟩) hP hD hS [0, 1, 2, 3, 4] [] 5 rfl [md, r1, r2, r3, r4] rfl rfl rfl [] rfl rfl rfl (by decide +kernel) (fun H locs hP hD hS => ?_)
  refine lv_aload_n hx hb dX5_move_4 rfl (lv_at hl 0 rfl) ?_
  refine lv_aload_n hx hb dX5_move_5 rfl (lv_at hl 0 rfl) ?_
  refine va_get (D := gD g) (ci := 5) (v := .int (zI false)) (C := RX5) (T := TX5) (N := 14) hx hb hts inW_X5 hown hC.1 hP 0 rfl rfl 6 (by decide) (hts _ w_739) (fun _ h9 => h9) rfl dX5_move_6 ?_
  refine lv_if_ne (tgt := 16) hx hb dX5_move_9 (by decide) (fun c_1 => ?_) (fun c_1 => ?_)
  · exact absurd c_1 (by decide)
  refine lv_iconst (v := (1 : Int32)) hx hb dX5_move_12 (by decide) ?_
  refine lv_goto (tgt := 33) hx hb dX5_move_13 (by decide) ?_
  refine va_put (D := gD g) (ci := 5) (v := .int (1 : Int32)) (ty := .int) (C := RX5) (T := TX5) (N := 14) hx hb hts inW_X5 tyX5 tyX5_ok nmX5 hown hC.1 hP hD hS 0 rfl rfl 0 (by decide) (hts _ w_733) (fun _ h9 => h9) rfl (by decide +kernel) rfl rfl (Nat.le_of_ble_eq_true rfl) dX5_move_33 (fun H locs hP hD hS => ?_)
  have hP : va_P (gD g) vwCl ([(md, .inr (5, [.int (1 : Int32), .int mF, .int mR, .ref r1, .ref r2, .ref r3, .int (zI false), .int mk, .int mw, .int mm, .int mb, .int ms, .ref r4, .int (0 : Int32)])), (r1, .inl (gJ g, 327680, .inr (.inl tb))), (r2, .inl (gZ g, 6, .inl bu)), (r3, .inl (gI g, 6, .inl gr)), (r4, .inl (gI g, 64, .inl ml))]) H := hP
  have hD : va_D (et_ad ([(md, .inr (5, [.int th, .int mF, .int mR, .ref r1, .ref r2, .ref r3, .int (zI false), .int mk, .int mw, .int mm, .int mb, .int ms, .ref r4, .int my])), (r1, .inl (gJ g, 327680, .inr (.inl tb))), (r2, .inl (gZ g, 6, .inl bu)), (r3, .inl (gI g, 6, .inl gr)), (r4, .inl (gI g, 64, .inl ml))])) ([(md, .inr (5, [.int (1 : Int32), .int mF, .int mR, .ref r1, .ref r2, .ref r3, .int (zI false), .int mk, .int mw, .int mm, .int mb, .int ms, .ref r4, .int (0 : Int32)])), (r1, .inl (gJ g, 327680, .inr (.inl tb))), (r2, .inl (gZ g, 6, .inl bu)), (r3, .inl (gI g, 6, .inl gr)), (r4, .inl (gI g, 64, .inl ml))]) := hD
  refine lv_aload_n hx hb dX5_move_36 rfl (lv_at hl 0 rfl) ?_
  refine va_get (D := gD g) (ci := 5) (v := .int (1 : Int32)) (C := RX5) (T := TX5) (N := 14) hx hb hts inW_X5 hown hC.1 hP 0 rfl rfl 0 (by decide) (hts _ w_733) (fun _ h9 => h9) rfl dX5_move_37 ?_
  refine lv_if_le (tgt := 47) hx hb dX5_move_40 (by decide) (fun c_2 => ?_) (fun c_2 => ?_)
  · exact absurd c_2 (by decide)
  refine lv_iconst (v := (0 : Int32)) hx hb dX5_move_43 (by decide) ?_
  refine lv_goto (tgt := 53) hx hb dX5_move_44 (by decide) ?_
  exact et_iretW hx hb hr hlocks dX5_move_53 hP hS rfl rfl

set_option maxHeartbeats 4000000 in
set_option maxRecDepth 100000 in
theorem c_X5_best_0 (l : Launch) (g : et_G) (md : Nat) (r1 : Nat) (r2 : Nat) (r3 : Nat) (r4 : Nat) (mF : Int32) (mR : Int32) (th : Int32) (tb : Nat → Int64) (bu : Nat → Int32) (gr : Nat → Int32) (mk : Int32) (mw : Int32) (mm : Int32) (mb : Int32) (ms : Int32) (ml : Nat → Int32) (my : Int32)  : Met l yX5_best (Cond.code yX5_best cX5_best 1 (some (.int)) :: W0) ({ frames := 1, cells := 0, slots := 0, locals := 26 } : Room) (et_PcW g ([(md, .inr (5, [.int th, .int mF, .int mR, .ref r1, .ref r2, .ref r3, .int (zI false), .int mk, .int mw, .int mm, .int mb, .int ms, .ref r4, .int my])), (r1, .inl (gJ g, 327680, .inr (.inl tb))), (r2, .inl (gZ g, 6, .inl bu)), (r3, .inl (gI g, 6, .inl gr)), (r4, .inl (gI g, 64, .inl ml))]) [.ref md]) (et_QW g ([(md, .inr (5, [.int th, .int mF, .int mR, .ref r1, .ref r2, .ref r3, .int (zI false), .int mk, .int mw, .int mm, .int mb, .int ms, .ref r4, .int my])), (r1, .inl (gJ g, 327680, .inr (.inl tb))), (r2, .inl (gZ g, 6, .inl bu)), (r3, .inl (gI g, 6, .inl gr)), (r4, .inl (gI g, 64, .inl ml))]) ([(md, .inr (5, [.int (1 : Int32), .int mF, .int mR, .ref r1, .ref r2, .ref r3, .int (zI false), .int mk, .int mw, .int mm, .int mb, .int ms, .ref r4, .int (0 : Int32)])), (r1, .inl (gJ g, 327680, .inr (.inl tb))), (r2, .inl (gZ g, 6, .inl bu)), (r3, .inl (gI g, 6, .inl gr)), (r4, .inl (gI g, 64, .inl ml))]) (some (.int (0 : Int32)))) 0 0 (et_ad ([(md, .inr (5, [.int th, .int mF, .int mR, .ref r1, .ref r2, .ref r3, .int (zI false), .int mk, .int mw, .int mm, .int mb, .int ms, .ref r4, .int my])), (r1, .inl (gJ g, 327680, .inr (.inl tb))), (r2, .inl (gZ g, 6, .inl bu)), (r3, .inl (gI g, 6, .inl gr)), (r4, .inl (gI g, 64, .inl ml))])) := by
  refine et_startW (by decide) rfl (Nat.le_of_ble_eq_true rfl) ?_
  intro p e s m args below meth c hx hb hr hts0 hown hlocks hml hP hC hD hS ls hl
  have hts : ∀ w ∈ W0, w.before args s = true := fun w h => hts0 w (List.mem_cons_of_mem _ h)
  have hown : s.vm.findClass RX5 = some m.cls := hown
  have hl : lv_has ls 1 [(0, .ref md)] := hl
  refine lv_aload_n hx hb dX5_best_0 rfl (lv_at hl 0 rfl) ?_
  refine et_callW0 (ws' := [(md, .inr (5, [.int th, .int mF, .int mR, .ref r1, .ref r2, .ref r3, .int (zI false), .int mk, .int mw, .int mm, .int mb, .int ms, .ref r4, .int (0 : Int32)])), (r1, .inl (gJ g, 327680, .inr (.inl tb))), (r2, .inl (gZ g, 6, .inl bu)), (r3, .inl (gI g, 6, .inl gr)), (r4, .inl (gI g, 64, .inl ml))]) (va_runV (As := []) (rest := []) ⟨hx, hb, hml, hown, hts⟩ (c_X5_findMoves_0 l g md r1 r2 r3 r4 mF mR th tb bu gr mk mw mm mb ms ml my) (cwV 0 hts (W0_gV w_902 w_904 w_68 w_82 w_905) rfl rfl rfl (by decide +kernel) ⟨Nat.le_of_ble_eq_true rfl, Nat.le_of_ble_eq_true rfl⟩) (et_preVW hP hC hD [0, 1, 2, 3, 4] (by decide) rfl (ci := 5) (q0 := 0) rfl rfl) rfl rfl hl.1 rfl (lv_room (Nat.le_of_ble_eq_true rfl)) dX5_best_1 ⟨Nat.le_of_ble_eq_true rfl, Nat.le_of_ble_eq_true rfl⟩) hP hD hS [0, 1, 2, 3, 4] [] 5 rfl [md, r1, r2, r3, r4] rfl rfl rfl [] rfl rfl rfl (by decide +kernel) (fun H locs hP hD hS => ?_)
  refine lv_aload_n hx hb dX5_best_4 rfl (lv_at hl 0 rfl) ?_
  refine lv_aload_n hx hb dX5_best_5 rfl (lv_at hl 0 rfl) ?_
  refine va_get (D := gD g) (ci := 5) (v := .int (zI false)) (C := RX5) (T := TX5) (N := 14) hx hb hts inW_X5 hown hC.1 hP 0 rfl rfl 6 (by decide) (hts _ w_739) (fun _ h9 => h9) rfl dX5_best_6 ?_
  refine lv_if_eq (tgt := 23) hx hb dX5_best_9 (by decide) (fun c_1 => ?_) (fun c_1 => ?_)
  rotate_left
  · exact absurd c_1 (by decide)
  refine lv_iconst (v := (1 : Int32)) hx hb dX5_best_23 (by decide) ?_
  refine va_put (D := gD g) (ci := 5) (v := .int (1 : Int32)) (ty := .int) (C := RX5) (T := TX5) (N := 14) hx hb hts inW_X5 tyX5 tyX5_ok nmX5 hown hC.1 hP hD hS 0 rfl rfl 0 (by decide) (hts _ w_733) (fun _ h9 => h9) rfl (by decide +kernel) rfl rfl (Nat.le_of_ble_eq_true rfl) dX5_best_24 (fun H locs hP hD hS => ?_)
  have hP : va_P (gD g) vwCl ([(md, .inr (5, [.int (1 : Int32), .int mF, .int mR, .ref r1, .ref r2, .ref r3, .int (zI false), .int mk, .int mw, .int mm, .int mb, .int ms, .ref r4, .int (0 : Int32)])), (r1, .inl (gJ g, 327680, .inr (.inl tb))), (r2, .inl (gZ g, 6, .inl bu)), (r3, .inl (gI g, 6, .inl gr)), (r4, .inl (gI g, 64, .inl ml))]) H := hP
  have hD : va_D (et_ad ([(md, .inr (5, [.int th, .int mF, .int mR, .ref r1, .ref r2, .ref r3, .int (zI false), .int mk, .int mw, .int mm, .int mb, .int ms, .ref r4, .int my])), (r1, .inl (gJ g, 327680, .inr (.inl tb))), (r2, .inl (gZ g, 6, .inl bu)), (r3, .inl (gI g, 6, .inl gr)), (r4, .inl (gI g, 64, .inl ml))])) ([(md, .inr (5, [.int (1 : Int32), .int mF, .int mR, .ref r1, .ref r2, .ref r3, .int (zI false), .int mk, .int mw, .int mm, .int mb, .int ms, .ref r4, .int (0 : Int32)])), (r1, .inl (gJ g, 327680, .inr (.inl tb))), (r2, .inl (gZ g, 6, .inl bu)), (r3, .inl (gI g, 6, .inl gr)), (r4, .inl (gI g, 64, .inl ml))]) := hD
  refine lv_aload_n hx hb dX5_best_27 rfl (lv_at hl 0 rfl) ?_
  refine va_get (D := gD g) (ci := 5) (v := .int (1 : Int32)) (C := RX5) (T := TX5) (N := 14) hx hb hts inW_X5 hown hC.1 hP 0 rfl rfl 0 (by decide) (hts _ w_733) (fun _ h9 => h9) rfl dX5_best_28 ?_
  refine lv_if_le (tgt := 38) hx hb dX5_best_31 (by decide) (fun c_2 => ?_) (fun c_2 => ?_)
  · exact absurd c_2 (by decide)
  refine lv_iconst (v := (0 : Int32)) hx hb dX5_best_34 (by decide) ?_
  refine lv_goto (tgt := 42) hx hb dX5_best_35 (by decide) ?_
  exact et_iretW hx hb hr hlocks dX5_best_42 hP hS rfl rfl

set_option maxHeartbeats 4000000 in
set_option maxRecDepth 100000 in
theorem c_X5_play_0 (l : Launch) (g : et_G) (md : Nat) (r1 : Nat) (r2 : Nat) (r3 : Nat) (r4 : Nat) (mF : Int32) (mR : Int32) (th : Int32) (tb : Nat → Int64) (bu : Nat → Int32) (gr : Nat → Int32) (mk : Int32) (mw : Int32) (mm : Int32) (mb : Int32) (ms : Int32) (ml : Nat → Int32) (my : Int32) (mv : Int32)  : Met l yX5_play (Cond.code yX5_play cX5_play 4 (some (.int)) :: W0) ({ frames := 1, cells := 0, slots := 0, locals := 26 } : Room) (et_PcW g ([(md, .inr (5, [.int th, .int mF, .int mR, .ref r1, .ref r2, .ref r3, .int (zI false), .int mk, .int mw, .int mm, .int mb, .int ms, .ref r4, .int my])), (r1, .inl (gJ g, 327680, .inr (.inl tb))), (r2, .inl (gZ g, 6, .inl bu)), (r3, .inl (gI g, 6, .inl gr)), (r4, .inl (gI g, 64, .inl ml))]) [.ref md, .int mv]) (et_QW g ([(md, .inr (5, [.int th, .int mF, .int mR, .ref r1, .ref r2, .ref r3, .int (zI false), .int mk, .int mw, .int mm, .int mb, .int ms, .ref r4, .int my])), (r1, .inl (gJ g, 327680, .inr (.inl tb))), (r2, .inl (gZ g, 6, .inl bu)), (r3, .inl (gI g, 6, .inl gr)), (r4, .inl (gI g, 64, .inl ml))]) ([(md, .inr (5, [.int (1 : Int32), .int mF, .int mR, .ref r1, .ref r2, .ref r3, .int (zI false), .int mk, .int mw, .int mm, .int mb, .int ms, .ref r4, .int (0 : Int32)])), (r1, .inl (gJ g, 327680, .inr (.inl tb))), (r2, .inl (gZ g, 6, .inl bu)), (r3, .inl (gI g, 6, .inl gr)), (r4, .inl (gI g, 64, .inl ml))]) (some (.int (0 : Int32)))) 0 0 (et_ad ([(md, .inr (5, [.int th, .int mF, .int mR, .ref r1, .ref r2, .ref r3, .int (zI false), .int mk, .int mw, .int mm, .int mb, .int ms, .ref r4, .int my])), (r1, .inl (gJ g, 327680, .inr (.inl tb))), (r2, .inl (gZ g, 6, .inl bu)), (r3, .inl (gI g, 6, .inl gr)), (r4, .inl (gI g, 64, .inl ml))])) := by
  refine et_startW (by decide) rfl (Nat.le_of_ble_eq_true rfl) ?_
  intro p e s m args below meth c hx hb hr hts0 hown hlocks hml hP hC hD hS ls hl
  have hts : ∀ w ∈ W0, w.before args s = true := fun w h => hts0 w (List.mem_cons_of_mem _ h)
  have hown : s.vm.findClass RX5 = some m.cls := hown
  have hl : lv_has ls 4 [(0, .ref md), (1, .int mv)] := hl
  refine lv_aload_n hx hb dX5_play_0 rfl (lv_at hl 0 rfl) ?_
  refine et_callW0 (ws' := [(md, .inr (5, [.int th, .int mF, .int mR, .ref r1, .ref r2, .ref r3, .int (zI false), .int mk, .int mw, .int mm, .int mb, .int ms, .ref r4, .int (0 : Int32)])), (r1, .inl (gJ g, 327680, .inr (.inl tb))), (r2, .inl (gZ g, 6, .inl bu)), (r3, .inl (gI g, 6, .inl gr)), (r4, .inl (gI g, 64, .inl ml))]) (va_runV (As := []) (rest := []) ⟨hx, hb, hml, hown, hts⟩ (c_X5_findMoves_0 l g md r1 r2 r3 r4 mF mR th tb bu gr mk mw mm mb ms ml my) (cwV 0 hts (W0_gV w_902 w_904 w_68 w_82 w_905) rfl rfl rfl (by decide +kernel) ⟨Nat.le_of_ble_eq_true rfl, Nat.le_of_ble_eq_true rfl⟩) (et_preVW hP hC hD [0, 1, 2, 3, 4] (by decide) rfl (ci := 5) (q0 := 0) rfl rfl) rfl rfl hl.1 rfl (lv_room (Nat.le_of_ble_eq_true rfl)) dX5_play_1 ⟨Nat.le_of_ble_eq_true rfl, Nat.le_of_ble_eq_true rfl⟩) hP hD hS [0, 1, 2, 3, 4] [] 5 rfl [md, r1, r2, r3, r4] rfl rfl rfl [] rfl rfl rfl (by decide +kernel) (fun H locs hP hD hS => ?_)
  refine lv_iconst (v := (0 : Int32)) hx hb dX5_play_4 (by decide) ?_
  refine lv_istore_n (lv' := [(2, .int (0 : Int32)), (0, .ref md), (1, .int mv)]) hx hb dX5_play_5 rfl hl (by decide) rfl (fun ls hl => ?_)
  refine lv_iconst (v := (0 : Int32)) hx hb dX5_play_6 (by decide) ?_
  refine lv_istore_n (lv' := [(3, .int (0 : Int32)), (2, .int (0 : Int32)), (0, .ref md), (1, .int mv)]) hx hb dX5_play_7 rfl hl (by decide) rfl (fun ls hl => ?_)
  refine lv_iload_n hx hb dX5_play_8 rfl (lv_at hl 0 rfl) ?_
  refine lv_aload_n hx hb dX5_play_9 rfl (lv_at hl 2 rfl) ?_
  refine va_get (D := gD g) (ci := 5) (v := .int (0 : Int32)) (C := RX5) (T := TX5) (N := 14) hx hb hts inW_X5 hown hC.1 hP 0 rfl rfl 13 (by decide) (hts _ w_746) (fun _ h9 => h9) rfl dX5_play_10 ?_
  refine lv_icmp_ge (tgt := 42) hx hb dX5_play_13 (by decide) (fun c_1 => ?_) (fun c_1 => ?_)
  rotate_left
  · exact absurd c_1 (by decide)
  refine lv_aload_n hx hb dX5_play_42 rfl (lv_at hl 2 rfl) ?_
  refine lv_aload_n hx hb dX5_play_43 rfl (lv_at hl 2 rfl) ?_
  refine va_get (D := gD g) (ci := 5) (v := .int (zI false)) (C := RX5) (T := TX5) (N := 14) hx hb hts inW_X5 hown hC.1 hP 0 rfl rfl 6 (by decide) (hts _ w_739) (fun _ h9 => h9) rfl dX5_play_44 ?_
  refine lv_if_ne (tgt := 54) hx hb dX5_play_47 (by decide) (fun c_2 => ?_) (fun c_2 => ?_)
  · exact absurd c_2 (by decide)
  refine lv_iconst (v := (1 : Int32)) hx hb dX5_play_50 (by decide) ?_
  refine lv_goto (tgt := 63) hx hb dX5_play_51 (by decide) ?_
  refine va_put (D := gD g) (ci := 5) (v := .int (1 : Int32)) (ty := .int) (C := RX5) (T := TX5) (N := 14) hx hb hts inW_X5 tyX5 tyX5_ok nmX5 hown hC.1 hP hD hS 0 rfl rfl 0 (by decide) (hts _ w_733) (fun _ h9 => h9) rfl (by decide +kernel) rfl rfl (Nat.le_of_ble_eq_true rfl) dX5_play_63 (fun H locs hP hD hS => ?_)
  have hP : va_P (gD g) vwCl ([(md, .inr (5, [.int (1 : Int32), .int mF, .int mR, .ref r1, .ref r2, .ref r3, .int (zI false), .int mk, .int mw, .int mm, .int mb, .int ms, .ref r4, .int (0 : Int32)])), (r1, .inl (gJ g, 327680, .inr (.inl tb))), (r2, .inl (gZ g, 6, .inl bu)), (r3, .inl (gI g, 6, .inl gr)), (r4, .inl (gI g, 64, .inl ml))]) H := hP
  have hD : va_D (et_ad ([(md, .inr (5, [.int th, .int mF, .int mR, .ref r1, .ref r2, .ref r3, .int (zI false), .int mk, .int mw, .int mm, .int mb, .int ms, .ref r4, .int my])), (r1, .inl (gJ g, 327680, .inr (.inl tb))), (r2, .inl (gZ g, 6, .inl bu)), (r3, .inl (gI g, 6, .inl gr)), (r4, .inl (gI g, 64, .inl ml))])) ([(md, .inr (5, [.int (1 : Int32), .int mF, .int mR, .ref r1, .ref r2, .ref r3, .int (zI false), .int mk, .int mw, .int mm, .int mb, .int ms, .ref r4, .int (0 : Int32)])), (r1, .inl (gJ g, 327680, .inr (.inl tb))), (r2, .inl (gZ g, 6, .inl bu)), (r3, .inl (gI g, 6, .inl gr)), (r4, .inl (gI g, 64, .inl ml))]) := hD
  refine lv_aload_n hx hb dX5_play_66 rfl (lv_at hl 2 rfl) ?_
  refine va_get (D := gD g) (ci := 5) (v := .int (1 : Int32)) (C := RX5) (T := TX5) (N := 14) hx hb hts inW_X5 hown hC.1 hP 0 rfl rfl 0 (by decide) (hts _ w_733) (fun _ h9 => h9) rfl dX5_play_67 ?_
  refine lv_if_le (tgt := 75) hx hb dX5_play_70 (by decide) (fun c_3 => ?_) (fun c_3 => ?_)
  · exact absurd c_3 (by decide)
  refine lv_iconst (v := (0 : Int32)) hx hb dX5_play_73 (by decide) ?_
  exact et_iretW hx hb hr hlocks dX5_play_74 hP hS rfl rfl

set_option maxHeartbeats 4000000 in
set_option maxRecDepth 100000 in
theorem c_X5_run_0 (l : Launch) (g : et_G) (md : Nat) (r1 : Nat) (r2 : Nat) (r3 : Nat) (r4 : Nat) (mF : Int32) (mR : Int32) (th : Int32) (tb : Nat → Int64) (bu : Nat → Int32) (gr : Nat → Int32) (mk : Int32) (mw : Int32) (mm : Int32) (mb : Int32) (ms : Int32) (ml : Nat → Int32) (my : Int32) (nn : Int32)  : Met l yX5_run (Cond.code yX5_run cX5_run 3 (some (.int)) :: W0) ({ frames := 0, cells := 0, slots := 0, locals := 0 } : Room) (et_PcW g ([(md, .inr (5, [.int th, .int mF, .int mR, .ref r1, .ref r2, .ref r3, .int (zI false), .int mk, .int mw, .int mm, .int mb, .int ms, .ref r4, .int my])), (r1, .inl (gJ g, 327680, .inr (.inl tb))), (r2, .inl (gZ g, 6, .inl bu)), (r3, .inl (gI g, 6, .inl gr)), (r4, .inl (gI g, 64, .inl ml))]) [.ref md, .int nn]) (et_QW g ([(md, .inr (5, [.int th, .int mF, .int mR, .ref r1, .ref r2, .ref r3, .int (zI false), .int mk, .int mw, .int mm, .int mb, .int ms, .ref r4, .int my])), (r1, .inl (gJ g, 327680, .inr (.inl tb))), (r2, .inl (gZ g, 6, .inl bu)), (r3, .inl (gI g, 6, .inl gr)), (r4, .inl (gI g, 64, .inl ml))]) ([(md, .inr (5, [.int (1 : Int32), .int mF, .int mR, .ref r1, .ref r2, .ref r3, .int (zI false), .int mk, .int mw, .int mm, .int mb, .int ms, .ref r4, .int my])), (r1, .inl (gJ g, 327680, .inr (.inl tb))), (r2, .inl (gZ g, 6, .inl bu)), (r3, .inl (gI g, 6, .inl gr)), (r4, .inl (gI g, 64, .inl ml))]) (some (.int (0 : Int32)))) 0 0 (et_ad ([(md, .inr (5, [.int th, .int mF, .int mR, .ref r1, .ref r2, .ref r3, .int (zI false), .int mk, .int mw, .int mm, .int mb, .int ms, .ref r4, .int my])), (r1, .inl (gJ g, 327680, .inr (.inl tb))), (r2, .inl (gZ g, 6, .inl bu)), (r3, .inl (gI g, 6, .inl gr)), (r4, .inl (gI g, 64, .inl ml))])) := by
  refine et_startW (by decide) rfl (Nat.le_of_ble_eq_true rfl) ?_
  intro p e s m args below meth c hx hb hr hts0 hown hlocks hml hP hC hD hS ls hl
  have hts : ∀ w ∈ W0, w.before args s = true := fun w h => hts0 w (List.mem_cons_of_mem _ h)
  have hown : s.vm.findClass RX5 = some m.cls := hown
  have hl : lv_has ls 3 [(0, .ref md), (1, .int nn)] := hl
  refine lv_aload_n hx hb dX5_run_0 rfl (lv_at hl 0 rfl) ?_
  refine lv_aload_n hx hb dX5_run_1 rfl (lv_at hl 0 rfl) ?_
  refine va_get (D := gD g) (ci := 5) (v := .int (zI false)) (C := RX5) (T := TX5) (N := 14) hx hb hts inW_X5 hown hC.1 hP 0 rfl rfl 6 (by decide) (hts _ w_739) (fun _ h9 => h9) rfl dX5_run_2 ?_
  refine lv_if_ne (tgt := 12) hx hb dX5_run_5 (by decide) (fun c_1 => ?_) (fun c_1 => ?_)
  · exact absurd c_1 (by decide)
  refine lv_iconst (v := (1 : Int32)) hx hb dX5_run_8 (by decide) ?_
  refine lv_goto (tgt := 27) hx hb dX5_run_9 (by decide) ?_
  refine va_put (D := gD g) (ci := 5) (v := .int (1 : Int32)) (ty := .int) (C := RX5) (T := TX5) (N := 14) hx hb hts inW_X5 tyX5 tyX5_ok nmX5 hown hC.1 hP hD hS 0 rfl rfl 0 (by decide) (hts _ w_733) (fun _ h9 => h9) rfl (by decide +kernel) rfl rfl (Nat.le_of_ble_eq_true rfl) dX5_run_27 (fun H locs hP hD hS => ?_)
  have hP : va_P (gD g) vwCl ([(md, .inr (5, [.int (1 : Int32), .int mF, .int mR, .ref r1, .ref r2, .ref r3, .int (zI false), .int mk, .int mw, .int mm, .int mb, .int ms, .ref r4, .int my])), (r1, .inl (gJ g, 327680, .inr (.inl tb))), (r2, .inl (gZ g, 6, .inl bu)), (r3, .inl (gI g, 6, .inl gr)), (r4, .inl (gI g, 64, .inl ml))]) H := hP
  have hD : va_D (et_ad ([(md, .inr (5, [.int th, .int mF, .int mR, .ref r1, .ref r2, .ref r3, .int (zI false), .int mk, .int mw, .int mm, .int mb, .int ms, .ref r4, .int my])), (r1, .inl (gJ g, 327680, .inr (.inl tb))), (r2, .inl (gZ g, 6, .inl bu)), (r3, .inl (gI g, 6, .inl gr)), (r4, .inl (gI g, 64, .inl ml))])) ([(md, .inr (5, [.int (1 : Int32), .int mF, .int mR, .ref r1, .ref r2, .ref r3, .int (zI false), .int mk, .int mw, .int mm, .int mb, .int ms, .ref r4, .int my])), (r1, .inl (gJ g, 327680, .inr (.inl tb))), (r2, .inl (gZ g, 6, .inl bu)), (r3, .inl (gI g, 6, .inl gr)), (r4, .inl (gI g, 64, .inl ml))]) := hD
  refine lv_aload_n hx hb dX5_run_30 rfl (lv_at hl 0 rfl) ?_
  refine va_get (D := gD g) (ci := 5) (v := .int (1 : Int32)) (C := RX5) (T := TX5) (N := 14) hx hb hts inW_X5 hown hC.1 hP 0 rfl rfl 0 (by decide) (hts _ w_733) (fun _ h9 => h9) rfl dX5_run_31 ?_
  refine lv_if_le (tgt := 39) hx hb dX5_run_34 (by decide) (fun c_2 => ?_) (fun c_2 => ?_)
  · exact absurd c_2 (by decide)
  refine lv_iconst (v := (0 : Int32)) hx hb dX5_run_37 (by decide) ?_
  exact et_iretW hx hb hr hlocks dX5_run_38 hP hS rfl rfl
