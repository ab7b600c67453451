/-! methods that throw -/
def et_tw : List Cond := (vx_atS RX4 67 "java/lang/IllegalArgumentException" ["java/lang/RuntimeException", "java/lang/Exception"] ++ (vx_atS RX4 93 "java/lang/IndexOutOfBoundsException" ["java/lang/RuntimeException", "java/lang/Exception"] ++ vx_atS RX4 147 "java/lang/IllegalStateException" ["java/lang/RuntimeException", "java/lang/Exception"])).filter (fun w => !goodWord w)
def et_twk (w : Cond) : Bool := match w with
  | .castable _ _ => true
  | .declares _ => true
  | _ => false
theorem et_twa : et_tw.all et_twk = true := by decide +kernel
theorem et_two : et_tw.all (fun w => w.onTables) = true := by decide +kernel
theorem et_tw_on {w : Cond} (h : w ∈ et_tw) : w.onTables = true := List.all_eq_true.mp et_two w h
theorem et_tw_warm {w : Cond} (h : w ∈ et_tw) {s U : State} (hW : s.WarmedH U.vm) (hz : va_Nw w s) : va_Nw w U := by
  have hk := List.all_eq_true.mp et_twa w h
  cases w <;> first | exact va_Nw.warmC hW hz | exact va_Nw.warmD hW hz | (simp [et_twk] at hk)
def et_str : List (Nat × String) := [(65, "not a position"), (168, "not a kind, or not a side"), (91, "not so many positions"), (94, "not a kind"), (163, "no position is set"), (133, "nothing of that number is told"), (138, "no such move"), (145, "no move"), (155, "not a move of the position"), (161, "not 0 to 100 moves")]
def et_TH (A : Nat → Prop) (U : State) : Prop := (∀ q ∈ et_str, ∃ sa : Nat, vk_R RX4 q.1 q.2 sa U) ∧ (∀ w ∈ et_tw, va_Nw w U) ∧ vx_Zq Bundle.tN "UNASSIGNED_STACK" Bundle.steD A U U.heap ∧ vx_Zq Bundle.tN "SUPPRESSED_SENTINEL" Bundle.listD A U U.heap
theorem et_TH.blind {A : Nat → Prop} : et_blind (et_TH A) := fun a U f mk h => ⟨fun q hq => by
    obtain ⟨sa, h1⟩ := h.1 q hq
    exact ⟨sa, vk_R.same (u := U) (U := U.calling f mk a) rfl h1⟩, fun w hw => va_Nw.same (u := U) (U := U.calling f mk a) (et_tw_on hw) rfl (h.2.1 w hw), h.2.2.1.moved (u := U) (U := U.calling f mk a) (Vm.Alike.refl U.vm), h.2.2.2.moved (u := U) (U := U.calling f mk a) (Vm.Alike.refl U.vm)⟩
theorem et_TH.at {A B : Nat → Prop} {s : State} {H : Heap} {locs : List Loc} (h : et_TH A s) (hS : va_S A s.heap H locs) (hB : ∀ q, B q → A q) (U : State) (hU : U.heap = H) (hW : s.WarmedH U.vm) : et_TH B U := by
  unfold et_TH
  rw [hU]
  obtain ⟨h1, h2, h3, h4⟩ := h
  exact ⟨fun q hq => by obtain ⟨sa, e⟩ := h1 q hq; exact ⟨sa, e.warm hW⟩, fun w hw => et_tw_warm hw hW (h2 w hw), ((h3.kept hS.2.1).moved hW.alike).narrow hB, ((h4.kept hS.2.1).moved hW.alike).narrow hB⟩
theorem et_hatg {args : Array Value} {s : State} {A : Nat → Prop} {L : List Cond} (hts : ∀ w ∈ W0, w.before args s = true) (hX : et_TH A s) (h1 : ∀ w ∈ L.filter goodWord, w ∈ lw_tbl) (h2 : ∀ w ∈ L.filter (fun w => !goodWord w), w ∈ et_tw) : ∀ w ∈ L, w.before args s = true :=
  vx_hat (fun w hw => hts w (List.mem_filter.mpr ⟨h1 w hw, (List.mem_filter.mp hw).2⟩)) h2 (fun w hw => va_Nw.use (et_tw_on hw) (hX.2.1 w hw))
theorem et_hat67 {args : Array Value} {s : State} {A : Nat → Prop} (hts : ∀ w ∈ W0, w.before args s = true) (hX : et_TH A s) : ∀ w ∈ vx_atS RX4 67 "java/lang/IllegalArgumentException" ["java/lang/RuntimeException", "java/lang/Exception"], w.before args s = true :=
  et_hatg hts hX (by decide +kernel) (fun w hw => List.mem_filter.mpr ⟨List.mem_append_left _ (List.mem_filter.mp hw).1, (List.mem_filter.mp hw).2⟩)
theorem et_hat93 {args : Array Value} {s : State} {A : Nat → Prop} (hts : ∀ w ∈ W0, w.before args s = true) (hX : et_TH A s) : ∀ w ∈ vx_atS RX4 93 "java/lang/IndexOutOfBoundsException" ["java/lang/RuntimeException", "java/lang/Exception"], w.before args s = true :=
  et_hatg hts hX (by decide +kernel) (fun w hw => List.mem_filter.mpr ⟨List.mem_append_right _ (List.mem_append_left _ (List.mem_filter.mp hw).1), (List.mem_filter.mp hw).2⟩)
theorem et_hat147 {args : Array Value} {s : State} {A : Nat → Prop} (hts : ∀ w ∈ W0, w.before args s = true) (hX : et_TH A s) : ∀ w ∈ vx_atS RX4 147 "java/lang/IllegalStateException" ["java/lang/RuntimeException", "java/lang/Exception"], w.before args s = true :=
  et_hatg hts hX (by decide +kernel) (fun w hw => List.mem_filter.mpr ⟨List.mem_append_right _ (List.mem_append_right _ (List.mem_filter.mp hw).1), (List.mem_filter.mp hw).2⟩)
/-- which exception: 1, 2, 3 -/
def et_exn : Nat → String
  | 1 => "java/lang/IllegalArgumentException"
  | 2 => "java/lang/IndexOutOfBoundsException"
  | _ => "java/lang/IllegalStateException"
def et_QT (M : Nat × Int32) (A : Nat → Prop) : Array Value → State → Outcome → State → Prop := fun _ st oc t => ∃ v : Int32, oc = .returned (some (.int v)) ∧ M = (0, v) ∧ va_F A st t
def et_QT0 (M : Nat × Int32) (A : Nat → Prop) : Array Value → State → Outcome → State → Prop := fun _ st oc t => oc = .returned none ∧ M = (0, (0 : Int32)) ∧ va_F A st t
def et_XT (M : Nat × Int32) (A : Nat → Prop) : String → State → State → Prop := fun E st t => ∃ k : Nat, k ≠ 0 ∧ et_exn k = E ∧ M = (k, (0 : Int32)) ∧ va_F A st t
section EtT
variable {l : Launch} {y : MethodName} {ws ws' : List Cond} {rm : Room} {g : et_G} {world : va_W} {av : List Value} {cc : ByteArray} {maxL mc ms sz : Nat} {ret : Option FieldType} {X : State → Prop} {Qc : Array Value → State → Outcome → State → Prop} {XC : String → State → State → Prop}
theorem et_startT (hy : plainName y.cls = true) (hw : ws = Cond.code y cc maxL ret :: ws') (hn : (lg_sl av).length ≤ maxL)
    (body : ∀ (p : Program) (e : Env) (s : State) (m : MethodId) (args : Array Value) (below : List Frame) (meth : Method) (c : Code), p.tables.exec = Jvm.exec → c.code = cc → meth.sig.returnType = ret → (∀ w ∈ ws, w.before args s = true) → s.vm.findClass y.cls = some m.cls → meth.locks = false → c.maxLocals = maxL → (∀ x ∈ c.exceptionTable.toList, False) → s.heap.size = sz → va_P (gD g) vwCl world s.heap → et_C g s → X s → va_D (va_A world sz) world → va_S (va_A world sz) s.heap s.heap [] → (∀ q : Nat, s.heap.size ≤ q → va_A world sz q) → ∀ ls : Array Slot, lv_has ls maxL (lv_args 0 av) → W p l e rm s m args below meth c s.heap [] 0 0 (vx_MQ below Qc XC args s mc ms (va_A world sz)) (F0 m 0 ls [])) :
    vx_Met l y ws rm (et_PcN g sz world av X) Qc XC mc ms (va_A world sz) := by
  refine vx_ofW (cc := cc) (maxL := maxL) (ret := ret) hy hw ?_
  intro p e s m args below meth c s₁ B hml htab hv
  obtain ⟨rfl, hsz, hP, hC, hD, hX⟩ := hv
  have hl := lv_entry av (n := maxL) hn
  rw [lg_entry_eq]
  exact body p e s m _ below meth c B.exec B.bytes B.returns (atoms_spec (ws := ws) B.pre) (findClass_of_methodNamed B.named) B.notSynchronized hml htab hsz hP hC hX hD.self va_S.rf (fun q h => Or.inr (hsz ▸ h)) _ hl
end EtT
section EtCallT
variable {p : Program} {l : Launch} {e : Env} {R : Room} {s : State} {m : MethodId} {args : Array Value} {below : List Frame} {meth : Method} {c : Code} {H : Heap} {locs : List Loc} {cells slots mc ms : Nat} {Q : State → Prop} {pc : Nat} {ls : Array Slot} {rest st0 : List Value} {a : Array Value} {g : et_G} {ws wc : va_W} {A : Nat → Prop} {H0 : Heap} {X : State → Prop} {M : Nat × Int32}
theorem et_preVN {C : String} {T : u_T} {N q0 ci : Nat} {b : Addr} {fs As : List Value} (hP : va_P (gD g) vwCl ws H) (hC : et_C g s) (hD : va_D A ws) (is : List Nat) (hn : va_nd is = true) (hs : is.map (fun i => ws[i]?) = wc.map some) (hb : et_blind X) (hX : ∀ U : State, U.heap = H → s.WarmedH U.vm → X U) (hc : vwCl[ci]? = some (C, T, N)) (he : ws[q0]? = some (b, .inr (ci, fs))) : PreV s H C b (et_PcN g H.size wc (.ref b :: As) X) As :=
  ⟨et_PcN.blind hb, va_recv hC.1 hP hc he, fun U hU hW => ⟨rfl, by rw [hU], by rw [hU]; exact hP.sub is (et_filter hs), hC.warm hW, (hD.sub is hn hs).weaken (fun _ _ _ _ => trivial), hX U hU hW⟩⟩
/-- a checker: it throws, or all is as it was but for its own cells, which are not used again -/
theorem et_callT0 (hr : vx_Run p l e R s m args below meth c H locs cells slots mc ms (F0 m pc ls st0) rest (et_QT0 M (va_A wc H.size) a) (et_XT M (va_A wc H.size)) (va_A wc H.size)) (hP : va_P (gD g) vwCl ws H) (hD : va_D A ws) (hS : va_S A H0 H locs) (hF : ∀ q, va_A wc H.size q → A q) (is : List Nat) (hwc : is = [])
    (kx : ∀ (k : Nat) (E : String) (ce : Cell) (q9 : Addr) (H1 : Heap) (locs1 : List Loc), k ≠ 0 → et_exn k = E → M = (k, (0 : Int32)) → va_S A H0 H1 locs1 → H1[q9]? = some ce → ce.vm = .none → s.vm.findClass E = some ce.cls → vx_W p l e R s m args below meth c H1 locs1 (cells + mc) (slots + ms) Q (F0 m pc ls rest) q9)
    (kk : M = (0, (0 : Int32)) → ∀ (H1 : Heap) (locs1 : List Loc), va_P (gD g) vwCl ws H1 → va_D A ws → va_S A H0 H1 locs1 → W p l e R s m args below meth c H1 locs1 (cells + mc) (slots + ms) Q (F0 m (pc + 3) ls rest)) (hwc2 : wc = [] := by rfl) : W p l e R s m args below meth c H locs cells slots Q (F0 m pc ls st0) := by
  intro T hT X
  subst hwc2
  have key : ∀ {t T' : State} {st₀ : State} {L : List Loc}, st₀.heap = H → T'.heap = t.heap → va_F (va_A [] H.size) st₀ t → (∀ z ∈ L, va_A [] H.size z.base) → va_S A H0 T'.heap (locs ++ L) ∧ ∀ q : Nat, q < H.size → T'.heap[q]? = H[q]? := by
    intro t T' st₀ L h0 e1 hFr hL
    obtain ⟨hz, hk⟩ := hFr
    rw [h0] at hz hk
    have hk2 : ∀ q : Nat, q < H.size → T'.heap[q]? = H[q]? := fun q hq => by
      rw [e1]
      refine hk q hq (fun h => ?_)
      rcases h with ⟨k, e, h⟩ | h
      · simp at h
      · omega
    refine ⟨⟨Nat.le_trans hS.1 (by rw [e1]; exact hz), fun q h1 h2 => (hk2 q (Nat.lt_of_lt_of_le h1 hS.1)).trans (hS.2.1 q h1 h2), fun q hq => ?_⟩, hk2⟩
    rcases List.mem_append.mp hq with h | h
    · exact hS.2.2 q h
    · exact hF _ (hL q h)
  rcases hr T hT X with ⟨v, st₀, t, T', L, h0, X', hL, e1, e2, ⟨hv, hM, hFr⟩, st⟩ | ⟨q, st₀, t, T', L, E, ce, h0, X', hL, e1, e2, ⟨k, hk0, hkE, hM, hFr⟩, hce, hcv, hcl, st⟩
  · cases hv
    obtain ⟨h1, h2⟩ := key h0 e1 hFr hL
    obtain ⟨t2, a1, b1⟩ := kk hM T'.heap (locs ++ L) (hP.kept (fun k q hk => h2 q.1 (hP k q hk).lt)) hD h1 T' rfl X'
    exact ⟨t2, st t2 a1, b1⟩
  · obtain ⟨h1, h2⟩ := key h0 e1 hFr hL
    obtain ⟨t2, a1, b1⟩ := kx k E ce q T'.heap (locs ++ L) hk0 hkE hM h1 (by rw [e1]; exact hce) hcv hcl T' rfl X'
    exact ⟨t2, st.trans a1, b1⟩
end EtCallT

def mX4_checkKindAndSide (kind : Int32) (side : Int32) : Nat × Int32 :=
  if (zI (mX4_isMan kind)) = 0 then
    (1, (0 : Int32))
  else
    if (zI (mX4_isSide side)) = 0 then
      (1, (0 : Int32))
    else
      (0, (0 : Int32))
set_option maxHeartbeats 4000000 in
set_option maxRecDepth 100000 in
theorem c_X4_checkKindAndSide (l : Launch) (hst : l.stackTraces = false) (g : et_G) (sz : Nat) (kind : Int32) (side : Int32)  : vx_Met l yX4_checkKindAndSide (Cond.code yX4_checkKindAndSide cX4_checkKindAndSide 2 none :: W0) ({ frames := 6, cells := 1, slots := 6, locals := 90 } : Room) (et_PcN g sz ([]) [.int kind, .int side] (et_TH (va_A ([]) sz))) (et_QT0 (mX4_checkKindAndSide kind side) (va_A ([]) sz)) (et_XT (mX4_checkKindAndSide kind side) (va_A ([]) sz)) 1 6 (va_A ([]) sz) := by
  refine et_startT (by decide) rfl (Nat.le_of_ble_eq_true rfl) ?_
  intro p e s m args below meth c hx hb hr hts0 hown hlocks hml htab hsz hP hC hX hD hS hA ls hl
  subst hsz
  have hts : ∀ w ∈ W0, w.before args s = true := fun w h => hts0 w (List.mem_cons_of_mem _ h)
  have hown : s.vm.findClass RX4 = some m.cls := hown
  have hl : lv_has ls 2 [(0, .int kind), (1, .int side)] := hl
  refine lv_iload_n hx hb dX4_checkKindAndSide_0 rfl (lv_at hl 0 rfl) ?_
  refine et_callP1 (v := .int (zI (mX4_isMan kind))) (va_runS (As := [.int kind]) (rest := []) ⟨hx, hb, hml, hown, hts⟩ (c_X4_isMan l g kind) (va_cwS 1 hts (W0_gS w_382 w_290 w_76 w_291) rfl rfl rfl (by decide +kernel) ⟨Nat.le_of_ble_eq_true rfl, Nat.le_of_ble_eq_true rfl⟩) (et_preS hP hC [] rfl) rfl rfl hl.1 rfl (lv_room (Nat.le_of_ble_eq_true rfl)) dX4_checkKindAndSide_1 ⟨Nat.le_of_ble_eq_true rfl, Nat.le_of_ble_eq_true rfl⟩) ?_
  refine lv_if_eq (tgt := 14) hx hb dX4_checkKindAndSide_4 (by decide) (fun c_1 => ?_) (fun c_1 => ?_)
  ·
    have hfin : (1, (0 : Int32)) = (mX4_checkKindAndSide kind side) := (by rw [mX4_checkKindAndSide, if_pos c_1])
    obtain ⟨sa, hsa⟩ := hX.1 (168, "not a kind, or not a side") (List.mem_of_getElem? (i := 1) rfl)
    exact vx_throwS (own := RX4) (cls := "java/lang/IllegalArgumentException") (text := "not a kind, or not a side") (names := ["java/lang/RuntimeException", "java/lang/Exception"]) (ik := 63) (is := 168) (ic := 67) hx hb hst hown (by decide +kernel) (by decide +kernel) (hts _ w_383) (hts _ w_86) hsa (et_hat67 hts hX) (by decide +kernel) hX.2.2.1 hX.2.2.2 hS (hl.1.trans hml.symm) dX4_checkKindAndSide_14 dX4_checkKindAndSide_17 dX4_checkKindAndSide_18 dX4_checkKindAndSide_20 dX4_checkKindAndSide_23 (fun x h => (htab x h).elim) (Nat.le_of_ble_eq_true rfl) (Nat.le_of_ble_eq_true rfl) (Nat.le_of_ble_eq_true rfl) (Nat.le_of_ble_eq_true rfl) hlocks (fun t _ h1 h2 => ⟨1, by decide, rfl, hfin.symm, Nat.le_trans hS.1 h1, fun q hq hn => (h2 q (Nat.lt_of_lt_of_le hq hS.1)).trans (hS.2.1 q hq hn)⟩) hS.2.2 (Nat.le_of_ble_eq_true rfl) (Nat.le_of_ble_eq_true rfl)
  ·
    refine lv_iload_n hx hb dX4_checkKindAndSide_7 rfl (lv_at hl 1 rfl) ?_
    refine et_callP1 (v := .int (zI (mX4_isSide side))) (va_runS (As := [.int side]) (rest := []) ⟨hx, hb, hml, hown, hts⟩ (c_X4_isSide l g side) (va_cwS 1 hts (W0_gS w_561 w_293 w_76 w_294) rfl rfl rfl (by decide +kernel) ⟨Nat.le_of_ble_eq_true rfl, Nat.le_of_ble_eq_true rfl⟩) (et_preS hP hC [] rfl) rfl rfl hl.1 rfl (lv_room (Nat.le_of_ble_eq_true rfl)) dX4_checkKindAndSide_8 ⟨Nat.le_of_ble_eq_true rfl, Nat.le_of_ble_eq_true rfl⟩) ?_
    refine lv_if_ne (tgt := 24) hx hb dX4_checkKindAndSide_11 (by decide) (fun c_2 => ?_) (fun c_2 => ?_)
    ·
      have hfin : (0, (0 : Int32)) = (mX4_checkKindAndSide kind side) := (by rw [mX4_checkKindAndSide, if_neg c_1, if_neg c_2])
      refine vx_ret ?_
      refine W.widen (k := 1) (n := 6) (by omega) (by omega) ?_
      exact W.vret hx hb hr (fun t ht hW => ⟨rfl, hfin.symm, hS.F ht⟩) hS.2.2 dX4_checkKindAndSide_24 hlocks
    ·
      have hfin : (1, (0 : Int32)) = (mX4_checkKindAndSide kind side) := (by rw [mX4_checkKindAndSide, if_neg c_1, if_pos c_2])
      obtain ⟨sa, hsa⟩ := hX.1 (168, "not a kind, or not a side") (List.mem_of_getElem? (i := 1) rfl)
      exact vx_throwS (own := RX4) (cls := "java/lang/IllegalArgumentException") (text := "not a kind, or not a side") (names := ["java/lang/RuntimeException", "java/lang/Exception"]) (ik := 63) (is := 168) (ic := 67) hx hb hst hown (by decide +kernel) (by decide +kernel) (hts _ w_383) (hts _ w_86) hsa (et_hat67 hts hX) (by decide +kernel) hX.2.2.1 hX.2.2.2 hS (hl.1.trans hml.symm) dX4_checkKindAndSide_14 dX4_checkKindAndSide_17 dX4_checkKindAndSide_18 dX4_checkKindAndSide_20 dX4_checkKindAndSide_23 (fun x h => (htab x h).elim) (Nat.le_of_ble_eq_true rfl) (Nat.le_of_ble_eq_true rfl) (Nat.le_of_ble_eq_true rfl) (Nat.le_of_ble_eq_true rfl) hlocks (fun t _ h1 h2 => ⟨1, by decide, rfl, hfin.symm, Nat.le_trans hS.1 h1, fun q hq hn => (h2 q (Nat.lt_of_lt_of_le hq hS.1)).trans (hS.2.1 q hq hn)⟩) hS.2.2 (Nat.le_of_ble_eq_true rfl) (Nat.le_of_ble_eq_true rfl)
